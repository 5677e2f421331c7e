/-! the reference's small methods -/
abbrev gy (N C L : Nat) (tm : Int32) (ds vc qa ql dr : Nat → Int32) (ti aj ig off dl t1 t2 t3 t4 ct : Nat → Int64) (md la lb da db lu es st sv sa : Nat → Int32) : SY := (nI N, nI C, tm, nI L, ds, vc, qa, ql, dr, ti, aj, ig, off, dl, t1, t2, t3, t4, ct, md, la, lb, da, db, lu, es, st, sv, sa)
section
variable {N C L : Nat} {tm : Int32} {RW ds vc qa ql dr md la lb da db lu es st sv sa ec ed : Nat → Int32} {ti aj ig off dl t1 t2 t3 t4 ct : Nat → Int64}
theorem y_clamp {post : Int32 → Prop} {v lo hi : Int32} (h : post (gc_cl v lo hi)) : wpY_clampI post (gy N C L tm ds vc qa ql dr ti aj ig off dl t1 t2 t3 t4 ct md la lb da db lu es st sv sa) v lo hi := by
  unfold gc_cl at h
  by_cases h1 : v < lo
  · rw [if_pos h1] at h
    exact br_f (Int32.not_le.mpr h1) h
  · rw [if_neg h1] at h
    refine br_t (Int32.not_lt.mp h1) ?_
    by_cases h2 : hi < v
    · rw [if_pos h2] at h
      exact br_f (Int32.not_le.mpr h2) h
    · rw [if_neg h2] at h
      exact br_t (Int32.not_lt.mp h2) h
theorem y_clampL {post : Int64 → Prop} {v lo hi : Int64} (h : post (gc_clL v lo hi)) : wpY_clampL post (gy N C L tm ds vc qa ql dr ti aj ig off dl t1 t2 t3 t4 ct md la lb da db lu es st sv sa) v lo hi := by
  unfold gc_clL at h
  by_cases h1 : v < lo
  · rw [if_pos h1] at h
    exact br_f (Int64.not_le.mpr h1) h
  · rw [if_neg h1] at h
    refine br_t (Int64.not_lt.mp h1) ?_
    by_cases h2 : hi < v
    · rw [if_pos h2] at h
      exact br_f (Int64.not_le.mpr h2) h
    · rw [if_neg h2] at h
      exact br_t (Int64.not_lt.mp h2) h
theorem y_bad_f {post : Int32 → Prop} {c : Nat} (hN : N ≤ 8) (hc : c < N) (h : post 0) : wpY_bad post (gy N C L tm ds vc qa ql dr ti aj ig off dl t1 t2 t3 t4 ct md la lb da db lu es st sv sa) (nI c) :=
  br_f (nI_pos (by omega)) (br_t (nI_lt hc (by omega)) h)
theorem y_bad_t {post : Int32 → Prop} {x : Int32} (hx : x < 0 ∨ nI N ≤ x) (h : post 1) : wpY_bad post (gy N C L tm ds vc qa ql dr ti aj ig off dl t1 t2 t3 t4 ct md la lb da db lu es st sv sa) x := by
  by_cases q : x < 0
  · exact br_t q h
  · exact br_f q (br_f (Int32.not_lt.mpr (hx.resolve_left q)) h)
theorem y_clockAt {post : Int32 → Prop} {e : Nat} (hL : L ≤ 16) (he : e < 2 * L) (HE : gc_E N L ec la lb) (h : post (ec e)) : wpY_clockAt post (gy N C L tm ds vc qa ql dr ti aj ig off dl t1 t2 t3 t4 ct md la lb da db lu es st sv sa) (nI e) := by
  obtain ⟨g1, g2, _, _⟩ := HE (e / 2) (by omega)
  unfold wpY_clockAt
  dsimp only
  rw [ix_n1 (by omega), ix_s1 (by omega), nI_clamp (by omega)]
  rcases (by omega : e % 2 = 0 ∨ e % 2 = 1) with q | q
  · rw [show 2 * (e / 2) = e by omega] at g1
    rw [g1] at h
    exact br_t (by rw [q]; rfl) ⟨vp_in_nI (by omega) (by omega), h⟩
  · rw [show 2 * (e / 2) + 1 = e by omega] at g2
    rw [g2] at h
    exact br_f (by rw [q]; decide) ⟨vp_in_nI (by omega) (by omega), h⟩
theorem y_fld2 {post : Int32 → Prop} {e f : Nat} (he : e < 32) (hf : f < 8) (HS : gc_S RW st sv sa) (h : post (RW ((16 + e) * 10 + f))) : wpY_fld post (gy N C L tm ds vc qa ql dr ti aj ig off dl t1 t2 t3 t4 ct md la lb da db lu es st sv sa) 2 (nI e) (nI f) := by
  rw [(HS e he).1 f hf] at h
  unfold wpY_fld
  dsimp only
  rw [ix_m8, nI_add, nI_clamp (by omega)]
  exact br_f (by decide) (br_f (by decide) ⟨vp_in_nI (by omega) (by omega), h⟩)
theorem y_fld1 {post : Int32 → Prop} {c f : Nat} (hN : N ≤ 8) (hc : c < N) (hf : f < 8) (HV : gc_V N RW vc) (h : post (RW ((8 + c) * 10 + f))) : wpY_fld post (gy N C L tm ds vc qa ql dr ti aj ig off dl t1 t2 t3 t4 ct md la lb da db lu es st sv sa) 1 (nI c) (nI f) := by
  rw [(HV c hc).1 f hf] at h
  unfold wpY_fld
  dsimp only
  rw [ix_m8, nI_add, nI_clamp (by omega)]
  exact br_f (by decide) (br_t rfl ⟨vp_in_nI (by omega) (by omega), h⟩)
theorem y_fld0 {post : Int32 → Prop} {c f : Nat} (hN : N ≤ 8) (hc : c < N) (hf : f < 6) (HD : gc_D N RW ds) (h : post (RW (c * 10 + f))) : wpY_fld post (gy N C L tm ds vc qa ql dr ti aj ig off dl t1 t2 t3 t4 ct md la lb da db lu es st sv sa) 0 (nI c) (nI f) := by
  rw [(HD c hc).1 f hf] at h
  unfold wpY_fld
  dsimp only
  rw [ix_m6, nI_add, nI_clamp (by omega)]
  exact br_t rfl (br_f (nI_ge (b := 6) hf (by omega)) ⟨vp_in_nI (by omega) (by omega), h⟩)
end
