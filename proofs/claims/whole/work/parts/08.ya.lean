/-! the reference's small methods -/
abbrev gy (N C L : Nat) (tm : Int32) (ds vc qa ql dr : Nat → Int32) (ti aj ig off dl t1 t2 t3 t4 ct : Nat → Int64) (md la lb da db lu es st sv sa : Nat → Int32) : SY := (nI N, nI C, tm, nI L, ds, vc, qa, ql, dr, ti, aj, ig, off, dl, t1, t2, t3, t4, ct, md, la, lb, da, db, lu, es, st, sv, sa)
section
variable {N C L : Nat} {tm : Int32} {RW ds vc qa ql dr md la lb da db lu es st sv sa ec ed : Nat → Int32} {ti aj ig off dl t1 t2 t3 t4 ct : Nat → Int64}
theorem y_clamp {post : Int32 → Prop} {v lo hi : Int32} (h : post (gc_cl v lo hi)) : wpY_clampI post (gy N C L tm ds vc qa ql dr ti aj ig off dl t1 t2 t3 t4 ct md la lb da db lu es st sv sa) v lo hi := by
  unfold gc_cl at h
  by_cases h1 : v < lo
  · rw [if_pos h1] at h
    exact br_f (Int32.not_le.mpr h1) h
  · rw [if_neg h1] at h
    refine br_t (Int32.not_lt.mp h1) ?_
    by_cases h2 : hi < v
    · rw [if_pos h2] at h
      exact br_f (Int32.not_le.mpr h2) h
    · rw [if_neg h2] at h
      exact br_t (Int32.not_lt.mp h2) h
theorem y_clampL {post : Int64 → Prop} {v lo hi : Int64} (h : post (gc_clL v lo hi)) : wpY_clampL post (gy N C L tm ds vc qa ql dr ti aj ig off dl t1 t2 t3 t4 ct md la lb da db lu es st sv sa) v lo hi := by
  unfold gc_clL at h
  by_cases h1 : v < lo
  · rw [if_pos h1] at h
    exact br_f (Int64.not_le.mpr h1) h
  · rw [if_neg h1] at h
    refine br_t (Int64.not_lt.mp h1) ?_
    by_cases h2 : hi < v
    · rw [if_pos h2] at h
      exact br_f (Int64.not_le.mpr h2) h
    · rw [if_neg h2] at h
      exact br_t (Int64.not_lt.mp h2) h
theorem y_bad_f {post : Int32 → Prop} {c : Nat} (hN : N ≤ 8) (hc : c < N) (h : post 0) : wpY_bad post (gy N C L tm ds vc qa ql dr ti aj ig off dl t1 t2 t3 t4 ct md la lb da db lu es st sv sa) (nI c) :=
  br_f (nI_pos (by omega)) (br_t (nI_lt hc (by omega)) h)
theorem y_bad_t {post : Int32 → Prop} {x : Int32} (hx : x < 0 ∨ nI N ≤ x) (h : post 1) : wpY_bad post (gy N C L tm ds vc qa ql dr ti aj ig off dl t1 t2 t3 t4 ct md la lb da db lu es st sv sa) x := by
  by_cases q : x < 0
  · exact br_t q h
  · exact br_f q (br_f (Int32.not_lt.mpr (hx.resolve_left q)) h)
theorem y_clockAt {post : Int32 → Prop} {e : Nat} (hL : L ≤ 16) (he : e < 2 * L) (HE : gc_E N L ec la lb) (h : post (ec e)) : wpY_clockAt post (gy N C L tm ds vc qa ql dr ti aj ig off dl t1 t2 t3 t4 ct md la lb da db lu es st sv sa) (nI e) := by
  obtain ⟨g1, g2, _, _⟩ := HE (e / 2) (by omega)
  unfold wpY_clockAt
  dsimp only
  rw [ix_n1 (by omega), ix_s1 (by omega), nI_clamp (by omega)]
  rcases (by omega : e % 2 = 0 ∨ e % 2 = 1) with q | q
  · rw [show 2 * (e / 2) = e by omega] at g1
    rw [g1] at h
    exact br_t (by rw [q]; rfl) ⟨vp_in_nI (by omega) (by omega), h⟩
  · rw [show 2 * (e / 2) + 1 = e by omega] at g2
    rw [g2] at h
    exact br_f (by rw [q]; decide) ⟨vp_in_nI (by omega) (by omega), h⟩
theorem y_fld2 {post : Int32 → Prop} {e f : Nat} (he : e < 32) (hf : f < 8) (HS : gc_S RW st sv sa) (h : post (RW ((16 + e) * 10 + f))) : wpY_fld post (gy N C L tm ds vc qa ql dr ti aj ig off dl t1 t2 t3 t4 ct md la lb da db lu es st sv sa) 2 (nI e) (nI f) := by
  rw [(HS e he).1 f hf] at h
  unfold wpY_fld
  simp (disch := omega) only [ix_m6, ix_m8, ix_m9, ix_m10, ix_m2, ix_2m, ix_8a, ix_16a, ix_a0, ix_a1, ix_a2, ix_a3, ix_a4, ix_a5, ix_a6, ix_a7, ix_a8, ix_a9, nI_add, nI_clamp]
  exact br_f (by decide) (br_f (by decide) ⟨vp_in_nI (by omega) (by omega), h⟩)
theorem y_fld1 {post : Int32 → Prop} {c f : Nat} (hN : N ≤ 8) (hc : c < N) (hf : f < 8) (HV : gc_V N RW vc) (h : post (RW ((8 + c) * 10 + f))) : wpY_fld post (gy N C L tm ds vc qa ql dr ti aj ig off dl t1 t2 t3 t4 ct md la lb da db lu es st sv sa) 1 (nI c) (nI f) := by
  rw [(HV c hc).1 f hf] at h
  unfold wpY_fld
  simp (disch := omega) only [ix_m6, ix_m8, ix_m9, ix_m10, ix_m2, ix_2m, ix_8a, ix_16a, ix_a0, ix_a1, ix_a2, ix_a3, ix_a4, ix_a5, ix_a6, ix_a7, ix_a8, ix_a9, nI_add, nI_clamp]
  exact br_f (by decide) (br_t trivial ⟨vp_in_nI (by omega) (by omega), h⟩)
theorem y_fld0 {post : Int32 → Prop} {c f : Nat} (hN : N ≤ 8) (hc : c < N) (hf : f < 6) (HD : gc_D N RW ds) (h : post (RW (c * 10 + f))) : wpY_fld post (gy N C L tm ds vc qa ql dr ti aj ig off dl t1 t2 t3 t4 ct md la lb da db lu es st sv sa) 0 (nI c) (nI f) := by
  rw [(HD c hc).1 f hf] at h
  unfold wpY_fld
  simp (disch := omega) only [ix_m6, ix_m8, ix_m9, ix_m10, ix_m2, ix_2m, ix_8a, ix_16a, ix_a0, ix_a1, ix_a2, ix_a3, ix_a4, ix_a5, ix_a6, ix_a7, ix_a8, ix_a9, nI_add, nI_clamp]
  exact br_t trivial (br_f (nI_ge (b := 6) hf (by omega)) ⟨vp_in_nI (by omega) (by omega), h⟩)
theorem y_cmpl {post : Int32 → Prop} {x y K : Nat} {ka ia kb ib : Int32} (hK : K ≤ 8) (hA : ∀ f, f < K → ∀ post : Int32 → Prop, post (RW (x + f)) → wpY_fld post (gy N C L tm ds vc qa ql dr ti aj ig off dl t1 t2 t3 t4 ct md la lb da db lu es st sv sa) ka ia (nI f)) (hB : ∀ f, f < K → ∀ post : Int32 → Prop, post (RW (y + f)) → wpY_fld post (gy N C L tm ds vc qa ql dr ti aj ig off dl t1 t2 t3 t4 ct md la lb da db lu es st sv sa) kb ib (nI f)) : ∀ k i, i + k = K → post (gc_cmp (fun f => RW (x + f)) (fun f => RW (y + f)) k i) → wY_cmp_3 post ka ia kb ib (nI K) (nI N) (nI C) tm (nI L) ds vc qa ql dr ti aj ig off dl t1 t2 t3 t4 ct md la lb da db lu es st sv sa (k + 1) (nI i)
  | 0, i, hi, h => br_t (nI_le (by omega) (by omega)) h
  | k + 1, i, hi, h => by
    rw [gc_cmp] at h
    refine br_f (nI_ge (by omega) (by omega)) (hA i (by omega) _ (hB i (by omega) _ ?_))
    by_cases q : RW (x + i) = RW (y + i)
    · rw [if_pos q] at h
      exact br_t (by rw [q]; exact Int32.le_refl _) (br_t (by rw [q]; exact Int32.le_refl _) (nm_r (nI_1 i) (y_cmpl hK hA hB k (i + 1) (by omega) h)))
    · rw [if_neg q] at h
      by_cases r : RW (x + i) < RW (y + i)
      · rw [if_pos r] at h
        exact br_f (Int32.not_le.mpr r) h
      · rw [if_neg r] at h
        exact br_t (Int32.not_lt.mp r) (br_f (fun z => q (Int32.le_antisymm z (Int32.not_lt.mp r))) h)
theorem y_cmp {post : Int32 → Prop} {x y K : Nat} {ka ia kb ib : Int32} (hK : K ≤ 8) (hA : ∀ f, f < K → ∀ post : Int32 → Prop, post (RW (x + f)) → wpY_fld post (gy N C L tm ds vc qa ql dr ti aj ig off dl t1 t2 t3 t4 ct md la lb da db lu es st sv sa) ka ia (nI f)) (hB : ∀ f, f < K → ∀ post : Int32 → Prop, post (RW (y + f)) → wpY_fld post (gy N C L tm ds vc qa ql dr ti aj ig off dl t1 t2 t3 t4 ct md la lb da db lu es st sv sa) kb ib (nI f)) (h : post (gs_cmp RW x y K)) : wpY_cmp post (gy N C L tm ds vc qa ql dr ti aj ig off dl t1 t2 t3 t4 ct md la lb da db lu es st sv sa) ka ia kb ib (nI K) :=
  ⟨K + 1, y_cmpl hK hA hB K 0 (by omega) h⟩
theorem y_clearl {post : SY → Prop} {e : Nat} (he : e < 32) (h : post (gy N C L tm ds vc qa ql dr ti aj ig off dl t1 t2 t3 t4 ct md la lb da db lu es (gc_cp st gc_z 0 (e * 8) 8) sv sa)) : ∀ k i, i + k = 8 → wY_clearStore_16 post (nI e) (nI N) (nI C) tm (nI L) (k + 1) (nI i) ds vc qa ql dr ti aj ig off dl t1 t2 t3 t4 ct md la lb da db lu es (gc_cp st gc_z 0 (e * 8) i) sv sa
  | 0, i, hi => by
    obtain rfl : i = 8 := by omega
    exact br_t (nI_le (a := 8) (b := 8) (by omega) (by omega)) h
  | k + 1, i, hi => by
    have v2 : vp_in (nI e * 8 + nI i) 256 := by rw [ix_m8, nI_add]; exact vp_in_nI (by omega) (by omega)
    have q : upd (gc_cp st gc_z 0 (e * 8) i) (nI e * 8 + nI i).toNatClampNeg 0 = gc_cp st gc_z 0 (e * 8) (i + 1) := by
      rw [ix_m8, nI_add, nI_clamp (by omega)]
      exact gc_cpS st gc_z 0 (e * 8) i
    exact br_f (nI_ge (b := 8) (by omega) (by omega)) ⟨v2, nm_r q (nm_r (nI_1 i) (y_clearl he h k (i + 1) (by omega)))⟩
theorem y_clear {post : SY → Prop} {e : Nat} (he : e < 32) (h : post (gy N C L tm ds vc qa ql dr ti aj ig off dl t1 t2 t3 t4 ct md la lb da db lu es (gc_cp st gc_z 0 (e * 8) 8) (upd sv e 0) (upd sa e 0))) : wpY_clearStore post (gy N C L tm ds vc qa ql dr ti aj ig off dl t1 t2 t3 t4 ct md la lb da db lu es st sv sa) (nI e) := by
  have l := y_clearl (sv := upd sv e 0) (sa := upd sa e 0) he h 8 0 (by omega)
  rw [gc_cp0] at l
  unfold wpY_clearStore
  rw [nI_clamp (by omega)]
  exact ⟨vp_in_nI he (by omega), nm_e ⟨vp_in_nI he (by omega), nm_e ⟨_, l⟩⟩⟩
theorem y_copyl {post : SY → Prop} {e c : Nat} (he : e < 32) (hc : c < 8) (h : post (gy N C L tm ds vc qa ql dr ti aj ig off dl t1 t2 t3 t4 ct md la lb da db lu es (gc_cp st vc (c * 8) (e * 8) 8) (upd sv e 1) (upd sa e 0))) : ∀ k i, i + k = 8 → wY_copyV_2 post (nI e) (nI c) (nI N) (nI C) tm (nI L) (k + 1) (nI i) ds vc qa ql dr ti aj ig off dl t1 t2 t3 t4 ct md la lb da db lu es (gc_cp st vc (c * 8) (e * 8) i) sv sa
  | 0, i, hi => by
    obtain rfl : i = 8 := by omega
    have q1 : upd sv (nI e).toNatClampNeg 1 = upd sv e 1 := by rw [nI_clamp (by omega)]
    have q2 : upd sa (nI e).toNatClampNeg 0 = upd sa e 0 := by rw [nI_clamp (by omega)]
    exact br_t (nI_le (a := 8) (b := 8) (by omega) (by omega)) ⟨vp_in_nI he (by omega), nm_r q1 ⟨vp_in_nI he (by omega), nm_r q2 h⟩⟩
  | k + 1, i, hi => by
    have v1 : vp_in (nI c * 8 + nI i) 64 := by rw [ix_m8, nI_add]; exact vp_in_nI (by omega) (by omega)
    have v2 : vp_in (nI e * 8 + nI i) 256 := by rw [ix_m8, nI_add]; exact vp_in_nI (by omega) (by omega)
    have q : upd (gc_cp st vc (c * 8) (e * 8) i) (nI e * 8 + nI i).toNatClampNeg (vc (nI c * 8 + nI i).toNatClampNeg) = gc_cp st vc (c * 8) (e * 8) (i + 1) := by
      rw [ix_m8, ix_m8, nI_add, nI_add, nI_clamp (by omega), nI_clamp (by omega)]
      exact gc_cpS st vc (c * 8) (e * 8) i
    exact br_f (nI_ge (b := 8) (by omega) (by omega)) ⟨v1, v2, nm_r q (nm_r (nI_1 i) (y_copyl he hc h k (i + 1) (by omega)))⟩
theorem y_copyV {post : SY → Prop} {e c : Nat} (he : e < 32) (hc : c < 8) (h : post (gy N C L tm ds vc qa ql dr ti aj ig off dl t1 t2 t3 t4 ct md la lb da db lu es (gc_cp st vc (c * 8) (e * 8) 8) (upd sv e 1) (upd sa e 0))) : wpY_copyV post (gy N C L tm ds vc qa ql dr ti aj ig off dl t1 t2 t3 t4 ct md la lb da db lu es st sv sa) (nI e) (nI c) := by
  have l := y_copyl he hc h 8 0 (by omega)
  rw [gc_cp0] at l
  exact ⟨_, l⟩
theorem y_resetl {post : SY → Prop} {c : Nat} (hc : c < 8) (h : post (gy N C L tm ds (upd (upd (gc_cp vc ds (c * 6) (c * 8) 6) (c * 8 + 6) 0) (c * 8 + 7) (nI c)) qa ql dr ti aj ig off dl t1 t2 t3 t4 ct md la lb da db lu es st sv sa)) : ∀ k i, i + k = 6 → wY_resetV_2 post (nI c) (nI N) (nI C) tm (nI L) (k + 1) (nI i) ds (gc_cp vc ds (c * 6) (c * 8) i) qa ql dr ti aj ig off dl t1 t2 t3 t4 ct md la lb da db lu es st sv sa
  | 0, i, hi => by
    obtain rfl : i = 6 := by omega
    refine br_t (nI_le (a := 6) (b := 6) (by omega) (by omega)) ?_
    simp (disch := omega) only [ix_m6, ix_m8, ix_m9, ix_m10, ix_m2, ix_2m, ix_8a, ix_16a, ix_a0, ix_a1, ix_a2, ix_a3, ix_a4, ix_a5, ix_a6, ix_a7, ix_a8, ix_a9, nI_add, nI_clamp]
    exact ⟨vp_in_nI (by omega) (by omega), nm_e ⟨vp_in_nI (by omega) (by omega), nm_e h⟩⟩
  | k + 1, i, hi => by
    have v1 : vp_in (nI c * 6 + nI i) 48 := by rw [ix_m6, nI_add]; exact vp_in_nI (by omega) (by omega)
    have v2 : vp_in (nI c * 8 + nI i) 64 := by rw [ix_m8, nI_add]; exact vp_in_nI (by omega) (by omega)
    have q : upd (gc_cp vc ds (c * 6) (c * 8) i) (nI c * 8 + nI i).toNatClampNeg (ds (nI c * 6 + nI i).toNatClampNeg) = gc_cp vc ds (c * 6) (c * 8) (i + 1) := by
      rw [ix_m8, ix_m6, nI_add, nI_add, nI_clamp (by omega), nI_clamp (by omega)]
      exact gc_cpS vc ds (c * 6) (c * 8) i
    exact br_f (nI_ge (b := 6) (by omega) (by omega)) ⟨v1, v2, nm_r q (nm_r (nI_1 i) (y_resetl hc h k (i + 1) (by omega)))⟩
theorem y_resetV {post : SY → Prop} {c : Nat} (hc : c < 8) (h : post (gy N C L tm ds (upd (upd (gc_cp vc ds (c * 6) (c * 8) 6) (c * 8 + 6) 0) (c * 8 + 7) (nI c)) qa ql dr ti aj ig off dl t1 t2 t3 t4 ct md la lb da db lu es st sv sa)) : wpY_resetV post (gy N C L tm ds vc qa ql dr ti aj ig off dl t1 t2 t3 t4 ct md la lb da db lu es st sv sa) (nI c) := by
  have l := y_resetl hc h 6 0 (by omega)
  rw [gc_cp0] at l
  exact ⟨_, l⟩
end
