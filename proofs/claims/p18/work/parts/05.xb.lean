/-! the component's step, phase by phase -/
theorem gs_end_lt {L c e : Nat} {ec : Nat → Int32} {x : Int32} (hL : L ≤ 16) (h : gs_end L ec c x = some e) : e < 2 * L := by
  unfold gs_end at h
  rcases pk_ix x (n := L) (by omega) with hx | hx | ⟨l, hl, rfl⟩
  · rw [if_pos (Or.inl hx)] at h
    exact absurd h.symm (Option.some_ne_none e)
  · rw [if_pos (Or.inr hx)] at h
    exact absurd h.symm (Option.some_ne_none e)
  · rw [if_neg (fun z => z.elim (nI_pos (by omega)) (nI_ge hl (by omega))), nI_clamp (by omega)] at h
    split at h
    · have := Option.some.inj h
      omega
    · split at h
      · have := Option.some.inj h
        omega
      · exact absurd h.symm (Option.some_ne_none e)
theorem gc_en_ne {e : Nat} (h : e < 2 ^ 31) : ¬ nI e = -1 := by
  intro z
  have := nI_pos h
  rw [z] at this
  exact this (by decide)
section
variable {N C L : Nat} {tm : Int32} {RW dr pa pl md lu ec es ed : Nat → Int32} {ti ms : Nat → Int64}
theorem x_srv {post : Int32 → Prop} {e : Nat} (he : e < 32) (h : post (if ¬ lu (e / 2) = 0 ∧ es e = 2 ∧ es (gc_ot e) = 1 then 1 else 0)) : wpX_isServed post (gx N C L tm RW dr ti pa pl ms md lu ec es ed) (nI e) := by
  have ho : gc_ot e < 32 := gc_otlt (n := 16) he
  unfold wpX_isServed
  refine x_linkOf he ⟨vp_in_nI (by omega) (by omega), ?_⟩
  rw [nI_clamp (by omega)]
  by_cases a : lu (e / 2) = 0
  · rw [if_neg (fun z => z.1 a)] at h
    exact br_t a h
  · refine br_f a ⟨vp_in_nI he (by omega), ?_⟩
    rw [nI_clamp (by omega)]
    by_cases b : es e = 2
    · refine br_t b (x_otherEnd he ⟨vp_in_nI ho (by omega), ?_⟩)
      rw [nI_clamp (by omega)]
      by_cases d : es (gc_ot e) = 1
      · rw [if_pos ⟨a, b, d⟩] at h
        exact br_t d h
      · rw [if_neg (fun z => d z.2.2)] at h
        exact br_f d h
    · rw [if_neg (fun z => b z.2.1)] at h
      exact br_f b h
theorem x_meas0 {post : St2 → Prop} {c : Nat} {x : Int32} (hc : c < 8) (h : post (gx N C L tm RW dr ti pa pl ms (upd md c 0) lu ec es ed)) : wX_measure_35 post (nI c) x 0 (nI c) (nI N) (nI C) tm (nI L) RW dr ti pa pl ms md lu ec es ed := by
  have e : upd md (nI c).toNatClampNeg (vp_nar .boolean 0) = upd md c 0 := by
    rw [nI_clamp (by omega)]; rfl
  exact ⟨vp_in_nI hc (by omega), nm_r e ⟨vp_in_nI hc (by omega), br_t (by rw [nI_clamp (by omega), pk_us]) h⟩⟩
theorem x_meas1 {post : St2 → Prop} {c e : Nat} (K : gx_ok N L lu ec) (hc : c < N) (he : e < 2 * L) (h : post (gx N C L tm RW dr ti pa pl (gs_ms ec ed ti ms c e) (upd md c 1) lu ec es ed)) : wX_measure_35 post (nI c) (nI e) 1 (nI c) (nI N) (nI C) tm (nI L) RW dr ti pa pl ms md lu ec es ed := by
  obtain ⟨_, hN, hL, _, hE⟩ := K
  have ho : gc_ot e < 2 * L := gc_otlt he
  obtain ⟨j, hj, ej⟩ := hE _ ho
  have e1 : upd md (nI c).toNatClampNeg (vp_nar .boolean 1) = upd md c 1 := by
    rw [nI_clamp (by omega)]; rfl
  have ve : vp_in (ec (gc_ot e)) 8 := by rw [ej]; exact vp_in_nI (by omega) (by omega)
  refine ⟨vp_in_nI (by omega) (by omega), nm_r e1 ⟨vp_in_nI (by omega) (by omega), br_f (by rw [nI_clamp (by omega), pk_us]; decide) (x_otherEnd (by omega) ?_)⟩⟩
  simp (disch := omega) only [nI_clamp]
  refine ⟨vp_in_nI (by omega) (by omega), ve, nm_e ⟨vp_in_nI (by omega) (by omega), vp_in_nI (by omega) (by omega), nm_e ⟨vp_in_nI (by omega) (by omega), vp_in_nI (by omega) (by omega), nm_e (x_measureRow ?_)⟩⟩⟩
  simp (disch := omega) only [ix_m6, ix_m8, ix_m9, ix_m10, ix_m2, ix_2m, ix_8a, ix_16a, ix_a0, ix_a1, ix_a2, ix_a3, ix_a4, ix_a5, ix_a6, ix_a7, ix_a8, ix_a9, nI_add, nI_clamp]
  exact ⟨by decide, vp_in_nI (by omega) (by omega), nm_e ⟨by decide, vp_in_nI (by omega) (by omega), nm_e ⟨vp_in_nI (by omega) (by omega), nm_e ⟨vp_in_nI (by omega) (by omega), nm_e ⟨vp_in_nI (by omega) (by omega), nm_e ⟨vp_in_nI (by omega) (by omega), nm_e ⟨vp_in_nI (by omega) (by omega), vp_in_nI (by omega) (by omega), nm_e h⟩⟩⟩⟩⟩⟩⟩
theorem x_measure {post : St2 → Prop} {c : Nat} (K : gx_ok N L lu ec) (hc : c < N) (h : post (gx N C L tm RW dr ti pa pl ((gs_meas L pl lu ec es ed ti c (md, ms)).2) ((gs_meas L pl lu ec es ed ti c (md, ms)).1) lu ec es ed)) : wpX_measure post (gx N C L tm RW dr ti pa pl ms md lu ec es ed) (nI c) := by
  have hN : N ≤ 8 := K.2.1
  have hL : L ≤ 16 := K.2.2.1
  unfold wpX_measure
  refine ⟨vp_in_nI (by omega) (by omega), x_endOf K hc ?_⟩
  rw [nI_clamp (by omega)]
  unfold gs_meas at h
  cases hq : gs_end L ec c (pl c) with
  | none =>
    rw [hq] at h
    exact br_t rfl (x_meas0 (by omega) h)
  | some e =>
    rw [hq] at h
    have he := gs_end_lt hL hq
    dsimp only at h
    refine br_f (gc_en_ne (by omega)) (x_srv (by omega) ?_)
    by_cases s : ¬ lu (e / 2) = 0 ∧ es e = 2 ∧ es (gc_ot e) = 1
    · rw [if_pos s]
      rw [if_pos s] at h
      exact br_f (by decide) (x_meas1 K hc he h)
    · rw [if_neg s]
      rw [if_neg s] at h
      exact br_t rfl (x_meas0 (by omega) h)
theorem x_steer {post : St2 → Prop} {c : Nat} (hc : c < 8) (h : post (gx N C L tm RW dr ((gs_steer md c (ti, ms)).1) pa pl ((gs_steer md c (ti, ms)).2) md lu ec es ed)) : wpX_steer post (gx N C L tm RW dr ti pa pl ms md lu ec es ed) (nI c) := by
  unfold gs_steer at h
  dsimp only at h
  unfold wpX_steer
  refine ⟨vp_in_nI hc (by omega), ?_⟩
  rw [nI_clamp (by omega)]
  by_cases a : md c = 0
  · rw [if_pos a] at h
    exact br_t a h
  · rw [if_neg a] at h
    refine br_f a (x_measureRow ?_)
    simp (disch := omega) only [ix_m6, ix_m8, ix_m9, ix_m10, ix_m2, ix_2m, ix_8a, ix_16a, ix_a0, ix_a1, ix_a2, ix_a3, ix_a4, ix_a5, ix_a6, ix_a7, ix_a8, ix_a9, nI_add, nI_clamp]
    refine ⟨vp_in_nI (by omega) (by omega), nm_e ?_⟩
    have f1 : 1000000 < ms (c * 9 + 0) ∨ ms (c * 9 + 0) < -1000000 → wX_steer_40 post (nI c) (ms (c * 9 + 0)) (nI N) (nI C) tm (nI L) RW dr ti pa pl ms md lu ec es ed := by
      intro z
      rw [if_pos z] at h
      unfold wX_steer_40
      rw [nI_clamp (by omega)]
      exact ⟨vp_in_nI hc (by omega), vp_in_nI hc (by omega), nm_e h⟩
    by_cases b : 1000000 < ms (c * 9 + 0)
    · exact br_t b (f1 (Or.inl b))
    · refine br_f b ?_
      by_cases d : ms (c * 9 + 0) < -1000000
      · exact br_f (Int64.not_le.mpr d) (f1 (Or.inr d))
      · rw [if_neg (fun z => z.elim b d)] at h
        exact br_t (Int64.not_lt.mp d) ⟨vp_in_nI (by omega) (by omega), by decide, x_clampL ⟨vp_in_nI (by omega) (by omega), nm_e ⟨by decide, x_clampL ⟨vp_in_nI (by omega) (by omega), nm_e h⟩⟩⟩⟩
theorem x_advance {post : St2 → Prop} {c : Nat} (hc : c < 8) (h : post (gx N C L tm RW dr (gs_adv dr ms c ti) pa pl ms md lu ec es ed)) : wpX_advance post (gx N C L tm RW dr ti pa pl ms md lu ec es ed) (nI c) := by
  unfold wpX_advance
  refine ⟨vp_in_nI hc (by omega), vp_in_nI hc (by omega), x_measureRow ?_⟩
  simp (disch := omega) only [ix_m6, ix_m8, ix_m9, ix_m10, ix_m2, ix_2m, ix_8a, ix_16a, ix_a0, ix_a1, ix_a2, ix_a3, ix_a4, ix_a5, ix_a6, ix_a7, ix_a8, ix_a9, nI_add, nI_clamp]
  exact ⟨vp_in_nI (by omega) (by omega), vp_in_nI hc (by omega), nm_e h⟩
theorem x_accepts {post : Int32 → Prop} {x : Int32} {v : Nat} (hv : v + 10 ≤ 480) (h : post (if RW (v + 6) ≤ 6 ∧ ¬ RW (v + 5) = x then 1 else 0)) : wpX_accepts post (gx N C L tm RW dr ti pa pl ms md lu ec es ed) x (nI v) := by
  unfold wpX_accepts
  simp (disch := omega) only [ix_m6, ix_m8, ix_m9, ix_m10, ix_m2, ix_2m, ix_8a, ix_16a, ix_a0, ix_a1, ix_a2, ix_a3, ix_a4, ix_a5, ix_a6, ix_a7, ix_a8, ix_a9, nI_add, nI_clamp]
  refine ⟨vp_in_nI (by omega) (by omega), ?_⟩
  by_cases a : RW (v + 6) ≤ 6
  · refine br_f (Int32.not_lt.mpr a) ⟨vp_in_nI (by omega) (by omega), ?_⟩
    by_cases b : RW (v + 5) = x
    · rw [if_neg (fun z => z.2 b)] at h
      exact br_t b h
    · rw [if_pos ⟨a, b⟩] at h
      exact br_f b h
  · rw [if_neg (fun z => a z.1)] at h
    exact br_t (Int32.not_le.mp a) h
theorem x_age {post : St2 → Prop} {e : Nat} (he : e < 32) (h : post (gx N C L tm (gs_age tm e RW) dr ti pa pl ms md lu ec es ed)) : wpX_ageStore post (gx N C L tm RW dr ti pa pl ms md lu ec es ed) (nI e) := by
  unfold gs_age at h
  unfold wpX_ageStore
  refine x_storeRow ?_
  simp (disch := omega) only [ix_m6, ix_m8, ix_m9, ix_m10, ix_m2, ix_2m, ix_8a, ix_16a, ix_a0, ix_a1, ix_a2, ix_a3, ix_a4, ix_a5, ix_a6, ix_a7, ix_a8, ix_a9, nI_add, nI_clamp]
  refine ⟨vp_in_nI (by omega) (by omega), ?_⟩
  by_cases a : RW ((16 + e) * 10 + 8) = 0
  · rw [if_pos a] at h
    exact br_t a h
  · rw [if_neg a] at h
    refine br_f a ⟨vp_in_nI (by omega) (by omega), vp_in_nI (by omega) (by omega), nm_e ⟨vp_in_nI (by omega) (by omega), ?_⟩⟩
    rw [pk_us]
    by_cases b : RW ((16 + e) * 10 + 9) + 1 = tm
    · rw [if_pos b] at h
      exact br_t b (x_clear he h)
    · rw [if_neg b] at h
      exact br_f b h
theorem x_listen {post : St2 → Prop} {e : Nat} (K : gx_ok N L lu ec) (he : e < 2 * L) (h : post (gx N C L tm (gs_listen tm lu ec es e RW) dr ti pa pl ms md lu ec es ed)) : wpX_listen post (gx N C L tm RW dr ti pa pl ms md lu ec es ed) (nI e) := by
  obtain ⟨_, hN, hL, _, hE⟩ := K
  have ho : gc_ot e < 2 * L := gc_otlt he
  obtain ⟨j, hj, ej⟩ := hE _ ho
  unfold gs_listen at h
  unfold wpX_listen
  refine x_linkOf (by omega) ⟨vp_in_nI (by omega) (by omega), ?_⟩
  rw [nI_clamp (by omega)]
  by_cases a : lu (e / 2) = 0
  · rw [if_pos a] at h
    exact br_t a h
  · rw [if_neg a] at h
    refine br_f a (x_otherEnd (by omega) ?_)
    simp (disch := omega) only [nI_clamp]
    rw [ej, nI_clamp (by omega)] at h
    rw [ej]
    refine ⟨vp_in_nI (by omega) (by omega), x_vectorRow ⟨vp_in_nI (by omega) (by omega), ?_⟩⟩
    by_cases b : es (gc_ot e) = 1
    · refine br_t b ⟨vp_in_nI (by omega) (by omega), x_accepts (by omega) ?_⟩
      by_cases d : RW ((8 + j) * 10 + 6) ≤ 6 ∧ ¬ RW ((8 + j) * 10 + 5) = ec e
      · rw [if_pos d]
        rw [if_pos ⟨b, d⟩] at h
        exact br_f (by decide) (x_storeRow (x_copy (by omega) (by omega) (by omega) h))
      · rw [if_neg d]
        rw [if_neg (fun z => d z.2)] at h
        exact br_t rfl (x_age (by omega) h)
    · rw [if_neg (fun z => b z.1)] at h
      exact br_f b (x_age (by omega) h)
end
