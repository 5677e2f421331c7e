/-! the setters and the getters -/
theorem gr_fr {N : Nat} {RW ds vc st sv sa : Nat → Int32} {c f : Nat} {x : Int32} (hN : N ≤ 8) (hc : c < N) (hf : f < 6) (H : gc_D N RW ds ∧ gc_V N RW vc ∧ gc_S RW st sv sa) : gc_D N (upd RW (c * 10 + f) x) (upd ds (c * 6 + f) x) ∧ gc_V N (upd RW (c * 10 + f) x) vc ∧ gc_S (upd RW (c * 10 + f) x) st sv sa :=
  ⟨gc_Dset x hc hf H.1, gc_Vfr hN (fun j h1 _ => pk_un (by omega)) H.2.1, gc_Sfr (fun j h1 => pk_un (by omega)) H.2.2⟩
theorem i_vc_setPriority {k : Nat} {u : SX} {v : SY} (I : i_Rel k u v) (hk : k + 5 ≤ 2563) (v1 : Int32) (v2 : Int32) (v3 : Int32) : wpX_setPriority (fun r u' => wpY_setPriority (fun r' v' => r' = r ∧ i_Rel (k + 5) u' v') v v1 v2 v3) u v1 v2 v3 := by
  obtain ⟨N, C, L, tm, RW, dr, ti, pa, pl, ms, md, lu, ec, es, ed, ds, vc, qa, ql, aj, ig, off, dl, t1, t2, t3, t4, ct, la, lb, da, db, st, sv, sa, rfl, rfl, R⟩ := I
  have I' := gr_mk (k := k + 5) (tm := tm) (dr := dr) (ti := ti) (md := md) (es := es) R
  obtain ⟨K, hLC, hC, HD, HV, HS, HM, HE, HW, HA, HP⟩ := R
  have hN : N ≤ 8 := K.2.1
  have hL : L ≤ 16 := K.2.2.1
  unfold wpX_setPriority
  by_cases b : v1 < 0 ∨ nI N ≤ v1
  · refine x_isClock_f b (br_t rfl ?_)
    unfold wpY_setPriority
    exact y_bad_t b (br_f (by decide) ⟨rfl, I'⟩)
  · obtain ⟨c, hc, rfl⟩ := gr_in (by omega) b
    obtain ⟨D', V', S'⟩ := gr_fr (f := 4) (x := gc_cl v3 0 255) hN hc (by omega) (gr_fr (f := 0) (x := gc_cl v2 0 255) hN hc (by omega) ⟨HD, HV, HS⟩)
    refine x_isClock_t hN hc (br_f (by decide) (x_datasetRow (x_clamp ?_)))
    simp (disch := omega) only [ix_m6, ix_m8, ix_m9, ix_m10, ix_m2, ix_2m, ix_8a, ix_16a, ix_a0, ix_a1, ix_a2, ix_a3, ix_a4, ix_a5, ix_a6, ix_a7, ix_a8, ix_a9, nI_add, nI_clamp]
    refine ⟨vp_in_nI (by omega) (by omega), nm_e (x_clamp ⟨vp_in_nI (by omega) (by omega), nm_e ?_⟩)⟩
    unfold wpY_setPriority
    refine y_bad_f hN hc (br_t rfl (y_clamp ?_))
    simp (disch := omega) only [ix_m6, ix_m8, ix_m9, ix_m10, ix_m2, ix_2m, ix_8a, ix_16a, ix_a0, ix_a1, ix_a2, ix_a3, ix_a4, ix_a5, ix_a6, ix_a7, ix_a8, ix_a9, nI_add, nI_clamp]
    exact ⟨vp_in_nI (by omega) (by omega), nm_e (y_clamp ⟨vp_in_nI (by omega) (by omega), nm_e ⟨by trivial, gr_mk ⟨K, hLC, hC, D', V', S', HM, HE, HW, HA, HP⟩⟩⟩)⟩
theorem i_vc_setQuality {k : Nat} {u : SX} {v : SY} (I : i_Rel k u v) (hk : k + 5 ≤ 2563) (v1 : Int32) (v2 : Int32) (v3 : Int32) (v4 : Int32) : wpX_setQuality (fun r u' => wpY_setQuality (fun r' v' => r' = r ∧ i_Rel (k + 5) u' v') v v1 v2 v3 v4) u v1 v2 v3 v4 := by
  obtain ⟨N, C, L, tm, RW, dr, ti, pa, pl, ms, md, lu, ec, es, ed, ds, vc, qa, ql, aj, ig, off, dl, t1, t2, t3, t4, ct, la, lb, da, db, st, sv, sa, rfl, rfl, R⟩ := I
  have I' := gr_mk (k := k + 5) (tm := tm) (dr := dr) (ti := ti) (md := md) (es := es) R
  obtain ⟨K, hLC, hC, HD, HV, HS, HM, HE, HW, HA, HP⟩ := R
  have hN : N ≤ 8 := K.2.1
  have hL : L ≤ 16 := K.2.2.1
  unfold wpX_setQuality
  by_cases b : v1 < 0 ∨ nI N ≤ v1
  · refine x_isClock_f b (br_t rfl ?_)
    unfold wpY_setQuality
    exact y_bad_t b (br_f (by decide) ⟨rfl, I'⟩)
  · obtain ⟨c, hc, rfl⟩ := gr_in (by omega) b
    obtain ⟨D', V', S'⟩ := gr_fr (f := 3) (x := gc_cl v4 0 65535) hN hc (by omega) (gr_fr (f := 2) (x := gc_cl v3 0 255) hN hc (by omega) (gr_fr (f := 1) (x := gc_cl v2 0 255) hN hc (by omega) ⟨HD, HV, HS⟩))
    refine x_isClock_t hN hc (br_f (by decide) (x_datasetRow (x_clamp ?_)))
    simp (disch := omega) only [ix_m6, ix_m8, ix_m9, ix_m10, ix_m2, ix_2m, ix_8a, ix_16a, ix_a0, ix_a1, ix_a2, ix_a3, ix_a4, ix_a5, ix_a6, ix_a7, ix_a8, ix_a9, nI_add, nI_clamp]
    refine ⟨vp_in_nI (by omega) (by omega), nm_e (x_clamp ⟨vp_in_nI (by omega) (by omega), nm_e (x_clamp ⟨vp_in_nI (by omega) (by omega), nm_e ?_⟩)⟩)⟩
    unfold wpY_setQuality
    refine y_bad_f hN hc (br_t rfl (y_clamp ?_))
    simp (disch := omega) only [ix_m6, ix_m8, ix_m9, ix_m10, ix_m2, ix_2m, ix_8a, ix_16a, ix_a0, ix_a1, ix_a2, ix_a3, ix_a4, ix_a5, ix_a6, ix_a7, ix_a8, ix_a9, nI_add, nI_clamp]
    exact ⟨vp_in_nI (by omega) (by omega), nm_e (y_clamp ⟨vp_in_nI (by omega) (by omega), nm_e (y_clamp ⟨vp_in_nI (by omega) (by omega), nm_e ⟨by trivial, gr_mk ⟨K, hLC, hC, D', V', S', HM, HE, HW, HA, HP⟩⟩⟩)⟩)⟩
theorem i_vc_setDrift {k : Nat} {u : SX} {v : SY} (I : i_Rel k u v) (hk : k + 5 ≤ 2563) (v1 : Int32) (v2 : Int32) : wpX_setDrift (fun r u' => wpY_setDrift (fun r' v' => r' = r ∧ i_Rel (k + 5) u' v') v v1 v2) u v1 v2 := by
  obtain ⟨N, C, L, tm, RW, dr, ti, pa, pl, ms, md, lu, ec, es, ed, ds, vc, qa, ql, aj, ig, off, dl, t1, t2, t3, t4, ct, la, lb, da, db, st, sv, sa, rfl, rfl, R⟩ := I
  have I' := gr_mk (k := k + 5) (tm := tm) (dr := dr) (ti := ti) (md := md) (es := es) R
  obtain ⟨K, hLC, hC, HD, HV, HS, HM, HE, HW, HA, HP⟩ := R
  have hN : N ≤ 8 := K.2.1
  have hL : L ≤ 16 := K.2.2.1
  unfold wpX_setDrift
  by_cases b : v1 < 0 ∨ nI N ≤ v1
  · refine x_isClock_f b (br_t rfl ?_)
    unfold wpY_setDrift
    exact y_bad_t b (br_f (by decide) ⟨rfl, I'⟩)
  · obtain ⟨c, hc, rfl⟩ := gr_in (by omega) b
    refine x_isClock_t hN hc (br_f (by decide) (x_clamp ⟨vp_in_nI (by omega) (by omega), nm_e ?_⟩))
    unfold wpY_setDrift
    exact y_bad_f hN hc (br_t rfl (y_clamp ⟨vp_in_nI (by omega) (by omega), nm_e ⟨rfl, gr_mk ⟨K, hLC, hC, HD, HV, HS, HM, HE, HW, HA, HP⟩⟩⟩))
theorem i_vc_setTime {k : Nat} {u : SX} {v : SY} (I : i_Rel k u v) (hk : k + 5 ≤ 2563) (v1 : Int32) (a1 : Int64) : wpX_setTime (fun r u' => wpY_setTime (fun r' v' => r' = r ∧ i_Rel (k + 5) u' v') v v1 a1) u v1 a1 := by
  obtain ⟨N, C, L, tm, RW, dr, ti, pa, pl, ms, md, lu, ec, es, ed, ds, vc, qa, ql, aj, ig, off, dl, t1, t2, t3, t4, ct, la, lb, da, db, st, sv, sa, rfl, rfl, R⟩ := I
  have I' := gr_mk (k := k + 5) (tm := tm) (dr := dr) (ti := ti) (md := md) (es := es) R
  obtain ⟨K, hLC, hC, HD, HV, HS, HM, HE, HW, HA, HP⟩ := R
  have hN : N ≤ 8 := K.2.1
  have hL : L ≤ 16 := K.2.2.1
  unfold wpX_setTime
  by_cases b : v1 < 0 ∨ nI N ≤ v1
  · refine x_isClock_f b (br_t rfl ?_)
    unfold wpY_setTime
    exact y_bad_t b (br_f (by decide) ⟨rfl, I'⟩)
  · obtain ⟨c, hc, rfl⟩ := gr_in (by omega) b
    refine x_isClock_t hN hc (br_f (by decide) (x_clampL ⟨vp_in_nI (by omega) (by omega), nm_e ?_⟩))
    unfold wpY_setTime
    exact y_bad_f hN hc (br_t rfl (y_clampL ⟨vp_in_nI (by omega) (by omega), nm_e ⟨rfl, gr_mk ⟨K, hLC, hC, HD, HV, HS, HM, HE, HW, HA, HP⟩⟩⟩))
theorem i_vc_getGrandmaster {k : Nat} {u : SX} {v : SY} (I : i_Rel k u v) (hk : k + 5 ≤ 2563) (v1 : Int32) : wpX_getGrandmaster (fun r => wpY_getGrandmaster (fun r' => r' = r ∧ i_Rel (k + 5) u v) v v1) u v1 := by
  obtain ⟨N, C, L, tm, RW, dr, ti, pa, pl, ms, md, lu, ec, es, ed, ds, vc, qa, ql, aj, ig, off, dl, t1, t2, t3, t4, ct, la, lb, da, db, st, sv, sa, rfl, rfl, R⟩ := I
  have I' := gr_mk (k := k + 5) (tm := tm) (dr := dr) (ti := ti) (md := md) (es := es) R
  obtain ⟨K, hLC, hC, HD, HV, HS, HM, HE, HW, HA, HP⟩ := R
  have hN : N ≤ 8 := K.2.1
  have hL : L ≤ 16 := K.2.2.1
  unfold wpX_getGrandmaster
  by_cases b : v1 < 0 ∨ nI N ≤ v1
  · refine x_isClock_f b (br_t rfl ?_)
    unfold wpY_getGrandmaster
    exact y_bad_t b (br_f (by decide) ⟨rfl, I'⟩)
  · obtain ⟨c, hc, rfl⟩ := gr_in (by omega) b
    refine x_isClock_t hN hc (br_f (by decide) (x_vectorRow ?_))
    simp (disch := omega) only [ix_m6, ix_m8, ix_m9, ix_m10, ix_m2, ix_2m, ix_8a, ix_16a, ix_a0, ix_a1, ix_a2, ix_a3, ix_a4, ix_a5, ix_a6, ix_a7, ix_a8, ix_a9, nI_add, nI_clamp]
    refine ⟨vp_in_nI (by omega) (by omega), ?_⟩
    unfold wpY_getGrandmaster
    refine y_bad_f hN hc (br_t rfl ?_)
    simp (disch := omega) only [ix_m6, ix_m8, ix_m9, ix_m10, ix_m2, ix_2m, ix_8a, ix_16a, ix_a0, ix_a1, ix_a2, ix_a3, ix_a4, ix_a5, ix_a6, ix_a7, ix_a8, ix_a9, nI_add, nI_clamp]
    exact ⟨vp_in_nI (by omega) (by omega), ((HV c hc).1 5 (by omega)).symm, I'⟩
theorem i_vc_getStepsRemoved {k : Nat} {u : SX} {v : SY} (I : i_Rel k u v) (hk : k + 5 ≤ 2563) (v1 : Int32) : wpX_getStepsRemoved (fun r => wpY_getStepsRemoved (fun r' => r' = r ∧ i_Rel (k + 5) u v) v v1) u v1 := by
  obtain ⟨N, C, L, tm, RW, dr, ti, pa, pl, ms, md, lu, ec, es, ed, ds, vc, qa, ql, aj, ig, off, dl, t1, t2, t3, t4, ct, la, lb, da, db, st, sv, sa, rfl, rfl, R⟩ := I
  have I' := gr_mk (k := k + 5) (tm := tm) (dr := dr) (ti := ti) (md := md) (es := es) R
  obtain ⟨K, hLC, hC, HD, HV, HS, HM, HE, HW, HA, HP⟩ := R
  have hN : N ≤ 8 := K.2.1
  have hL : L ≤ 16 := K.2.2.1
  unfold wpX_getStepsRemoved
  by_cases b : v1 < 0 ∨ nI N ≤ v1
  · refine x_isClock_f b (br_t rfl ?_)
    unfold wpY_getStepsRemoved
    exact y_bad_t b (br_f (by decide) ⟨rfl, I'⟩)
  · obtain ⟨c, hc, rfl⟩ := gr_in (by omega) b
    refine x_isClock_t hN hc (br_f (by decide) (x_vectorRow ?_))
    simp (disch := omega) only [ix_m6, ix_m8, ix_m9, ix_m10, ix_m2, ix_2m, ix_8a, ix_16a, ix_a0, ix_a1, ix_a2, ix_a3, ix_a4, ix_a5, ix_a6, ix_a7, ix_a8, ix_a9, nI_add, nI_clamp]
    refine ⟨vp_in_nI (by omega) (by omega), ?_⟩
    unfold wpY_getStepsRemoved
    refine y_bad_f hN hc (br_t rfl ?_)
    simp (disch := omega) only [ix_m6, ix_m8, ix_m9, ix_m10, ix_m2, ix_2m, ix_8a, ix_16a, ix_a0, ix_a1, ix_a2, ix_a3, ix_a4, ix_a5, ix_a6, ix_a7, ix_a8, ix_a9, nI_add, nI_clamp]
    exact ⟨vp_in_nI (by omega) (by omega), ((HV c hc).1 6 (by omega)).symm, I'⟩
theorem i_vc_getParent {k : Nat} {u : SX} {v : SY} (I : i_Rel k u v) (hk : k + 5 ≤ 2563) (v1 : Int32) : wpX_getParent (fun r => wpY_getParent (fun r' => r' = r ∧ i_Rel (k + 5) u v) v v1) u v1 := by
  obtain ⟨N, C, L, tm, RW, dr, ti, pa, pl, ms, md, lu, ec, es, ed, ds, vc, qa, ql, aj, ig, off, dl, t1, t2, t3, t4, ct, la, lb, da, db, st, sv, sa, rfl, rfl, R⟩ := I
  have I' := gr_mk (k := k + 5) (tm := tm) (dr := dr) (ti := ti) (md := md) (es := es) R
  obtain ⟨K, hLC, hC, HD, HV, HS, HM, HE, HW, HA, HP⟩ := R
  have hN : N ≤ 8 := K.2.1
  have hL : L ≤ 16 := K.2.2.1
  unfold wpX_getParent
  by_cases b : v1 < 0 ∨ nI N ≤ v1
  · refine x_isClock_f b (br_t rfl ?_)
    unfold wpY_getParent
    exact y_bad_t b (br_f (by decide) ⟨rfl, I'⟩)
  · obtain ⟨c, hc, rfl⟩ := gr_in (by omega) b
    refine x_isClock_t hN hc (br_f (by decide) ⟨vp_in_nI (by omega) (by omega), ?_⟩)
    unfold wpY_getParent
    refine y_bad_f hN hc (br_t rfl ⟨vp_in_nI (by omega) (by omega), ?_, I'⟩)
    rw [nI_clamp (by omega)]
    exact (HA c hc).symm
theorem i_vc_getTime {k : Nat} {u : SX} {v : SY} (I : i_Rel k u v) (hk : k + 5 ≤ 2563) (v1 : Int32) : wpX_getTime (fun r => wpY_getTime (fun r' => r' = r ∧ i_Rel (k + 5) u v) v v1) u v1 := by
  obtain ⟨N, C, L, tm, RW, dr, ti, pa, pl, ms, md, lu, ec, es, ed, ds, vc, qa, ql, aj, ig, off, dl, t1, t2, t3, t4, ct, la, lb, da, db, st, sv, sa, rfl, rfl, R⟩ := I
  have I' := gr_mk (k := k + 5) (tm := tm) (dr := dr) (ti := ti) (md := md) (es := es) R
  obtain ⟨K, hLC, hC, HD, HV, HS, HM, HE, HW, HA, HP⟩ := R
  have hN : N ≤ 8 := K.2.1
  have hL : L ≤ 16 := K.2.2.1
  unfold wpX_getTime
  by_cases b : v1 < 0 ∨ nI N ≤ v1
  · refine x_isClock_f b (br_t rfl ?_)
    unfold wpY_getTime
    exact y_bad_t b (br_f (by decide) ⟨rfl, I'⟩)
  · obtain ⟨c, hc, rfl⟩ := gr_in (by omega) b
    refine x_isClock_t hN hc (br_f (by decide) ⟨vp_in_nI (by omega) (by omega), ?_⟩)
    unfold wpY_getTime
    exact y_bad_f hN hc (br_t rfl ⟨vp_in_nI (by omega) (by omega), rfl, I'⟩)
theorem i_vc_compareDatasets {k : Nat} {u : SX} {v : SY} (I : i_Rel k u v) (hk : k + 5 ≤ 2563) (v1 : Int32) (v2 : Int32) : wpX_compareDatasets (fun r => wpY_compareDatasets (fun r' => r' = r ∧ i_Rel (k + 5) u v) v v1 v2) u v1 v2 := by
  obtain ⟨N, C, L, tm, RW, dr, ti, pa, pl, ms, md, lu, ec, es, ed, ds, vc, qa, ql, aj, ig, off, dl, t1, t2, t3, t4, ct, la, lb, da, db, st, sv, sa, rfl, rfl, R⟩ := I
  have I' := gr_mk (k := k + 5) (tm := tm) (dr := dr) (ti := ti) (md := md) (es := es) R
  obtain ⟨K, hLC, hC, HD, HV, HS, HM, HE, HW, HA, HP⟩ := R
  have hN : N ≤ 8 := K.2.1
  have hL : L ≤ 16 := K.2.2.1
  unfold wpX_compareDatasets
  by_cases b : v1 < 0 ∨ nI N ≤ v1
  · refine x_isClock_f b (br_t rfl ?_)
    unfold wpY_compareDatasets
    exact y_bad_t b (br_f (by decide) ⟨rfl, I'⟩)
  · obtain ⟨c, hc, rfl⟩ := gr_in (by omega) b
    by_cases d : v2 < 0 ∨ nI N ≤ v2
    · refine x_isClock_t hN hc (br_f (by decide) (x_isClock_f d (br_t rfl ?_)))
      unfold wpY_compareDatasets
      exact y_bad_f hN hc (br_t rfl (y_bad_t d (br_f (by decide) ⟨rfl, I'⟩)))
    · obtain ⟨c2, hc2, rfl⟩ := gr_in (by omega) d
      refine x_isClock_t hN hc (br_f (by decide) (x_isClock_t hN hc2 (br_f (by decide) (x_datasetRow (x_datasetRow (x_cmp (K := 6) (by omega) (by omega) ?_))))))
      unfold wpY_compareDatasets
      refine y_bad_f hN hc (br_t rfl (y_bad_f hN hc2 (br_t rfl ?_)))
      by_cases e : c = c2
      · subst e
        exact br_t rfl ⟨(gc_cmp_self _ _ _).symm, I'⟩
      · exact br_f (fun z => e ((nI_eq (by omega) (by omega)).mp z)) (y_cmp (K := 6) (x := c * 10) (y := c2 * 10) (by omega) (fun g hg post h => y_fld0 hN hc hg HD h) (fun g hg post h => y_fld0 hN hc2 hg HD h) ⟨rfl, I'⟩)
section
variable {N C L : Nat} {tm : Int32} {RW ds vc pa pl qa ql dr md la lb da db lu es st sv sa ec ed : Nat → Int32} {ti ms aj ig off dl t1 t2 t3 t4 ct : Nat → Int64}
theorem gr_end {c l : Nat} (hL : L ≤ 16) (hl : l < L) (HE : gc_E N L ec la lb) : gs_end L ec c (nI l) = if la l = nI c then some (2 * l) else if lb l = nI c then some (2 * l + 1) else none := by
  obtain ⟨g1, g2, _, _⟩ := HE l hl
  unfold gs_end
  rw [if_neg (fun z => z.elim (nI_pos (by omega)) (nI_ge hl (by omega))), nI_clamp (by omega), g1, g2]
theorem y_port {post : Int32 → Prop} {c l : Nat} (hN : N ≤ 8) (hL : L ≤ 16) (hc : c < N) (hl : l < L) (h : post (if la l = nI c then es (2 * l) else if lb l = nI c then es (2 * l + 1) else -1)) : wpY_getPortState post (gy N C L tm ds vc qa ql dr ti aj ig off dl t1 t2 t3 t4 ct md la lb da db lu es st sv sa) (nI c) (nI l) := by
  unfold wpY_getPortState
  refine y_bad_f hN hc (br_t rfl (br_f (nI_pos (by omega)) (br_t (nI_lt hl (by omega)) (y_side (by omega) ?_))))
  by_cases a : la l = nI c
  · rw [if_pos a] at h ⊢
    simp (disch := omega) only [ix_m6, ix_m8, ix_m9, ix_m10, ix_m2, ix_2m, ix_8a, ix_16a, ix_a0, ix_a1, ix_a2, ix_a3, ix_a4, ix_a5, ix_a6, ix_a7, ix_a8, ix_a9, nI_add, nI_clamp, Nat.mul_comm l 2, Nat.add_zero]
    exact br_t (by decide) ⟨vp_in_nI (by omega) (by omega), h⟩
  · rw [if_neg a] at h ⊢
    by_cases b : lb l = nI c
    · rw [if_pos b] at h ⊢
      simp (disch := omega) only [ix_m6, ix_m8, ix_m9, ix_m10, ix_m2, ix_2m, ix_8a, ix_16a, ix_a0, ix_a1, ix_a2, ix_a3, ix_a4, ix_a5, ix_a6, ix_a7, ix_a8, ix_a9, nI_add, nI_clamp, Nat.mul_comm l 2]
      exact br_t (by decide) ⟨vp_in_nI (by omega) (by omega), h⟩
    · rw [if_neg b] at h ⊢
      exact br_f (by decide) h
end
theorem i_vc_getPortState {k : Nat} {u : SX} {v : SY} (I : i_Rel k u v) (hk : k + 5 ≤ 2563) (v1 : Int32) (v2 : Int32) : wpX_getPortState (fun r => wpY_getPortState (fun r' => r' = r ∧ i_Rel (k + 5) u v) v v1 v2) u v1 v2 := by
  obtain ⟨N, C, L, tm, RW, dr, ti, pa, pl, ms, md, lu, ec, es, ed, ds, vc, qa, ql, aj, ig, off, dl, t1, t2, t3, t4, ct, la, lb, da, db, st, sv, sa, rfl, rfl, R⟩ := I
  have I' := gr_mk (k := k + 5) (tm := tm) (dr := dr) (ti := ti) (md := md) (es := es) R
  obtain ⟨K, hLC, hC, HD, HV, HS, HM, HE, HW, HA, HP⟩ := R
  have hN : N ≤ 8 := K.2.1
  have hL : L ≤ 16 := K.2.2.1
  unfold wpX_getPortState
  by_cases b : v1 < 0 ∨ nI N ≤ v1
  · refine x_endOf_f b (br_t rfl ?_)
    unfold wpY_getPortState
    exact y_bad_t b (br_f (by decide) ⟨rfl, I'⟩)
  · obtain ⟨c, hc, rfl⟩ := gr_in (by omega) b
    refine x_endOf K hc ?_
    by_cases d : v2 < 0 ∨ nI L ≤ v2
    · rw [show gs_end L ec c v2 = none from if_pos d]
      refine br_t rfl ?_
      unfold wpY_getPortState
      refine y_bad_f hN hc (br_t rfl ?_)
      by_cases d1 : v2 < 0
      · exact br_t d1 ⟨rfl, I'⟩
      · exact br_f d1 (br_f (Int32.not_lt.mpr (d.resolve_left d1)) ⟨rfl, I'⟩)
    · obtain ⟨l, hl, rfl⟩ := gr_in (by omega) d
      rw [gr_end hL hl HE]
      by_cases e1 : la l = nI c
      · rw [if_pos e1]
        refine br_f (gc_en_ne (by omega)) ⟨vp_in_nI (by omega) (by omega), y_port hN hL hc hl ?_⟩
        rw [if_pos e1, show gc_en (some (2 * l)) = nI (2 * l) from rfl, nI_clamp (by omega)]
        exact ⟨rfl, I'⟩
      · rw [if_neg e1]
        by_cases e2 : lb l = nI c
        · rw [if_pos e2]
          refine br_f (gc_en_ne (by omega)) ⟨vp_in_nI (by omega) (by omega), y_port hN hL hc hl ?_⟩
          rw [if_neg e1, if_pos e2, show gc_en (some (2 * l + 1)) = nI (2 * l + 1) from rfl, nI_clamp (by omega)]
          exact ⟨rfl, I'⟩
        · rw [if_neg e2]
          refine br_t rfl (y_port hN hL hc hl ?_)
          rw [if_neg e1, if_neg e2]
          exact ⟨rfl, I'⟩
theorem i_vc_getMeasure {k : Nat} {u : SX} {v : SY} (I : i_Rel k u v) (hk : k + 5 ≤ 2563) (v1 : Int32) (v2 : Int32) : wpX_getMeasure (fun r => wpY_getMeasure (fun r' => r' = r ∧ i_Rel (k + 5) u v) v v1 v2) u v1 v2 := by
  obtain ⟨N, C, L, tm, RW, dr, ti, pa, pl, ms, md, lu, ec, es, ed, ds, vc, qa, ql, aj, ig, off, dl, t1, t2, t3, t4, ct, la, lb, da, db, st, sv, sa, rfl, rfl, R⟩ := I
  have I' := gr_mk (k := k + 5) (tm := tm) (dr := dr) (ti := ti) (md := md) (es := es) R
  obtain ⟨K, hLC, hC, HD, HV, HS, HM, HE, HW, HA, HP⟩ := R
  have hN : N ≤ 8 := K.2.1
  have hL : L ≤ 16 := K.2.2.1
  unfold wpX_getMeasure
  by_cases b : v1 < 0 ∨ nI N ≤ v1
  · refine x_isClock_f b (br_t rfl ?_)
    unfold wpY_getMeasure
    exact y_bad_t b (br_f (by decide) ⟨rfl, I'⟩)
  · obtain ⟨c, hc, rfl⟩ := gr_in (by omega) b
    have v : vp_in (nI c) 8 := vp_in_nI (by omega) (by omega)
    have cl : (nI c).toNatClampNeg = c := nI_clamp (by omega)
    obtain ⟨h0, h1, h2, h3, h4, h5, h6, h7, h8⟩ := HM c (by omega)
    refine x_isClock_t hN hc (br_f (by decide) ?_)
    by_cases d : v2 < 0 ∨ nI 9 ≤ v2
    · have nz : ∀ w, w < 9 → ¬ v2 = nI w := fun w hw => ix_no (by omega) d hw
      have yy : ∀ post : Int64 → Prop, post 0 → wpY_getMeasure post (gy N C L tm ds vc qa ql dr ti aj ig off dl t1 t2 t3 t4 ct md la lb da db lu es st sv sa) (nI c) v2 := by
        intro post h
        unfold wpY_getMeasure
        exact y_bad_f hN hc (br_t rfl (br_f (nz 0 (by omega)) (br_f (nz 1 (by omega)) (br_f (nz 2 (by omega)) (br_f (nz 3 (by omega)) (br_f (nz 4 (by omega)) (br_f (nz 5 (by omega)) (br_f (nz 6 (by omega)) (br_f (nz 7 (by omega)) (br_f (nz 8 (by omega)) h))))))))))
      by_cases d1 : v2 < 0
      · exact br_t d1 (yy _ ⟨rfl, I'⟩)
      · exact br_f d1 (br_f (Int32.not_lt.mpr (d.resolve_left d1)) (yy _ ⟨rfl, I'⟩))
    · obtain ⟨w, hw, rfl⟩ := gr_in (by omega) d
      have ne : ∀ w', w' < 9 → w ≠ w' → ¬ nI w = nI w' := fun w' h z e => z ((nI_eq (by omega) (by omega)).mp e)
      refine br_f (nI_pos (by omega)) (br_t (nI_lt (b := 9) hw (by omega)) (x_measureRow ?_))
      rw [nI_add, nI_clamp (by omega)]
      refine ⟨vp_in_nI (by omega) (by omega), ?_⟩
      unfold wpY_getMeasure
      refine y_bad_f hN hc (br_t rfl ?_)
      rw [cl]
      rcases (by omega : w = 0 ∨ w = 1 ∨ w = 2 ∨ w = 3 ∨ w = 4 ∨ w = 5 ∨ w = 6 ∨ w = 7 ∨ w = 8) with rfl | rfl | rfl | rfl | rfl | rfl | rfl | rfl | rfl
      · exact br_t rfl ⟨v, h0.symm, I'⟩
      · exact br_f (ne 0 (by omega) (by omega)) (br_t rfl ⟨v, h1.symm, I'⟩)
      · exact br_f (ne 0 (by omega) (by omega)) (br_f (ne 1 (by omega) (by omega)) (br_t rfl ⟨v, h2.symm, I'⟩))
      · exact br_f (ne 0 (by omega) (by omega)) (br_f (ne 1 (by omega) (by omega)) (br_f (ne 2 (by omega) (by omega)) (br_t rfl ⟨v, h3.symm, I'⟩)))
      · exact br_f (ne 0 (by omega) (by omega)) (br_f (ne 1 (by omega) (by omega)) (br_f (ne 2 (by omega) (by omega)) (br_f (ne 3 (by omega) (by omega)) (br_t rfl ⟨v, h4.symm, I'⟩))))
      · exact br_f (ne 0 (by omega) (by omega)) (br_f (ne 1 (by omega) (by omega)) (br_f (ne 2 (by omega) (by omega)) (br_f (ne 3 (by omega) (by omega)) (br_f (ne 4 (by omega) (by omega)) (br_t rfl ⟨v, h5.symm, I'⟩)))))
      · exact br_f (ne 0 (by omega) (by omega)) (br_f (ne 1 (by omega) (by omega)) (br_f (ne 2 (by omega) (by omega)) (br_f (ne 3 (by omega) (by omega)) (br_f (ne 4 (by omega) (by omega)) (br_f (ne 5 (by omega) (by omega)) (br_t rfl ⟨v, h6.symm, I'⟩))))))
      · exact br_f (ne 0 (by omega) (by omega)) (br_f (ne 1 (by omega) (by omega)) (br_f (ne 2 (by omega) (by omega)) (br_f (ne 3 (by omega) (by omega)) (br_f (ne 4 (by omega) (by omega)) (br_f (ne 5 (by omega) (by omega)) (br_f (ne 6 (by omega) (by omega)) (br_t rfl ⟨v, h7.symm, I'⟩)))))))
      · exact br_f (ne 0 (by omega) (by omega)) (br_f (ne 1 (by omega) (by omega)) (br_f (ne 2 (by omega) (by omega)) (br_f (ne 3 (by omega) (by omega)) (br_f (ne 4 (by omega) (by omega)) (br_f (ne 5 (by omega) (by omega)) (br_f (ne 6 (by omega) (by omega)) (br_f (ne 7 (by omega) (by omega)) (br_t rfl ⟨v, h8.symm, I'⟩))))))))
