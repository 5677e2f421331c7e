/-! the constructors -/
def gd_ (c f : Nat) : Int32 := [128, 248, 254, 65535, 128, nI c, 0, nI c, 1, 0].getD f 0
def gi_X (i : Nat) (RW pa pl : Nat → Int32) : Prop := (∀ c, c < i → (∀ f, f < 10 → RW (c * 10 + f) = gd_ c f) ∧ (∀ f, f < 10 → RW ((8 + c) * 10 + f) = gd_ c f) ∧ pa c = -1 ∧ pl c = -1) ∧ ∀ j, 160 ≤ j → RW j = 0
def gi_Y (i : Nat) (ds vc qa ql : Nat → Int32) : Prop := ∀ c, c < i → (∀ f, f < 6 → ds (c * 6 + f) = gd_ c f) ∧ (∀ f, f < 8 → vc (c * 8 + f) = gd_ c f) ∧ qa c = -1 ∧ ql c = -1
theorem gi_Xs {i : Nat} {RW pa pl : Nat → Int32} (hi : i < 8) (H : gi_X i RW pa pl) : gi_X (i + 1) (gc_cp (gc_cp RW (gd_ i) 0 (i * 10) 10) (gc_cp RW (gd_ i) 0 (i * 10) 10) (i * 10) ((8 + i) * 10) 10) (upd pa i (-1)) (upd pl i (-1)) := by
  refine ⟨fun c hc => ?_, fun j hj => ?_⟩
  · by_cases q : c = i
    · subst q
      refine ⟨fun f hf => ?_, fun f hf => ?_, pk_us, pk_us⟩
      · rw [gc_cp_out (by omega), gc_cp_in hf, Nat.zero_add]
      · rw [gc_cp_in hf, gc_cp_in hf, Nat.zero_add]
    · obtain ⟨h1, h2, h3, h4⟩ := H.1 c (by omega)
      refine ⟨fun f hf => ?_, fun f hf => ?_, ?_, ?_⟩
      · rw [gc_cp_out (by omega), gc_cp_out (by omega)]; exact h1 f hf
      · rw [gc_cp_out (by omega), gc_cp_out (by omega)]; exact h2 f hf
      · rw [pk_un q]; exact h3
      · rw [pk_un q]; exact h4
  · rw [gc_cp_out (by omega), gc_cp_out (by omega)]; exact H.2 j hj
theorem gi_Ys {i : Nat} {ds vc qa ql : Nat → Int32} (H : gi_Y i ds vc qa ql) : gi_Y (i + 1) (gc_cp ds (gd_ i) 0 (i * 6) 6) (upd (upd (gc_cp vc (gc_cp ds (gd_ i) 0 (i * 6) 6) (i * 6) (i * 8) 6) (i * 8 + 6) 0) (i * 8 + 7) (nI i)) (upd qa i (-1)) (upd ql i (-1)) := by
  intro c hc
  by_cases q : c = i
  · subst q
    refine ⟨fun f hf => ?_, fun f hf => ?_, pk_us, pk_us⟩
    · rw [gc_cp_in hf, Nat.zero_add]
    · rcases (by omega : f < 6 ∨ f = 6 ∨ f = 7) with h | rfl | rfl
      · rw [pk_un (by omega), pk_un (by omega), gc_cp_in h, gc_cp_in h, Nat.zero_add]
      · rw [pk_un (by omega), pk_us]; rfl
      · rw [pk_us]; rfl
  · obtain ⟨h1, h2, h3, h4⟩ := H c (by omega)
    refine ⟨fun f hf => ?_, fun f hf => ?_, ?_, ?_⟩
    · rw [gc_cp_out (by omega)]; exact h1 f hf
    · rw [pk_un (by omega), pk_un (by omega), gc_cp_out (by omega)]; exact h2 f hf
    · rw [pk_un q]; exact h3
    · rw [pk_un q]; exact h4
section
variable {N C L : Nat} {tm : Int32} {RW ds vc pa pl qa ql dr md la lb da db lu es st sv sa ec ed : Nat → Int32} {ti ms aj ig off dl t1 t2 t3 t4 ct : Nat → Int64}
theorem x_start {post : SX → Prop} {c : Nat} (hc : c < 8) (h : post (gx N C L tm (gc_cp RW (gd_ c) 0 (c * 10) 10) dr ti pa pl ms md lu ec es ed)) : wpX_startDataset post (gx N C L tm RW dr ti pa pl ms md lu ec es ed) (nI c) := by
  unfold wpX_startDataset
  refine x_datasetRow ?_
  simp (disch := omega) only [ix_m6, ix_m8, ix_m9, ix_m10, ix_m2, ix_2m, ix_8a, ix_16a, ix_a0, ix_a1, ix_a2, ix_a3, ix_a4, ix_a5, ix_a6, ix_a7, ix_a8, ix_a9, nI_add, nI_clamp]
  have e0 : upd RW (c * 10 + 0) 128 = gc_cp RW (gd_ c) 0 (c * 10) 1 := by
    have := gc_cpS RW (gd_ c) 0 (c * 10) 0
    rw [gc_cp0] at this
    exact this
  exact ⟨vp_in_nI (by omega) (by omega), nm_r e0 ⟨vp_in_nI (by omega) (by omega), nm_r (gc_cpS RW (gd_ c) 0 (c * 10) 1) ⟨vp_in_nI (by omega) (by omega), nm_r (gc_cpS RW (gd_ c) 0 (c * 10) 2) ⟨vp_in_nI (by omega) (by omega), nm_r (gc_cpS RW (gd_ c) 0 (c * 10) 3) ⟨vp_in_nI (by omega) (by omega), nm_r (gc_cpS RW (gd_ c) 0 (c * 10) 4) ⟨vp_in_nI (by omega) (by omega), nm_r (gc_cpS RW (gd_ c) 0 (c * 10) 5) ⟨vp_in_nI (by omega) (by omega), nm_r (gc_cpS RW (gd_ c) 0 (c * 10) 6) ⟨vp_in_nI (by omega) (by omega), nm_r (gc_cpS RW (gd_ c) 0 (c * 10) 7) ⟨vp_in_nI (by omega) (by omega), nm_r (gc_cpS RW (gd_ c) 0 (c * 10) 8) ⟨vp_in_nI (by omega) (by omega), nm_r (gc_cpS RW (gd_ c) 0 (c * 10) 9) h⟩⟩⟩⟩⟩⟩⟩⟩⟩⟩
theorem x_initl {post : SX → Prop} (hN : N ≤ 8) (h : ∀ RW pa pl, gi_X N RW pa pl → post (gx N C 0 tm RW dr ti pa pl ms md lu ec es ed)) : ∀ k i RW pa pl, i + k = N → gi_X i RW pa pl → wX_init_133 post (k + 1) (nI i) (nI N) (nI C) tm (nI 0) RW dr ti pa pl ms md lu ec es ed
  | 0, i, RW, pa, pl, hi, H => by
    obtain rfl : i = N := by omega
    exact br_t (nI_le (by omega) (by omega)) (h _ _ _ H)
  | k + 1, i, RW, pa, pl, hi, H => by
    refine br_f (nI_ge (by omega) (by omega)) (x_start (L := 0) (by omega) (x_self (L := 0) (by omega) (by omega) (nm_r (nI_1 i) ?_)))
    have ih := x_initl hN h k (i + 1) _ _ _ (by omega) (gi_Xs (by omega) H)
    have e : gc_fol ec lu es (fun _ => 1) i (2 * 0) = es := gc_fol0 _ _ _ _ _
    rw [← e] at ih
    exact ih
theorem y_initl {post : SY → Prop} (h : ∀ ds vc qa ql, gi_Y 8 ds vc qa ql → post (gy N C L tm ds vc qa ql dr ti aj ig off dl t1 t2 t3 t4 ct md la lb da db lu es st sv sa)) : ∀ k i ds vc qa ql, i + k = 8 → gi_Y i ds vc qa ql → wY_init_243 post (k + 1) (nI i) (nI N) (nI C) tm (nI L) ds vc qa ql dr ti aj ig off dl t1 t2 t3 t4 ct md la lb da db lu es st sv sa
  | 0, i, ds, vc, qa, ql, hi, H => by
    obtain rfl : i = 8 := by omega
    exact br_t (nI_le (a := 8) (b := 8) (by omega) (by omega)) (h _ _ _ _ H)
  | k + 1, i, ds, vc, qa, ql, hi, H => by
    have ih := y_initl h k (i + 1) _ _ _ _ (by omega) (gi_Ys H)
    have e0 : upd ds (i * 6) 128 = gc_cp ds (gd_ i) 0 (i * 6) 1 := by
      have := gc_cpS ds (gd_ i) 0 (i * 6) 0
      rw [gc_cp0] at this
      exact this
    refine br_f (nI_ge (b := 8) (by omega) (by omega)) ?_
    simp (disch := omega) only [ix_m6, ix_m8, ix_m9, ix_m10, ix_m2, ix_2m, ix_8a, ix_16a, ix_a0, ix_a1, ix_a2, ix_a3, ix_a4, ix_a5, ix_a6, ix_a7, ix_a8, ix_a9, nI_add, nI_clamp]
    exact ⟨vp_in_nI (by omega) (by omega), nm_r e0 ⟨vp_in_nI (by omega) (by omega), nm_r (gc_cpS ds (gd_ i) 0 (i * 6) 1) ⟨vp_in_nI (by omega) (by omega), nm_r (gc_cpS ds (gd_ i) 0 (i * 6) 2) ⟨vp_in_nI (by omega) (by omega), nm_r (gc_cpS ds (gd_ i) 0 (i * 6) 3) ⟨vp_in_nI (by omega) (by omega), nm_r (gc_cpS ds (gd_ i) 0 (i * 6) 4) ⟨vp_in_nI (by omega) (by omega), nm_r (gc_cpS ds (gd_ i) 0 (i * 6) 5) (y_resetV (by omega) ⟨vp_in_nI (by omega) (by omega), nm_e ⟨vp_in_nI (by omega) (by omega), nm_e (nm_e ih)⟩⟩)⟩⟩⟩⟩⟩⟩
end
theorem i_vc0 (k0 : Int32) (k1 : Int32) (k2 : Int32) : wpX_init (fun u => wpY_init (fun v => i_Rel 3 u v) k0 k1 k2) k0 k1 k2 := by
  obtain ⟨N, h2N, hN, eN⟩ := gr_cl (v := k0) (lo := 2) (hi := 8) (a := 2) (b := 8) rfl rfl (by omega) (by omega)
  obtain ⟨C, h1C, hC, eC⟩ := gr_cl (v := k1) (lo := 1) (hi := 16) (a := 1) (b := 16) rfl rfl (by omega) (by omega)
  unfold wpX_init
  refine x_clamp ?_
  rw [eN]
  refine x_clamp ?_
  rw [eC]
  refine x_clamp ⟨_, x_initl hN (fun RW pa pl HX => ?_) N 0 _ _ _ (by omega) ⟨fun c hc => absurd hc (by omega), fun _ _ => rfl⟩⟩
  unfold wpY_init
  refine y_clamp (N := 0) (C := 0) (L := 0) (tm := 0) ?_
  rw [eN]
  refine y_clamp (N := N) (C := 0) (L := 0) (tm := 0) ?_
  rw [eC]
  refine y_clamp (N := N) (C := C) (L := 0) (tm := 0) ⟨_, y_initl (N := N) (C := C) (L := 0) (fun ds vc qa ql HY => ?_) 8 0 _ _ _ _ (by omega) (fun c hc => absurd hc (by omega))⟩
  refine gr_mk ⟨⟨h2N, hN, by omega, fun _ => Or.inl rfl, fun e he => absurd he (by omega)⟩, by omega, hC, fun c hc => ?_, fun c hc => ?_, fun e he => ?_, fun c hc => ⟨rfl, rfl, rfl, rfl, rfl, rfl, rfl, rfl, rfl⟩, fun l hl => absurd hl (by omega), fun l hl => absurd hl (by omega), fun c hc => ?_, fun c hc => ?_⟩
  · obtain ⟨h1, _⟩ := HX.1 c hc
    obtain ⟨g1, _⟩ := HY c (by omega)
    exact ⟨fun f hf => (h1 f (by omega)).trans (g1 f hf).symm, h1 6 (by omega), h1 7 (by omega), h1 8 (by omega), h1 9 (by omega)⟩
  · obtain ⟨_, h1, _⟩ := HX.1 c hc
    obtain ⟨_, g1, _⟩ := HY c (by omega)
    exact ⟨fun f hf => (h1 f (by omega)).trans (g1 f hf).symm, h1 7 (by omega), h1 8 (by omega), h1 9 (by omega)⟩
  · exact ⟨fun f hf => HX.2 _ (by omega), HX.2 _ (by omega), HX.2 _ (by omega), Or.inl rfl⟩
  · exact (HX.1 c hc).2.2.1.trans (HY c (by omega)).2.2.1.symm
  · exact (HX.1 c hc).2.2.2.trans (HY c (by omega)).2.2.2.symm
