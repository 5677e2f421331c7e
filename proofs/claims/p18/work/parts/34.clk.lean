/-! the law's checks of one clock -/
/-- what is fixed while the clocks are checked: the run S, the graph, the bound of the times -/
def gf_H (N L T : Nat) (seed : Int32) (lu ec ed dr : Nat → Int32) (ck : Nat → Nat) (E0 E1 U A : Nat) (S : Nat → (Nat → Int32) × (Nat → Int32) × (Nat → Int32) × (Nat → Int32)) : Prop :=
  gl_K N L seed lu ec ed ck E0 E1 U ∧ sq_H N L T lu ec ck S ∧ (∀ c, c < 8 → -100000 ≤ (dr c).toInt ∧ (dr c).toInt ≤ 100000) ∧ A < 2 ^ 64 ∧ gw_G A L ck (fun e => ¬ lu (e / 2) = 0)
section
variable {N L T : Nat} {seed : Int32} {lu ec ed dr md : Nat → Int32} {ti ms : Nat → Int64} {ck : Nat → Nat} {E0 E1 U A : Nat} {S : Nat → (Nat → Int32) × (Nat → Int32) × (Nat → Int32) × (Nat → Int32)}
theorem gf_cmp (H : gf_H N L T seed lu ec ed dr ck E0 E1 U A S) {t a b : Nat} (ha : a < N) (hb : b < N) : gs_cmp (S t).1 (a * 10) (b * 10) 6 = -1 ↔ kl_r (sq_D S a) (sq_D S b) := by
  have hN := H.2.1.1
  unfold kl_r
  rw [cq_lt]
  unfold sq_D
  rw [← kl_cmp, gb_cmpc (R := (S t).1) (RW := (S 0).1) (x := a * 10) (y := b * 10) (x' := a * 10) (y' := b * 10) (k := 6) (fun f hf => sq_ds H.2.1 (by omega) t) (fun f hf => sq_ds H.2.1 (by omega) t)]
theorem gf_tot (H : gf_H N L T seed lu ec ed dr ck E0 E1 U A S) {a b : Nat} (ha : a < N) (hb : b < N) (hab : a ≠ b) (h : ¬ kl_r (sq_D S a) (sq_D S b)) : kl_r (sq_D S b) (sq_D S a) := by
  have hN := H.2.1.1
  rcases gl_cne (sq_I H.2.1 0) hN hb ha (fun z => hab z.symm) with z | z
  · have y : gs_cmp (S 0).1 (a * 10) (b * 10) 6 = -1 := by
      have q : gs_cmp (S 0).1 (a * 10) (b * 10) 6 = - gs_cmp (S 0).1 (b * 10) (a * 10) 6 := cq_neg _ _ 6 0
      rw [q, z]
    exact absurd ((gf_cmp H ha hb).mp y) h
  · exact (gf_cmp H hb ha).mp z
theorem gf_in (H : gf_H N L T seed lu ec ed dr ck E0 E1 U A S) {c : Nat} (hc : c < N) (y : Nat) : (gw_rc A N c N).testBit y = true ↔ ∃ j, cv_W (2 * L) ck gc_ot (fun e => ¬ lu (e / 2) = 0) c j y := by
  have hN := H.2.1.1
  rw [gw_rc_W hN hc (sq_net H.2.1) H.2.2.2.2 N y]
  constructor
  · rintro ⟨j, _, hw⟩; exact ⟨j, hw⟩
  · rintro ⟨j, hw⟩
    obtain ⟨d, _, hd⟩ := cv_hasd hw
    have := cv_dlt (sq_net H.2.1) hc hd
    exact ⟨d, by omega, hd.1⟩
theorem gf_dsym (H : gf_H N L T seed lu ec ed dr ck E0 E1 U A S) {b c d : Nat} (h : cv_d (2 * L) ck gc_ot (fun e => ¬ lu (e / 2) = 0) c b d) : cv_d (2 * L) ck gc_ot (fun e => ¬ lu (e / 2) = 0) b c d :=
  ⟨cv_rev (sq_net H.2.1) _ _ h.1, fun i hi hw => h.2 i hi (cv_rev (sq_net H.2.1) _ _ hw)⟩
/-- the law's distance -/
theorem gf_dist {post : Int32 → Prop} (H : gf_H N L T seed lu ec ed dr ck E0 E1 U A S) {c b d : Nat} (hc : c < N) (hb : b < N) (hd : cv_d (2 * L) ck gc_ot (fun e => ¬ lu (e / 2) = 0) c b d) (h : post (nI d)) : wpL_dist post () (lN A) (nI c) (nI b) (nI N) := by
  have hN := H.2.1.1
  have hdn := cv_dlt (sq_net H.2.1) hc hd
  refine l_dist H.2.2.2.1 (by omega) hN (by omega) (by omega) ((gw_rc_W hN hc (sq_net H.2.1) H.2.2.2.2 d b).mpr ⟨d, Nat.le_refl d, hd.1⟩) (fun i hi => ?_) h
  cases q : (gw_rc A N c i).testBit b with
  | false => rfl
  | true =>
    obtain ⟨j, hj, hw⟩ := (gw_rc_W hN hc (sq_net H.2.1) H.2.2.2.2 i b).mp q
    exact absurd hw (hd.2 j (by omega))
/-- the best of what c reaches -/
def gf_B (N L : Nat) (lu : Nat → Int32) (ck : Nat → Nat) (S : Nat → (Nat → Int32) × (Nat → Int32) × (Nat → Int32) × (Nat → Int32)) (c b : Nat) : Prop :=
  b < N ∧ (∃ j, cv_W (2 * L) ck gc_ot (fun e => ¬ lu (e / 2) = 0) c j b) ∧ ∀ x, x < N → (∃ j, cv_W (2 * L) ck gc_ot (fun e => ¬ lu (e / 2) = 0) c j x) → ¬ kl_r (sq_D S x) (sq_D S b)
theorem gf_best (H : gf_H N L T seed lu ec ed dr ck E0 E1 U A S) {c b : Nat} (hB : gf_B N L lu ck S c b) : ∀ g, g < N → (∃ j, cv_W (2 * L) ck gc_ot (fun e => ¬ lu (e / 2) = 0) g j b) → g ≠ b → kl_r (sq_D S b) (sq_D S g) := by
  intro g hg ⟨j, hw⟩ hne
  obtain ⟨hb, ⟨i, hi⟩, hm⟩ := hB
  exact gf_tot H hg hb hne (hm g hg ⟨_, cv_trans hi _ _ (cv_rev (sq_net H.2.1) _ _ hw)⟩)
theorem gl_gend (HK : gl_K N L seed lu ec ed ck E0 E1 U) {e : Nat} (he : e < 2 * L) : gs_end L ec (ck e) (nI (e / 2)) = some e := by
  have hN := HK.2.1
  have hL := HK.2.2.1
  obtain ⟨c0, e0⟩ := HK.2.2.2.2.1 e he
  have ne := HK.2.2.2.2.2.1 e he
  obtain ⟨c1, e1⟩ := HK.2.2.2.2.1 _ (gc_otlt he)
  unfold gs_end
  rw [if_neg (fun z => z.elim (nI_pos (by omega)) (nI_ge (by omega) (by omega))), nI_clamp (by omega)]
  rcases (by omega : e = 2 * (e / 2) ∨ e = 2 * (e / 2) + 1) with q | q
  · rw [← q, if_pos e0]
  · have o : gc_ot e = 2 * (e / 2) := by
      have := gc_ot1 (e / 2)
      rw [← q] at this
      exact this
    rw [o] at e1 ne c1
    rw [if_neg (by rw [e1]; exact fun z => ne ((nI_eq (by omega) (by omega)).mp z).symm), ← q, if_pos e0]
/-- the measures of the law's last step -/
theorem l_1182 {post : Int32 → Prop} {LS : Nat} {xs : Nat → Int32} {J : _} {x3 x9 x10 x11 : Int32} {x5 x7 x14 : Int64} {kc ks t c b : Nat} {B : Int} (H : gf_H N L T seed lu ec ed dr ck E0 E1 U A S) (hb : b < 2 * L) (hbc : ck b = c) (hu : ¬ lu (b / 2) = 0) (hpl : (S t).2.2.1 c = nI (b / 2)) (h2 : (S t).2.2.2 b = 2) (h1 : (S t).2.2.2 (gc_ot b) = 1)
    (heq : gw_dl (nI (ck (gc_ot b))) (nI c) seed = gw_dl (nI c) (nI (ck (gc_ot b))) seed) (h0 : 0 ≤ B) (hB : B ≤ 2 ^ 56) (HA : gt_A N B ti ms)
    (hJ : ∀ ti' ms' md', gt_A N (B + 2147483648) ti' ms' → J x11 (nI (c + 1)) (nI N) (nI 16) (nI T) (nI L) (S (t + 1)).1 dr ti' (S (t + 1)).2.1 (S (t + 1)).2.2.1 ms' md' lu ec (S (t + 1)).2.2.2 ed) :
    wL_law_1182 post LS xs J (nI N) x3 x5 x7 x9 x10 x11 x14 (nI c) (nI (ck (gc_ot b))) (gw_dl (nI (ck (gc_ot b))) (nI c) seed) kc ks (nI N) (nI 16) (nI T) (nI L) (S t).1 dr ti (S t).2.1 (S t).2.2.1 ms md lu ec (S t).2.2.2 ed := by
  obtain ⟨HK, HS, HD, _⟩ := H
  have K := gl_ok HK
  have hN := HK.2.1
  have hL := HK.2.2.1
  obtain ⟨hc, eb⟩ := HK.2.2.2.2.1 b hb
  obtain ⟨hp, ep⟩ := HK.2.2.2.2.1 _ (gc_otlt hb)
  rw [hbc] at hc eb
  have d1 : ed b = gw_dl (nI (ck (gc_ot b))) (nI c) seed := by rw [HK.2.2.2.2.2.2.2.1 b hb, hbc]; exact heq.symm
  have d2 : ed (gc_ot b) = gw_dl (nI (ck (gc_ot b))) (nI c) seed := by rw [HK.2.2.2.2.2.2.2.1 _ (gc_otlt hb), gv_ot2, hbc]
  have ge : gs_end L ec c ((S t).2.2.1 c) = some b := by
    rw [hpl]
    have := gl_gend HK hb
    rw [hbc] at this
    exact this
  have gm : gs_meas L (S t).2.2.1 lu ec (S t).2.2.2 ed ti c (md, ms) = (upd md c 1, gs_ms ec ed ti ms c b) := by
    unfold gs_meas
    rw [ge]
    exact if_pos ⟨hu, h2, h1⟩
  obtain ⟨w, hw, ew⟩ := gw_dl_r (nI (ck (gc_ot b))) (nI c) seed
  have dw : (gw_dl (nI (ck (gc_ot b))) (nI c) seed).toInt64.toInt = (w : Int) := by rw [Int32.toInt_toInt64, ew, nI_toInt (by omega)]
  obtain ⟨hti, _⟩ := HA c hc
  obtain ⟨htp, _⟩ := HA _ hp
  have io := iv_off (B := B) (tc := ti c) (tp := ti (ck (gc_ot b))) (a := (gw_dl (nI (ck (gc_ot b))) (nI c) seed).toInt64) (b := (gw_dl (nI (ck (gc_ot b))) (nI c) seed).toInt64) (by omega) hti htp (by rw [dw]; omega) (by rw [dw]; omega)
  have vo : gt_off ec ed ti c b = ti c - ti (ck (gc_ot b)) := by
    apply Int64.toInt_inj.mp
    unfold gt_off
    rw [ep, nI_clamp (by omega), d1, d2, io.1, iv_sub (by omega) (by omega), dw]
    have := iv_hb (x := 2 * ((ti c).toInt - (ti (ck (gc_ot b))).toInt) + ((w : Int) - w)) (y := 4 * B) (by omega) (by omega)
    omega
  have vd : gt_dly ec ed ti c b = (gw_dl (nI (ck (gc_ot b))) (nI c) seed).toInt64 := by
    apply Int64.toInt_inj.mp
    unfold gt_dly
    rw [ep, nI_clamp (by omega), d1, d2, io.2, dw]
    have := iv_hb (x := (w : Int) + w) (y := 4 * w) (by omega) (by omega)
    omega
  obtain ⟨m1, m2⟩ := gt_meas (N := N) (L := L) (lu := lu) (ec := ec) (es := (S t).2.2.2) (ed := ed) (pl := (S t).2.2.1) (md := md) (ti := ti) (ms := ms) hc
  obtain ⟨_, s2⟩ := gt_steer (N := N) (md := (gs_it (gs_meas L (S t).2.2.1 lu ec (S t).2.2.2 ed ti) N 0 (md, ms)).1) (ti := ti) (ms := (gs_it (gs_meas L (S t).2.2.1 lu ec (S t).2.2.2 ed ti) N 0 (md, ms)).2) hc
  obtain ⟨_, _, g3⟩ := gt_st1 (md := (gs_it (gs_meas L (S t).2.2.1 lu ec (S t).2.2.2 ed ti) N 0 (md, ms)).1) (ti := ti) (ms := (gs_it (gs_meas L (S t).2.2.1 lu ec (S t).2.2.2 ed ti) N 0 (md, ms)).2) c
  have v : ∀ w, w < 9 → w ≠ 6 → w ≠ 7 → (gs_it (gs_steer (gs_it (gs_meas L (S t).2.2.1 lu ec (S t).2.2.2 ed ti) N 0 (md, ms)).1) N 0 (ti, (gs_it (gs_meas L (S t).2.2.1 lu ec (S t).2.2.2 ed ti) N 0 (md, ms)).2)).2 (c * 9 + w) = gs_ms ec ed ti ms c b (c * 9 + w) := by
    intro w hw h6 h7
    rw [s2 w hw, g3 w hw h6 h7, m2 w hw, gm]
  unfold wL_law_1182
  refine x_getTime hN hc (x_getTime hN hp (x_getMeasure (w := 8) hN hc (by omega) (x_run1 K ?_)))
  refine x_getMeasure (w := 8) hN hc (by omega) (br_t ((v 8 (by omega) (by omega) (by omega)).trans gt_ms8) (x_getMeasure (w := 0) hN hc (by omega) (br_t ((v 0 (by omega) (by omega) (by omega)).trans (gt_ms0.trans vo)) (x_getMeasure (w := 1) hN hc (by omega) (br_t ((v 1 (by omega) (by omega) (by omega)).trans (gt_ms1.trans vd)) (nm_r (nI_1 c) ?_))))))
  have hj := hJ _ _ (gs_it (gs_meas L (S t).2.2.1 lu ec (S t).2.2.2 ed ti) N 0 (md, ms)).1 (gt_step (md := md) (pl := (S t).2.2.1) (es := (S t).2.2.2) K (by omega) h0 HA (gl_D HK HD))
  rw [HS.2.2.2.2.2 t] at hj
  exact hj
end
