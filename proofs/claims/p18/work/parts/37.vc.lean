/-! the constructor, and the law as a whole -/
def gd_ (c f : Nat) : Int32 := [128, 248, 254, 65535, 128, nI c, 0, nI c, 1, 0].getD f 0
def gi_X (i : Nat) (RW : Nat → Int32) : Prop := ∀ c, c < i → (∀ f, f < 10 → RW (c * 10 + f) = gd_ c f) ∧ (∀ f, f < 10 → RW ((8 + c) * 10 + f) = gd_ c f)
theorem gi_Xs {i : Nat} {RW : Nat → Int32} (hi : i < 8) (H : gi_X i RW) : gi_X (i + 1) (gc_cp (gc_cp RW (gd_ i) 0 (i * 10) 10) (gc_cp RW (gd_ i) 0 (i * 10) 10) (i * 10) ((8 + i) * 10) 10) := by
  intro c hc
  by_cases q : c = i
  · subst q
    refine ⟨fun f hf => ?_, fun f hf => ?_⟩
    · rw [gc_cp_out (by omega), gc_cp_in hf, Nat.zero_add]
    · rw [gc_cp_in hf, gc_cp_in hf, Nat.zero_add]
  · obtain ⟨h1, h2⟩ := H c (by omega)
    refine ⟨fun f hf => ?_, fun f hf => ?_⟩
    · rw [gc_cp_out (by omega), gc_cp_out (by omega)]; exact h1 f hf
    · rw [gc_cp_out (by omega), gc_cp_out (by omega)]; exact h2 f hf
section
variable {N C L : Nat} {tm : Int32} {RW dr pa pl md lu ec es ed : Nat → Int32} {ti ms : Nat → Int64}
theorem x_start {post : St2 → Prop} {c : Nat} (hc : c < 8) (h : post (gx N C L tm (gc_cp RW (gd_ c) 0 (c * 10) 10) dr ti pa pl ms md lu ec es ed)) : wpX_startDataset post (gx N C L tm RW dr ti pa pl ms md lu ec es ed) (nI c) := by
  unfold wpX_startDataset
  refine x_datasetRow ?_
  simp (disch := omega) only [ix_m6, ix_m8, ix_m9, ix_m10, ix_m2, ix_2m, ix_8a, ix_16a, ix_a0, ix_a1, ix_a2, ix_a3, ix_a4, ix_a5, ix_a6, ix_a7, ix_a8, ix_a9, nI_add, nI_clamp]
  have e0 : upd RW (c * 10 + 0) 128 = gc_cp RW (gd_ c) 0 (c * 10) 1 := by
    have := gc_cpS RW (gd_ c) 0 (c * 10) 0
    rw [gc_cp0] at this
    exact this
  exact ⟨vp_in_nI (by omega) (by omega), nm_r e0 ⟨vp_in_nI (by omega) (by omega), nm_r (gc_cpS RW (gd_ c) 0 (c * 10) 1) ⟨vp_in_nI (by omega) (by omega), nm_r (gc_cpS RW (gd_ c) 0 (c * 10) 2) ⟨vp_in_nI (by omega) (by omega), nm_r (gc_cpS RW (gd_ c) 0 (c * 10) 3) ⟨vp_in_nI (by omega) (by omega), nm_r (gc_cpS RW (gd_ c) 0 (c * 10) 4) ⟨vp_in_nI (by omega) (by omega), nm_r (gc_cpS RW (gd_ c) 0 (c * 10) 5) ⟨vp_in_nI (by omega) (by omega), nm_r (gc_cpS RW (gd_ c) 0 (c * 10) 6) ⟨vp_in_nI (by omega) (by omega), nm_r (gc_cpS RW (gd_ c) 0 (c * 10) 7) ⟨vp_in_nI (by omega) (by omega), nm_r (gc_cpS RW (gd_ c) 0 (c * 10) 8) ⟨vp_in_nI (by omega) (by omega), nm_r (gc_cpS RW (gd_ c) 0 (c * 10) 9) h⟩⟩⟩⟩⟩⟩⟩⟩⟩⟩
theorem x_initl {post : St2 → Prop} {mc mm kc ks : Nat} (hN : N ≤ 8) (h : ∀ RW pa pl, gi_X N RW → post (gx N C 0 tm RW dr ti pa pl ms md lu ec es ed)) : ∀ k i RW pa pl, i + k = N → gi_X i RW → wX_init_133 post mc mm kc ks (k + 1) (nI i) (nI N) (nI C) tm (nI 0) RW dr ti pa pl ms md lu ec es ed
  | 0, i, RW, pa, pl, hi, H => by
    obtain rfl : i = N := by omega
    exact br_t (nI_le (by omega) (by omega)) (h _ _ _ H)
  | k + 1, i, RW, pa, pl, hi, H => by
    refine br_f (nI_ge (by omega) (by omega)) (x_start (L := 0) (by omega) (x_self (L := 0) (by omega) (by omega) (nm_r (nI_1 i) ?_)))
    have ih := x_initl (mc := mc) (mm := mm) (kc := kc) (ks := ks) hN h k (i + 1) _ (upd pa i (-1)) (upd pl i (-1)) (by omega) (gi_Xs (by omega) H)
    have e : gc_fol ec lu es (fun _ => 1) i (2 * 0) = es := gc_fol0 _ _ _ _ _
    rw [← e] at ih
    exact ih
end
theorem gl_cl {N a b : Nat} {lo hi : Int32} (h1 : a ≤ N) (h2 : N ≤ b) (hb : b < 2 ^ 31) (ea : lo = nI a) (eb : hi = nI b) : gc_cl (nI N) lo hi = nI N := by
  subst ea eb
  unfold gc_cl
  rw [if_neg (nI_nlt h1 (by omega)), if_neg (nI_nlt h2 hb)]
theorem gl_0 {N T : Nat} {seed : Int32} {RW : Nat → Int32} (h2 : 2 ≤ N) (hN : N ≤ 8) (hT : 1 ≤ T ∧ T ≤ 4) (H : gi_X N RW) : gl_I N 0 T seed (fun _ => 0) (fun _ => 0) (fun _ => 0) (fun _ => 0) 0 0 0 RW (fun _ => 0) (fun _ => 0) (fun _ => 0) (2 ^ 45) := by
  refine ⟨⟨h2, hN, by omega, fun _ => Or.inl rfl, fun e he => absurd he (by omega), fun e he => absurd he (by omega), fun e e' he => absurd he (by omega), fun e he => absurd he (by omega), ⟨by decide, by decide, fun _ => by decide, fun _ => rfl, fun z => absurd z (by omega), fun l hl => absurd hl (by omega)⟩, by decide, fun l hl => ?_⟩, ⟨fun c hc => ?_, fun c hc => ?_, fun e he => absurd he (by omega)⟩, fun c hc => ?_, fun c hc => ?_, hT⟩
  · rw [Nat.zero_testBit]
    exact ⟨fun z => absurd z (by decide), fun z => absurd z.1 (by omega)⟩
  · obtain ⟨h1, _⟩ := H c hc
    exact ⟨h1 5 (by omega), h1 6 (by omega), h1 7 (by omega), h1 8 (by omega), h1 9 (by omega)⟩
  · obtain ⟨_, h1⟩ := H c hc
    exact ⟨⟨0, by omega, h1 6 (by omega)⟩, ⟨c, by omega, h1 5 (by omega)⟩, h1 7 (by omega), h1 8 (by omega), h1 9 (by omega)⟩
  · have z : (0 : Int32).toInt = 0 := by decide
    show -100000 ≤ (0 : Int32).toInt ∧ (0 : Int32).toInt ≤ 100000
    rw [z]; omega
  · have z : (0 : Int64).toInt = 0 := by decide
    show (-(2 ^ 45) ≤ (0 : Int64).toInt ∧ (0 : Int64).toInt ≤ 2 ^ 45) ∧ (-500000 ≤ (0 : Int64).toInt ∧ (0 : Int64).toInt ≤ 500000)
    rw [z]; omega
/-- behind the last operation -/
theorem l_fin {post : Int32 → Prop} {LS N T m tot kc ks : Nat} {xs : Nat → Int32} {seed : Int32} (hp : post 1) (hLS : LS ≤ 260) (ht : tot ≤ 47) : gl_J N T seed (2 ^ 46) (5 + 4 * tot) tot (wL_law_95 post LS xs (nI N) seed (nI m) (nI tot) kc ks 1) := by
  intro L E0 E1 U ck RW dr ti pa pl ms md lu ec es ed ⟨HK, HI, HD, HA, hT⟩
  have K := gl_ok HK
  have hN := HK.2.1
  have hL := HK.2.2.1
  have I0 : gq_Q N 16 L (nI T) dr lu ec ed (RW, pa, pl, es) (2 ^ 46) 0 (gx N 16 L (nI T) RW dr ti pa pl ms md lu ec es ed) := ⟨ti, ms, md, rfl, fun _ => gt_mono (by omega) HA⟩
  obtain ⟨u', ⟨ti', ms', md', rfl, HA2⟩, wk⟩ := gq_run K (by omega) (gl_D HK HD) (k := 64) (by omega) I0
  have SH : sq_H N L T lu ec ck (gq_S N L (nI T) lu ec (RW, pa, pl, es)) := ⟨hN, hL, hT, HK.2.2.2.2.1, HI, fun _ => rfl⟩
  have HA3 : gt_A N (2 ^ 47 + 2147483648 * ((0 : Nat) : Int)) ti' ms' := gt_mono (by omega) (HA2 (by omega))
  refine br_t (nI_le (by omega) (by omega)) (wk _ ⟨_, l_adj (T := T) HK (fun A hA G => ⟨_, l_596 (sq_I SH _) hN ⟨_, l_729 hp hLS ⟨HK, SH, HD, hA, G⟩ N 0 (0 + 64) (5 + 4 * tot) ti' ms' md' (by omega) (by omega) (by omega) HA3⟩ N 0 (by omega)⟩) L 0 0 (by omega) (by decide) (fun x y _ _ => ?_)⟩)
  rw [Nat.zero_testBit]
  exact ⟨fun z => absurd z (by decide), fun ⟨e, he, _⟩ => absurd he (by omega)⟩
theorem i_vc (xs : Nat → Int32) (L : Nat) (hL : L ≤ 260) : wpL_law (fun r => r = 1) L xs := by
  unfold wpL_law
  refine l_cell (j := 0) hL (by omega) (fun r1 => ⟨by decide, ?_⟩)
  obtain ⟨w1, hw1, e1⟩ := pk_andE r1 8 (m := 255) (by decide)
  refine nm_r (e' := nI (2 + w1 % 7)) ?_ ?_
  · rw [e1, show nI w1 - nI w1 / 7 * 7 = nI (w1 % 7) from pk_rem (d := 7) (by omega) (by omega) (by omega)]
    exact nI_add 2 (w1 % 7)
  · have h7 : w1 % 7 < 7 := Nat.mod_lt _ (by omega)
    generalize hNN : 2 + w1 % 7 = N
    refine l_cell (j := 1) hL (by omega) (fun r2 => ?_)
    obtain ⟨w2, hw2, e2⟩ := pk_andE r2 2 (m := 3) (by decide)
    refine nm_r (e' := nI (1 + w2)) (by rw [e2]; exact nI_add 1 w2) ?_
    refine l_cell (j := 2) hL (by omega) (fun seed => ⟨11, 704, by omega, by omega, ?_⟩)
    unfold wpX_init
    refine ⟨by omega, by omega, by omega, by omega, by omega, by omega, by omega, by omega, by omega, by omega, by omega, by omega, by omega, by omega, by omega, by omega, by omega, by omega, by omega, by omega, by omega, by omega, x_clamp ?_⟩
    have eN : gc_cl (nI N) 2 8 = nI N := gl_cl (a := 2) (b := 8) (by omega) (by omega) (by omega) rfl rfl
    rw [eN]
    refine x_clamp ?_
    rw [show gc_cl 16 1 16 = nI 16 by decide]
    refine x_clamp ?_
    have eT : gc_cl (nI (1 + w2)) 1 4 = nI (1 + w2) := gl_cl (a := 1) (b := 4) (by omega) (by omega) (by omega) rfl rfl
    rw [eT]
    refine ⟨_, x_initl (C := 16) (by omega) (fun RW pa pl HX => ?_) N 0 _ _ _ (by omega) (fun c hc => absurd hc (by omega))⟩
    refine nm_r (e' := nI 4) (by decide) (l_cell (j := 3) hL (by omega) (fun r3 => ?_))
    obtain ⟨w3, hw3, e3⟩ := pk_andE r3 4 (m := 15) (by decide)
    refine nm_r (e' := nI (1 + w3)) (by rw [e3]; exact nI_add 1 w3) (nm_r (e' := nI 5) (by decide) (l_cell (j := 4) hL (by omega) (fun r4 => ?_)))
    obtain ⟨w4, hw4, e4⟩ := pk_andE r4 5 (m := 31) (by decide)
    refine nm_r (e' := nI (1 + w3 + w4)) (by rw [e4]; exact nI_add (1 + w3) w4) ⟨1 + w3 + w4 + 1, ?_⟩
    exact l_ops (N := N) (T := 1 + w2) (m := 1 + w3) (tot := 1 + w3 + w4) hL (by omega) (by omega) (l_fin (post := fun r => r = 1) (LS := L) (N := N) (T := 1 + w2) (m := 1 + w3) (tot := 1 + w3 + w4) (kc := 1 + 11) (ks := 15 + 704) (xs := xs) (seed := seed) rfl hL (by omega)) (1 + w3 + w4) 0 (by omega) 0 0 0 0 (fun _ => 0) RW (fun _ => 0) (fun _ => 0) pa pl (fun _ => 0) (fun _ => 0) (fun _ => 0) (fun _ => 0) (fun _ => 0) (fun _ => 0) (gl_0 (by omega) (by omega) (by omega) HX)
