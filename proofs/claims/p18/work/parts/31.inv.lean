/-! what holds between the law's variables and the object -/
/-- links: their ends, no two alike, their delays, the law's bytes and mask -/
def gl_K (N L : Nat) (seed : Int32) (lu ec ed : Nat → Int32) (ck : Nat → Nat) (E0 E1 U : Nat) : Prop :=
  2 ≤ N ∧ N ≤ 8 ∧ L ≤ 16 ∧ (∀ l, lu l = 0 ∨ lu l = 1) ∧ gv_E N L ec ck ∧ (∀ e, e < 2 * L → ck e ≠ ck (gc_ot e)) ∧
  (∀ e e', e < 2 * L → e' < 2 * L → ck e = ck e' → ck (gc_ot e) = ck (gc_ot e') → e = e') ∧
  (∀ e, e < 2 * L → ed e = gw_dl (nI (ck e)) (nI (ck (gc_ot e))) seed) ∧
  (E0 < 2 ^ 64 ∧ E1 < 2 ^ 64 ∧ (L ≤ 7 → E0 < 2 ^ (8 * L)) ∧ (L ≤ 8 → E1 = 0) ∧ (8 ≤ L → L ≤ 15 → E1 < 2 ^ (8 * (L - 8))) ∧ ∀ l, l < L → (if l < 8 then E0 / 2 ^ (8 * l) % 256 else E1 / 2 ^ (8 * (l - 8)) % 256) = ck (2 * l) + 16 * ck (2 * l + 1)) ∧
  (U < 2 ^ 16 ∧ ∀ l, l < 16 → (U.testBit l = true ↔ l < L ∧ ¬ lu l = 0))
section
variable {N L T : Nat} {seed : Int32} {lu ec ed RW : Nat → Int32} {ck : Nat → Nat} {E0 E1 U : Nat}
theorem gl_ok (H : gl_K N L seed lu ec ed ck E0 E1 U) : gx_ok N L lu ec :=
  ⟨H.1, H.2.1, H.2.2.1, H.2.2.2.1, fun e he => ⟨ck e, (H.2.2.2.2.1 e he).1, (H.2.2.2.2.1 e he).2⟩⟩
theorem gl_D (H : gl_K N L seed lu ec ed ck E0 E1 U) {dr : Nat → Int32} (hd : ∀ c, c < 8 → -100000 ≤ (dr c).toInt ∧ (dr c).toInt ≤ 100000) : gt_D L dr ed := by
  refine ⟨hd, fun e he => ?_⟩
  obtain ⟨w, hw, q⟩ := gw_dl_r (nI (ck e)) (nI (ck (gc_ot e))) seed
  rw [H.2.2.2.2.2.2.2.1 e he, q, nI_toInt (by omega)]
  omega
/-- the law's reading of a link's ends -/
theorem gl_end {post : Int32 → Prop} (H : gl_K N L seed lu ec ed ck E0 E1 U) {l w : Nat} (hl : l < L) (hw : w < 2) (h : post (nI (ck (2 * l + w)))) : wpL_endOf post () (lN E0) (lN E1) (nI l) (nI w) := by
  have hN := H.2.1
  have hL := H.2.2.1
  obtain ⟨b0, b1, _, _, _, hv⟩ := H.2.2.2.2.2.2.2.2.1
  have c0 := (H.2.2.2.2.1 (2 * l) (by omega)).1
  have c1 := (H.2.2.2.2.1 (2 * l + 1) (by omega)).1
  refine l_endOf b0 b1 (by omega) (hv l hl) hw ?_
  rcases (by omega : w = 0 ∨ w = 1) with q | q
  · subst q
    rw [if_pos rfl, show (ck (2 * l) + 16 * ck (2 * l + 1)) % 16 = ck (2 * l) by omega]
    exact h
  · subst q
    rw [if_neg (by decide), show (ck (2 * l) + 16 * ck (2 * l + 1)) / 16 = ck (2 * l + 1) by omega]
    exact h
theorem gl_up (H : gl_K N L seed lu ec ed ck E0 E1 U) {l : Nat} (hl : l < L) : (nI U >>> (nI l &&& 31)) &&& 1 = 0 ↔ lu l = 0 := by
  have hL := H.2.2.1
  obtain ⟨hU, hb⟩ := H.2.2.2.2.2.2.2.2.2
  rw [bm_0 (by omega) (by omega)]
  have := hb l (by omega)
  constructor
  · intro z
    apply Classical.byContradiction
    intro q
    rw [this.mpr ⟨hl, q⟩] at z
    exact absurd z (by decide)
  · intro z
    cases h : U.testBit l with
    | false => rfl
    | true => exact absurd z (this.mp h).2
/-- a link's state changed -/
theorem gl_setUp (H : gl_K N L seed lu ec ed ck E0 E1 U) {l : Nat} {up : Int32} (hl : l < L) (hup : up = 0 ∨ up = 1) : gl_K N L seed (upd lu l up) ec ed ck E0 E1 (if up = 0 then U &&& (2 ^ l ^^^ (2 ^ 32 - 1)) else U ||| 2 ^ l) := by
  obtain ⟨h1, h2, h3, h4, h5, h6, h7, h8, h9, hU, hb⟩ := H
  refine ⟨h1, h2, h3, fun j => ?_, h5, h6, h7, h8, h9, ?_, fun j hj => ?_⟩
  · by_cases q : j = l
    · subst q; rw [pk_us]; exact hup
    · rw [pk_un q]; exact h4 j
  · split
    · exact Nat.lt_of_le_of_lt Nat.and_le_left hU
    · exact Nat.or_lt_two_pow hU (Nat.pow_lt_pow_right (by decide) (by omega))
  · rcases hup with rfl | rfl
    · rw [if_pos rfl, bm_clr_tb (by omega), hb j hj]
      by_cases q : j = l
      · subst q; rw [pk_us]
        exact ⟨fun z => absurd rfl z.2, fun z => absurd rfl z.2⟩
      · rw [pk_un q]
        exact ⟨fun z => z.1, fun z => ⟨z, q⟩⟩
    · rw [if_neg (by decide), bm_set_tb, hb j hj]
      by_cases q : j = l
      · subst q; rw [pk_us]
        exact ⟨fun _ => ⟨hl, by decide⟩, fun _ => Or.inr rfl⟩
      · rw [pk_un q]
        exact ⟨fun z => z.elim id (fun y => absurd y q), fun z => Or.inl z⟩
theorem pb_lo {E v s r : Nat} (h : r + 8 ≤ s) : (E + v * 2 ^ s) / 2 ^ r % 256 = E / 2 ^ r % 256 := by
  obtain ⟨d, rfl⟩ : ∃ d, s = r + (8 + d) := ⟨s - r - 8, by omega⟩
  rw [show v * 2 ^ (r + (8 + d)) = 2 ^ r * (256 * (v * 2 ^ d)) by rw [Nat.pow_add, Nat.pow_add]; simp [Nat.mul_comm, Nat.mul_left_comm, Nat.mul_assoc], Nat.add_mul_div_left _ _ (Nat.two_pow_pos r), Nat.add_mul_mod_self_left]
theorem pb_at {E v s : Nat} (hE : E < 2 ^ s) (hv : v < 256) : (E + v * 2 ^ s) / 2 ^ s % 256 = v := by
  rw [Nat.add_mul_div_right _ _ (Nat.two_pow_pos s), Nat.div_eq_of_lt hE, Nat.zero_add]
  exact Nat.mod_eq_of_lt hv
theorem pb_lt {E v s : Nat} (hE : E < 2 ^ s) (hv : v < 256) : E + v * 2 ^ s < 2 ^ (s + 8) := by
  have h1 : v * 2 ^ s ≤ 255 * 2 ^ s := Nat.mul_le_mul (by omega) (Nat.le_refl _)
  rw [Nat.pow_add]
  omega
/-- a link added -/
theorem gl_add (H : gl_K N L seed lu ec ed ck E0 E1 U) {a b : Nat} (hL : L < 16) (ha : a < N) (hb : b < N) (hab : a ≠ b) (hJ : ¬ gw_J L ec (nI a) (nI b)) :
    gl_K N (L + 1) seed (upd lu L 1) (upd (upd ec (2 * L) (nI a)) (2 * L + 1) (nI b)) (upd (upd ed (2 * L) (gw_dl (nI a) (nI b) seed)) (2 * L + 1) (gw_dl (nI b) (nI a) seed)) (fun e => if e = 2 * L then a else if e = 2 * L + 1 then b else ck e) (if L < 8 then E0 + (a + 16 * b) * 2 ^ (8 * (L % 8)) else E0) (if L < 8 then E1 else E1 + (a + 16 * b) * 2 ^ (8 * (L % 8))) (U ||| 2 ^ L) := by
  obtain ⟨h1, h2, h3, h4, h5, h6, h7, h8, ⟨b0, b1, b2, b3, b4, b5⟩, hU, hu⟩ := H
  have k0 : (fun e => if e = 2 * L then a else if e = 2 * L + 1 then b else ck e) (2 * L) = a := if_pos rfl
  have k1 : (fun e => if e = 2 * L then a else if e = 2 * L + 1 then b else ck e) (2 * L + 1) = b := by
    show (if 2 * L + 1 = 2 * L then a else if 2 * L + 1 = 2 * L + 1 then b else ck (2 * L + 1)) = b
    rw [if_neg (by omega), if_pos rfl]
  have kn : ∀ e, e < 2 * L → (fun e => if e = 2 * L then a else if e = 2 * L + 1 then b else ck e) e = ck e := by
    intro e he
    show (if e = 2 * L then a else if e = 2 * L + 1 then b else ck e) = ck e
    rw [if_neg (by omega), if_neg (by omega)]
  generalize hck : (fun e => if e = 2 * L then a else if e = 2 * L + 1 then b else ck e) = ck' at k0 k1 kn
  have cs : ∀ e, e < 2 * (L + 1) → e < 2 * L ∨ e = 2 * L ∨ e = 2 * L + 1 := by intro e he; omega
  have noab : ∀ e, e < 2 * L → ¬ (ck e = a ∧ ck (gc_ot e) = b) := fun e he z => hJ ⟨e, he, by rw [(h5 e he).2, z.1], by rw [(h5 _ (gc_otlt he)).2, z.2]⟩
  have noba : ∀ e, e < 2 * L → ¬ (ck e = b ∧ ck (gc_ot e) = a) := fun e he z => noab _ (gc_otlt he) ⟨z.2, by rw [gv_ot2]; exact z.1⟩
  refine ⟨h1, h2, by omega, fun j => ?_, fun e he => ?_, fun e he => ?_, fun e e' he he' p q => ?_, fun e he => ?_, ?_, ?_, fun j hj => ?_⟩
  · by_cases q : j = L
    · subst q; rw [pk_us]; exact Or.inr rfl
    · rw [pk_un q]; exact h4 j
  · rcases cs e he with q | q | q
    · rw [kn e q, pk_un (by omega), pk_un (by omega)]; exact h5 e q
    · subst q; rw [k0, pk_un (by omega), pk_us]; exact ⟨ha, rfl⟩
    · subst q; rw [k1, pk_us]; exact ⟨hb, rfl⟩
  · rcases cs e he with q | q | q
    · rw [kn e q, kn _ (gc_otlt q)]; exact h6 e q
    · subst q; rw [gc_ot0, k0, k1]; exact hab
    · subst q; rw [gc_ot1, k0, k1]; exact fun z => hab z.symm
  · rcases cs e he with y | y | y
    · rw [kn e y] at p
      rw [kn _ (gc_otlt y)] at q
      rcases cs e' he' with y' | y' | y'
      · rw [kn e' y'] at p
        rw [kn _ (gc_otlt y')] at q
        exact h7 e e' y y' p q
      · subst y'; rw [k0] at p; rw [gc_ot0, k1] at q; exact absurd ⟨p, q⟩ (noab e y)
      · subst y'; rw [k1] at p; rw [gc_ot1, k0] at q; exact absurd ⟨p, q⟩ (noba e y)
    · subst y
      rw [k0] at p
      rw [gc_ot0, k1] at q
      rcases cs e' he' with y' | y' | y'
      · rw [kn e' y'] at p
        rw [kn _ (gc_otlt y')] at q
        exact absurd ⟨p.symm, q.symm⟩ (noab e' y')
      · exact y'.symm
      · subst y'; rw [k1] at p; exact absurd p hab
    · subst y
      rw [k1] at p
      rw [gc_ot1, k0] at q
      rcases cs e' he' with y' | y' | y'
      · rw [kn e' y'] at p
        rw [kn _ (gc_otlt y')] at q
        exact absurd ⟨p.symm, q.symm⟩ (noba e' y')
      · subst y'; rw [k0] at p; exact absurd p.symm hab
      · exact y'.symm
  · rcases cs e he with q | q | q
    · rw [kn e q, kn _ (gc_otlt q), pk_un (by omega), pk_un (by omega)]; exact h8 e q
    · subst q; rw [gc_ot0, k0, k1, pk_un (by omega), pk_us]
    · subst q; rw [gc_ot1, k0, k1, pk_us]
  · have hv : a + 16 * b < 256 := by omega
    by_cases q : L < 8
    · rw [if_pos q, if_pos q, show L % 8 = L by omega]
      have hE := b2 (by omega)
      have e1z := b3 (by omega)
      have hlt := pb_lt hE hv
      refine ⟨Nat.lt_of_lt_of_le hlt (Nat.pow_le_pow_right (by decide) (by omega)), b1, fun z => ?_, fun _ => e1z, fun y1 y2 => ?_, fun l hl => ?_⟩
      · rw [show 8 * (L + 1) = 8 * L + 8 by omega]; exact hlt
      · rw [e1z]; exact Nat.two_pow_pos _
      · by_cases z : l = L
        · subst z
          rw [if_pos q, k0, k1]
          exact pb_at hE hv
        · rw [if_pos (by omega), pb_lo (by omega), kn _ (by omega), kn _ (by omega)]
          have := b5 l (by omega)
          rw [if_pos (by omega)] at this
          exact this
    · rw [if_neg q, if_neg q, show L % 8 = L - 8 by omega]
      have hE : E1 < 2 ^ (8 * (L - 8)) := b4 (by omega) (by omega)
      have hlt := pb_lt hE hv
      refine ⟨b0, Nat.lt_of_lt_of_le hlt (Nat.pow_le_pow_right (by decide) (by omega)), fun z => absurd z (by omega), fun z => absurd z (by omega), fun y1 y2 => ?_, fun l hl => ?_⟩
      · rw [show 8 * (L + 1 - 8) = 8 * (L - 8) + 8 by omega]; exact hlt
      · by_cases z : l = L
        · subst z
          rw [if_neg q, k0, k1]
          exact pb_at hE hv
        · rw [kn _ (by omega), kn _ (by omega)]
          have := b5 l (by omega)
          by_cases y : l < 8
          · rw [if_pos y] at this ⊢
            exact this
          · rw [if_neg y] at this ⊢
            rw [pb_lo (by omega)]
            exact this
  · exact Nat.or_lt_two_pow hU (Nat.pow_lt_pow_right (by decide) (by omega))
  · rw [bm_set_tb, hu j hj]
    by_cases q : j = L
    · subst q; rw [pk_us]
      exact ⟨fun _ => ⟨by omega, by decide⟩, fun _ => Or.inr rfl⟩
    · rw [pk_un q]
      exact ⟨fun z => z.elim (fun y => ⟨by omega, y.2⟩) (fun y => absurd y q), fun z => Or.inl ⟨by omega, z.2⟩⟩
/-- the rows where two stores are cleared -/
theorem gl_clr {l : Nat} (hN : N ≤ 8) (HI : gv_I N L T ec RW) : gv_I N L T ec (gc_cp (gc_cp RW gc_z 0 ((16 + 2 * l) * 10) 10) gc_z 0 ((16 + (2 * l + 1)) * 10) 10) := by
  have lo : ∀ j, j < 160 → gc_cp (gc_cp RW gc_z 0 ((16 + 2 * l) * 10) 10) gc_z 0 ((16 + (2 * l + 1)) * 10) 10 j = RW j := fun j hj => (gc_cp_out (by omega)).trans (gc_cp_out (by omega))
  refine ⟨fun c hc => ?_, fun c hc => ?_, fun e he => ?_⟩
  · rw [lo _ (by omega), lo _ (by omega), lo _ (by omega), lo _ (by omega), lo _ (by omega)]; exact HI.1 c hc
  · rw [lo _ (by omega), lo _ (by omega), lo _ (by omega), lo _ (by omega), lo _ (by omega)]; exact HI.2.1 c hc
  · by_cases q1 : e = 2 * l + 1
    · subst q1; exact Or.inl (gc_cp_in (by omega))
    · by_cases q0 : e = 2 * l
      · subst q0; exact Or.inl ((gc_cp_out (by omega)).trans (gc_cp_in (by omega)))
      · have st : ∀ f, f < 10 → gc_cp (gc_cp RW gc_z 0 ((16 + 2 * l) * 10) 10) gc_z 0 ((16 + (2 * l + 1)) * 10) 10 ((16 + e) * 10 + f) = RW ((16 + e) * 10 + f) := fun f hf => (gc_cp_out (by omega)).trans (gc_cp_out (by omega))
        rw [st 8 (by omega), st 6 (by omega), st 5 (by omega), st 7 (by omega), st 9 (by omega)]
        exact HI.2.2 e he
theorem gl_addI {a b : Int32} (hN : N ≤ 8) (HI : gv_I N L T ec RW) : gv_I N (L + 1) T (upd (upd ec (2 * L) a) (2 * L + 1) b) (gc_cp (gc_cp RW gc_z 0 ((16 + 2 * L) * 10) 10) gc_z 0 ((16 + (2 * L + 1)) * 10) 10) := by
  obtain ⟨c1, c2, c3⟩ := gl_clr (l := L) hN HI
  refine ⟨c1, c2, fun e he => ?_⟩
  by_cases q1 : e = 2 * L + 1
  · subst q1; exact Or.inl (gc_cp_in (by omega))
  · by_cases q0 : e = 2 * L
    · subst q0; exact Or.inl ((gc_cp_out (by omega)).trans (gc_cp_in (by omega)))
    · have ho : gc_ot e < 2 * L := gc_otlt (by omega)
      rw [pk_un (k := 2 * L + 1) (j := e) (by omega), pk_un (k := 2 * L) (j := e) (by omega), pk_un (k := 2 * L + 1) (j := gc_ot e) (by omega), pk_un (k := 2 * L) (j := gc_ot e) (by omega)]
      exact c3 e (by omega)
theorem gl_dsI {c f : Nat} {x : Int32} (hN : N ≤ 8) (hc : c < N) (hf : f < 5) (HI : gv_I N L T ec RW) : gv_I N L T ec (upd RW (c * 10 + f) x) := by
  refine ⟨fun d hd => ?_, fun d hd => ?_, fun e he => ?_⟩
  · rw [pk_un (by omega), pk_un (by omega), pk_un (by omega), pk_un (by omega), pk_un (by omega)]; exact HI.1 d hd
  · rw [pk_un (by omega), pk_un (by omega), pk_un (by omega), pk_un (by omega), pk_un (by omega)]; exact HI.2.1 d hd
  · rw [pk_un (by omega), pk_un (by omega), pk_un (by omega), pk_un (by omega), pk_un (by omega)]; exact HI.2.2 e he
end
