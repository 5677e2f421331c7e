/-! the law's graph, and the order of datasets -/
section
variable {N L T : Nat} {seed : Int32} {lu ec ed RW dr pa pl md es : Nat → Int32} {ti ms : Nat → Int64} {ck : Nat → Nat} {E0 E1 U : Nat}
theorem gl_end0 {post : Int32 → Prop} (H : gl_K N L seed lu ec ed ck E0 E1 U) {l : Nat} (hl : l < L) (h : post (nI (ck (2 * l)))) : wpL_endOf post () (lN E0) (lN E1) (nI l) 0 := gl_end H (w := 0) hl (by omega) h
theorem gl_end1 {post : Int32 → Prop} (H : gl_K N L seed lu ec ed ck E0 E1 U) {l : Nat} (hl : l < L) (h : post (nI (ck (2 * l + 1)))) : wpL_endOf post () (lN E0) (lN E1) (nI l) 1 := gl_end H (w := 1) hl (by omega) h
theorem l_adj {post : Int32 → Prop} {LS : Nat} {xs : Nat → Int32} {x3 x11 : Int32} {kc ks : Nat} (HK : gl_K N L seed lu ec ed ck E0 E1 U)
    (h : ∀ A, A < 2 ^ 64 → gw_G A L ck (fun e => ¬ lu (e / 2) = 0) → ∃ n, wL_law_596 post LS xs (nI N) x3 (lN E0) (lN E1) (nI L) (nI U) x11 (lN A) kc ks (nI N) (nI 16) (nI T) (nI L) RW dr ti pa pl ms md lu ec es ed n 0) :
    ∀ k l A, l + k = L → A < 2 ^ 64 → (∀ x y, x < 8 → y < 8 → (A.testBit (8 * x + y) = true ↔ ∃ e, e < 2 * l ∧ ¬ lu (e / 2) = 0 ∧ ck e = x ∧ ck (gc_ot e) = y)) → wL_law_520 post LS xs (nI N) x3 (lN E0) (lN E1) (nI L) (nI U) x11 kc ks (nI N) (nI 16) (nI T) (nI L) RW dr ti pa pl ms md lu ec es ed (k + 1) (lN A) (nI l)
  | 0, l, A, hl, hA, G => by
    obtain rfl : l = L := by omega
    exact br_t (nI_le (by omega) (by have := HK.2.2.1; omega)) (h A hA G)
  | k + 1, l, A, hl, hA, G => by
    have hN := HK.2.1
    have hL := HK.2.2.1
    refine br_f (nI_ge (by omega) (by omega)) ?_
    by_cases q : lu l = 0
    · refine br_t ((gl_up HK (by omega)).mpr q) (nm_r (nI_1 l) (l_adj HK h k (l + 1) A (by omega) hA (fun x y hx hy => ?_)))
      rw [G x y hx hy]
      constructor
      · rintro ⟨e, he, z⟩; exact ⟨e, by omega, z⟩
      · rintro ⟨e, he, z1, z2⟩
        by_cases w : e < 2 * l
        · exact ⟨e, w, z1, z2⟩
        · exact absurd q (by rw [show e / 2 = l by omega] at z1; exact z1)
    · have c0 := (HK.2.2.2.2.1 (2 * l) (by omega)).1
      have c1 := (HK.2.2.2.2.1 (2 * l + 1) (by omega)).1
      have p64 : ∀ s, s < 64 → 2 ^ s < 2 ^ 64 := fun s hs => Nat.pow_lt_pow_right (by decide) hs
      have sh : ∀ a b, a < 8 → b < 8 → (1 : Int64) <<< ((8 * nI a + nI b).toInt64 &&& 63) = lN (2 ^ (8 * a + b)) := by
        intro a b ha hb
        rw [show 8 * nI a = nI (8 * a) from pk_mul 8 a, nI_add]
        have := wb_shl 1 (k := 8 * a + b) (by omega)
        rw [Nat.one_mul] at this
        exact this
      refine br_f (fun z => q ((gl_up HK (by omega)).mp z)) (gl_end0 HK (by omega) (gl_end1 HK (by omega) ?_))
      refine nm_r (e' := lN (A ||| (2 ^ (8 * ck (2 * l) + ck (2 * l + 1)) ||| 2 ^ (8 * ck (2 * l + 1) + ck (2 * l))))) ?_ (nm_r (nI_1 l) (l_adj HK h k (l + 1) _ (by omega) ?_ (fun x y hx hy => ?_)))
      · rw [sh _ _ (by omega) (by omega), sh _ _ (by omega) (by omega), wb_or (p64 _ (by omega)) (p64 _ (by omega)), wb_or hA (Nat.or_lt_two_pow (p64 _ (by omega)) (p64 _ (by omega)))]
      · exact Nat.or_lt_two_pow hA (Nat.or_lt_two_pow (p64 _ (by omega)) (p64 _ (by omega)))
      · rw [Nat.testBit_or, Nat.testBit_or, Bool.or_eq_true, Bool.or_eq_true, Nat.testBit_two_pow, Nat.testBit_two_pow, decide_eq_true_eq, decide_eq_true_eq, G x y hx hy]
        constructor
        · rintro (⟨e, he, z⟩ | z | z)
          · exact ⟨e, by omega, z⟩
          · exact ⟨2 * l, by omega, by rw [show 2 * l / 2 = l by omega]; exact q, by omega, by rw [gc_ot0]; omega⟩
          · exact ⟨2 * l + 1, by omega, by rw [show (2 * l + 1) / 2 = l by omega]; exact q, by omega, by rw [gc_ot1]; omega⟩
        · rintro ⟨e, he, z1, z2, z3⟩
          by_cases w : e < 2 * l
          · exact Or.inl ⟨e, w, z1, z2, z3⟩
          · rcases (by omega : e = 2 * l ∨ e = 2 * l + 1) with y' | y'
            · subst y'
              rw [gc_ot0] at z3
              exact Or.inr (Or.inl (by omega))
            · subst y'
              rw [gc_ot1] at z3
              exact Or.inr (Or.inr (by omega))
/-- comparing datasets -/
theorem gl_cne (HI : gv_I N L T ec RW) (hN : N ≤ 8) {a b : Nat} (ha : a < N) (hb : b < N) (hab : a ≠ b) : gs_cmp RW (a * 10) (b * 10) 6 = 1 ∨ gs_cmp RW (a * 10) (b * 10) 6 = -1 := by
  rcases cq_01 (fun f => RW (a * 10 + f)) (fun f => RW (b * 10 + f)) 6 0 with z | z | z
  · have this : RW (a * 10 + 5) = RW (b * 10 + 5) := (cq_eq0 _ _ 6 0).mp z 5 (by omega) (by omega)
    rw [(HI.1 a ha).1, (HI.1 b hb).1] at this
    exact absurd ((nI_eq (by omega) (by omega)).mp this) hab
  · exact Or.inr z
  · exact Or.inl z
theorem l_668 {post : Int32 → Prop} {LS : Nat} {xs : Nat → Int32} {J5 J6 : Int32 → Prop} {x3 x9 x10 x11 : Int32} {x5 x7 x14 : Int64} {kc ks a b : Nat} (hN : N ≤ 8) (ha : a < N) (hb : b < N) (hJ : J6 (nI (b + 1))) : ∀ k i, i + k = N → wL_law_668 post LS xs J5 J6 (nI N) x3 x5 x7 x9 x10 x11 x14 (nI a) (nI b) (gs_cmp RW (a * 10) (b * 10) 6) kc ks (nI N) (nI 16) (nI T) (nI L) RW dr ti pa pl ms md lu ec es ed (k + 1) (nI i)
  | 0, i, hi => br_t (nI_le (by omega) (by omega)) (nm_r (nI_1 b) hJ)
  | k + 1, i, hi => by
    have ih := l_668 (post := post) (J5 := J5) (x3 := x3) (x9 := x9) (x10 := x10) (x11 := x11) (x5 := x5) (x7 := x7) (x14 := x14) (LS := LS) (xs := xs) (kc := kc) (ks := ks) hN ha hb hJ k (i + 1) (by omega)
    refine br_f (nI_ge (by omega) (by omega)) (br_c (fun v => x_cmpD hN hb (by omega) (br_c (fun w => x_cmpD hN ha (by omega) (br_t ?_ (nm_r (nI_1 i) ih))) (fun _ => nm_r (nI_1 i) ih))) (fun _ => nm_r (nI_1 i) ih))
    exact (cq_lt _ _ 6 0).mp (cq_trans 6 0 ((cq_lt _ _ 6 0).mpr v) ((cq_lt _ _ 6 0).mpr w))
theorem l_605 {post : Int32 → Prop} {LS : Nat} {xs : Nat → Int32} {J5 : Int32 → Prop} {x3 x9 x10 x11 : Int32} {x5 x7 x14 : Int64} {kc ks a : Nat} (HI : gv_I N L T ec RW) (hN : N ≤ 8) (ha : a < N) (hJ : J5 (nI (a + 1))) : ∀ k i, i + k = N → wL_law_605 post LS xs J5 (nI N) x3 x5 x7 x9 x10 x11 x14 (nI a) kc ks (nI N) (nI 16) (nI T) (nI L) RW dr ti pa pl ms md lu ec es ed (k + 1) (nI i)
  | 0, i, hi => br_t (nI_le (by omega) (by omega)) (nm_r (nI_1 a) hJ)
  | k + 1, i, hi => by
    have ih := l_605 (post := post) (x3 := x3) (x9 := x9) (x10 := x10) (x11 := x11) (x5 := x5) (x7 := x7) (x14 := x14) (LS := LS) (xs := xs) (kc := kc) (ks := ks) HI hN ha hJ k (i + 1) (by omega)
    refine br_f (nI_ge (by omega) (by omega)) (x_cmpD hN ha (by omega) ?_)
    by_cases q : a = i
    · subst q
      exact br_t rfl (br_t (gc_cmp_self _ _ _) (nm_r (nI_1 a) ih))
    · refine br_f (fun z => q ((nI_eq (by omega) (by omega)).mp z)) ?_
      have f : wL_law_648 post LS xs J5 (wL_law_605 post LS xs J5 (nI N) x3 x5 x7 x9 x10 x11 x14 (nI a) kc ks (nI N) (nI 16) (nI T) (nI L) RW dr ti pa pl ms md lu ec es ed (k + 1)) (nI N) x3 x5 x7 x9 x10 x11 x14 (nI a) (nI i) (gs_cmp RW (a * 10) (i * 10) 6) kc ks (nI N) (nI 16) (nI T) (nI L) RW dr ti pa pl ms md lu ec es ed := by
        refine x_cmpD hN (by omega) ha (br_t ?_ ⟨_, l_668 hN ha (by omega) ih N 0 (by omega)⟩)
        show gs_cmp RW (a * 10) (i * 10) 6 = - gs_cmp RW (i * 10) (a * 10) 6
        exact cq_neg _ _ 6 0
      rcases gl_cne HI hN ha (b := i) (by omega) q with z | z
      · exact br_t z f
      · exact br_f (by rw [z]; decide) (br_t z f)
theorem l_596 {post : Int32 → Prop} {LS : Nat} {xs : Nat → Int32} {x3 x9 x10 x11 : Int32} {x5 x7 x14 : Int64} {kc ks : Nat} (HI : gv_I N L T ec RW) (hN : N ≤ 8) (h : ∃ n, wL_law_729 post LS xs (nI N) x3 x5 x7 x9 x10 x14 kc ks n x11 0 (nI N) (nI 16) (nI T) (nI L) RW dr ti pa pl ms md lu ec es ed) : ∀ k i, i + k = N → wL_law_596 post LS xs (nI N) x3 x5 x7 x9 x10 x11 x14 kc ks (nI N) (nI 16) (nI T) (nI L) RW dr ti pa pl ms md lu ec es ed (k + 1) (nI i)
  | 0, i, hi => br_t (nI_le (by omega) (by omega)) h
  | k + 1, i, hi => br_f (nI_ge (by omega) (by omega)) ⟨_, l_605 HI hN (by omega) (l_596 HI hN h k (i + 1) (by omega)) N 0 (by omega)⟩
end
