/-! masks: the law's graph -/
theorem bm_or (a b : Nat) : nI a ||| nI b = nI (a ||| b) := by
  apply Int32.toBitVec_inj.1
  show BitVec.ofNat 32 a ||| BitVec.ofNat 32 b = BitVec.ofNat 32 (a ||| b)
  apply BitVec.eq_of_getLsbD_eq
  intro i hi
  simp [hi]
theorem bm_sh {U l : Nat} (hU : U < 2 ^ 31) (hl : l < 32) : (nI U >>> (nI l &&& 31)) &&& 1 = nI (U / 2 ^ l % 2) := by
  rw [pk_shrN hU _ l (s_l l hl), ix_n1 (Nat.lt_of_le_of_lt (Nat.div_le_self _ _) (by omega))]
theorem bm_0 {U l : Nat} (hU : U < 2 ^ 31) (hl : l < 32) : (nI U >>> (nI l &&& 31)) &&& 1 = 0 ↔ U.testBit l = false := by
  rw [bm_sh hU hl, Nat.testBit_eq_decide_div_mod_eq, ← nI_0, nI_eq (by omega) (by omega), decide_eq_false_iff_not]
  omega
theorem bm_1l {l : Nat} (hl : l < 31) : (1 : Int32) <<< (nI l &&& 31) = nI (2 ^ l) := by
  have h : 2 ^ l < 2 ^ 32 := Nat.pow_lt_pow_right (by decide) (by omega)
  have := pk_shlN (n := 1) (nI l &&& 31) l (s_l l (by omega)) (by rw [Nat.one_mul]; exact h)
  rw [Nat.one_mul] at this
  exact this
theorem bm_nb {A c : Nat} (hA : A < 2 ^ 64) (hc : c < 8) : ((((lN A).toUInt64 >>> ((8 * nI c).toInt64.toUInt64 &&& Int64.toUInt64 63)).toInt64) &&& 255).toInt32 = nI (A / 2 ^ (8 * c) % 256) := by
  rw [show 8 * nI c = nI (8 * c) from pk_mul 8 c, wb_shr hA (by omega), show (255 : Int64) = lN (2 ^ 8 - 1) from rfl, wb_mask (Nat.lt_of_le_of_lt (Nat.div_le_self _ _) hA) (by decide), lN_i]
theorem l_nb {post : Int32 → Prop} {A c : Nat} (hA : A < 2 ^ 64) (hc : c < 8) (h : post (nI (A / 2 ^ (8 * c) % 256))) : wpL_nb post () (lN A) (nI c) := by
  unfold wpL_nb
  rw [bm_nb hA hc]
  exact h
def gw_gr (A M : Nat) : Nat → Nat → Nat → Nat
  | 0, _, r => r
  | k + 1, x, r => gw_gr A M k (x + 1) (if M.testBit x then r ||| (A / 2 ^ (8 * x) % 256) else r)
theorem gw_gr_lt (A M : Nat) : ∀ k x r, r < 2 ^ 8 → gw_gr A M k x r < 2 ^ 8
  | 0, _, r, h => h
  | k + 1, x, r, h => by
    rw [gw_gr]
    apply gw_gr_lt A M k (x + 1)
    split
    · exact Nat.or_lt_two_pow h (Nat.mod_lt _ (by decide))
    · exact h
theorem gw_gr_tb (A M y : Nat) : ∀ k x r, (gw_gr A M k x r).testBit y = true ↔ r.testBit y = true ∨ ∃ w, x ≤ w ∧ w < x + k ∧ M.testBit w = true ∧ y < 8 ∧ A.testBit (8 * w + y) = true
  | 0, x, r => ⟨fun h => Or.inl h, fun h => h.elim id (fun ⟨w, a, b, _⟩ => absurd b (by omega))⟩
  | k + 1, x, r => by
    rw [gw_gr, gw_gr_tb A M y k (x + 1)]
    have hb : ∀ w, (A / 2 ^ (8 * w) % 256).testBit y = true ↔ y < 8 ∧ A.testBit (8 * w + y) = true := by
      intro w
      rw [show (256 : Nat) = 2 ^ 8 from rfl, Nat.testBit_mod_two_pow, Nat.testBit_div_two_pow, Nat.add_comm y, Bool.and_eq_true, decide_eq_true_eq]
    by_cases m : M.testBit x = true
    · rw [if_pos m, Nat.testBit_or, Bool.or_eq_true, hb]
      constructor
      · rintro ((h | h) | ⟨w, a, b, d⟩)
        · exact Or.inl h
        · exact Or.inr ⟨x, Nat.le_refl x, by omega, m, h⟩
        · exact Or.inr ⟨w, by omega, by omega, d⟩
      · rintro (h | ⟨w, a, b, d⟩)
        · exact Or.inl (Or.inl h)
        · by_cases q : w = x
          · subst q; exact Or.inl (Or.inr d.2)
          · exact Or.inr ⟨w, by omega, by omega, d⟩
    · rw [if_neg m]
      constructor
      · rintro (h | ⟨w, a, b, d⟩)
        · exact Or.inl h
        · exact Or.inr ⟨w, by omega, by omega, d⟩
      · rintro (h | ⟨w, a, b, d⟩)
        · exact Or.inl h
        · by_cases q : w = x
          · subst q; exact absurd d.1 m
          · exact Or.inr ⟨w, by omega, by omega, d⟩
theorem l_growl {post : Int32 → Prop} {A M n : Nat} (hA : A < 2 ^ 64) (hM : M < 2 ^ 8) (hn : n ≤ 8) : ∀ k i r, i + k = n → post (nI (gw_gr A M k i r)) → wL_grow_6 post (lN A) (nI M) (nI n) (k + 1) (nI r) (nI i)
  | 0, i, r, hi, h => br_t (nI_le (by omega) (by omega)) h
  | k + 1, i, r, hi, h => by
    rw [gw_gr] at h
    refine br_f (nI_ge (by omega) (by omega)) ?_
    by_cases m : M.testBit i = true
    · rw [if_pos m] at h
      refine br_f (fun z => by rw [(bm_0 (by omega) (by omega)).mp z] at m; exact absurd m (by decide)) (l_nb hA (by omega) (nm_r (bm_or _ _) (nm_r (nI_1 i) (l_growl hA hM hn k (i + 1) _ (by omega) h))))
    · rw [if_neg m] at h
      exact br_t ((bm_0 (by omega) (by omega)).mpr (by simpa using m)) (nm_r (nI_1 i) (l_growl hA hM hn k (i + 1) _ (by omega) h))
theorem l_grow {post : Int32 → Prop} {A M n : Nat} (hA : A < 2 ^ 64) (hM : M < 2 ^ 8) (hn : n ≤ 8) (h : post (nI (gw_gr A M n 0 M))) : wpL_grow post () (lN A) (nI M) (nI n) :=
  ⟨_, l_growl hA hM hn n 0 M (by omega) h⟩
/-- the clocks within i hops of c -/
def gw_rc (A n c : Nat) : Nat → Nat
  | 0 => 2 ^ c
  | i + 1 => gw_gr A (gw_rc A n c i) n 0 (gw_rc A n c i)
theorem gw_rc_lt {A n c : Nat} (hc : c < 8) : ∀ i, gw_rc A n c i < 2 ^ 8
  | 0 => Nat.pow_lt_pow_right (by decide) hc
  | i + 1 => gw_gr_lt _ _ _ _ _ (gw_rc_lt hc i)
theorem l_reachl {post : Int32 → Prop} {A n c : Nat} (hA : A < 2 ^ 64) (hc : c < 8) (hn : n ≤ 8) (h : post (nI (gw_rc A n c n))) : ∀ k i, i + k = n → wL_reach_8 post (lN A) (nI n) (k + 1) (nI (gw_rc A n c i)) (nI i)
  | 0, i, hi => by
    obtain rfl : i = n := by omega
    exact br_t (nI_le (by omega) (by omega)) h
  | k + 1, i, hi => br_f (nI_ge (by omega) (by omega)) (l_grow hA (gw_rc_lt hc i) hn (nm_r (nI_1 i) (l_reachl hA hc hn h k (i + 1) (by omega))))
theorem l_reach {post : Int32 → Prop} {A n c : Nat} (hA : A < 2 ^ 64) (hc : c < 8) (hn : n ≤ 8) (h : post (nI (gw_rc A n c n))) : wpL_reach post () (lN A) (nI c) (nI n) :=
  nm_r (bm_1l (by omega)) ⟨_, l_reachl hA hc hn h n 0 (by omega)⟩
theorem l_distl {post : Int32 → Prop} {A n c to d : Nat} (hA : A < 2 ^ 64) (hc : c < 8) (hn : n ≤ 8) (hto : to < 8) (hd : d ≤ n) (h1 : (gw_rc A n c d).testBit to = true) (h0 : ∀ i, i < d → (gw_rc A n c i).testBit to = false) (h : post (nI d)) : ∀ k i, i + k = d → wL_dist_8 post (lN A) (nI to) (nI n) (k + 1) (nI (gw_rc A n c i)) (nI i)
  | 0, i, hi => by
    obtain rfl : i = d := by omega
    have hb := gw_rc_lt (A := A) (n := n) hc i
    exact br_f (nI_nlt (by omega) (by omega)) (br_f (fun z => by rw [(bm_0 (by omega) (by omega)).mp z] at h1; exact absurd h1 (by decide)) h)
  | k + 1, i, hi => by
    have hb := gw_rc_lt (A := A) (n := n) hc i
    exact br_f (nI_nlt (by omega) (by omega)) (br_t ((bm_0 (by omega) (by omega)).mpr (h0 i (by omega))) (l_grow hA hb hn (nm_r (nI_1 i) (l_distl hA hc hn hto hd h1 h0 h k (i + 1) (by omega)))))
theorem l_dist {post : Int32 → Prop} {A n c to d : Nat} (hA : A < 2 ^ 64) (hc : c < 8) (hn : n ≤ 8) (hto : to < 8) (hd : d ≤ n) (h1 : (gw_rc A n c d).testBit to = true) (h0 : ∀ i, i < d → (gw_rc A n c i).testBit to = false) (h : post (nI d)) : wpL_dist post () (lN A) (nI c) (nI to) (nI n) :=
  nm_r (bm_1l (by omega)) ⟨_, l_distl hA hc hn hto hd h1 h0 h d 0 (by omega)⟩
/-- the mask adj is the network's graph -/
def gw_G (A L : Nat) (ck : Nat → Nat) (up : Nat → Prop) : Prop := ∀ x y, x < 8 → y < 8 → (A.testBit (8 * x + y) = true ↔ ∃ e, e < 2 * L ∧ up e ∧ ck e = x ∧ ck (gc_ot e) = y)
theorem gw_rc_W {A N L c : Nat} {ck : Nat → Nat} {up : Nat → Prop} (hN : N ≤ 8) (hc : c < N) (HN : cv_Net N (2 * L) ck gc_ot up) (G : gw_G A L ck up) : ∀ i y, (gw_rc A N c i).testBit y = true ↔ ∃ j, j ≤ i ∧ cv_W (2 * L) ck gc_ot up c j y
  | 0, y => by
    show (2 ^ c).testBit y = true ↔ _
    rw [Nat.testBit_two_pow, decide_eq_true_eq]
    constructor
    · intro h; exact ⟨0, Nat.le_refl 0, h.symm⟩
    · rintro ⟨j, hj, hw⟩
      obtain rfl : j = 0 := by omega
      have : y = c := hw
      exact this.symm
  | i + 1, y => by
    show (gw_gr A (gw_rc A N c i) N 0 (gw_rc A N c i)).testBit y = true ↔ _
    rw [gw_gr_tb, gw_rc_W hN hc HN G i y]
    constructor
    · rintro (⟨j, hj, hw⟩ | ⟨w, _, hw, hm, hy, ha⟩)
      · exact ⟨j, by omega, hw⟩
      · obtain ⟨j, hj, hW⟩ := (gw_rc_W hN hc HN G i w).mp hm
        obtain ⟨e, he, hu, e1, e2⟩ := (G w y (by omega) hy).mp ha
        obtain ⟨_, h2, h3, h4⟩ := HN e he
        exact ⟨j + 1, by omega, gc_ot e, h2, h4 hu, e2, by rw [h3, e1]; exact hW⟩
    · rintro ⟨j, hj, hW⟩
      by_cases q : j ≤ i
      · exact Or.inl ⟨j, q, hW⟩
      · obtain rfl : j = i + 1 := by omega
        obtain ⟨e, he, hu, e1, hw⟩ := hW
        obtain ⟨h1, h2, h3, h4⟩ := HN e he
        have h5 := (HN _ h2).1
        refine Or.inr ⟨ck (gc_ot e), by omega, by omega, (gw_rc_W hN hc HN G i _).mpr ⟨i, Nat.le_refl i, hw⟩, by omega, (G _ _ (by omega) (by omega)).mpr ⟨gc_ot e, h2, h4 hu, rfl, by rw [h3, e1]⟩⟩
