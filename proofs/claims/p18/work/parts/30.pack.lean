/-! the law's packed links, its mask of links that are up, its delays -/
theorem bm_and (a b : Nat) : nI a &&& nI b = nI (a &&& b) := by
  apply Int32.toBitVec_inj.1
  show BitVec.ofNat 32 a &&& BitVec.ofNat 32 b = BitVec.ofNat 32 (a &&& b)
  apply BitVec.eq_of_getLsbD_eq
  intro i hi
  simp [hi]
theorem bm_set {U l : Nat} (hl : l < 31) : nI U ||| ((1 : Int32) <<< (nI l &&& 31)) = nI (U ||| 2 ^ l) := by
  rw [bm_1l hl, bm_or]
theorem bm_clr {U l : Nat} (hl : l < 31) : nI U &&& (((1 : Int32) <<< (nI l &&& 31)) ^^^ (-1)) = nI (U &&& (2 ^ l ^^^ (2 ^ 32 - 1))) := by
  rw [bm_1l hl, show (-1 : Int32) = nI (2 ^ 32 - 1) by decide, nx_xor, bm_and]
theorem bm_set_tb (U l j : Nat) : (U ||| 2 ^ l).testBit j = true ↔ U.testBit j = true ∨ j = l := by
  rw [Nat.testBit_or, Nat.testBit_two_pow, Bool.or_eq_true, decide_eq_true_eq]
  constructor
  · rintro (h | h)
    · exact Or.inl h
    · exact Or.inr h.symm
  · rintro (h | h)
    · exact Or.inl h
    · exact Or.inr h.symm
theorem bm_clr_tb {U l j : Nat} (hj : j < 32) : (U &&& (2 ^ l ^^^ (2 ^ 32 - 1))).testBit j = true ↔ U.testBit j = true ∧ j ≠ l := by
  rw [Nat.testBit_and, Nat.testBit_xor, Nat.testBit_two_pow, Nat.testBit_two_pow_sub_one, Bool.and_eq_true]
  by_cases q : l = j
  · rw [decide_eq_true q, decide_eq_true hj]
    constructor
    · rintro ⟨_, h⟩; exact absurd h (by decide)
    · rintro ⟨_, h⟩; exact absurd q.symm h
  · rw [decide_eq_false q, decide_eq_true hj]
    constructor
    · rintro ⟨h, _⟩; exact ⟨h, fun z => q z.symm⟩
    · rintro ⟨h, _⟩; exact ⟨h, by decide⟩
theorem bm_mask {E s : Nat} (hE : E < 2 ^ s) (hs : s ≤ 56) : lN E &&& (lN (255 * 2 ^ s) ^^^ (-1)) = lN E := by
  apply wb_inj
  rw [Int64.toBitVec_and, Int64.toBitVec_xor, wb_tb, wb_tb, show (-1 : Int64).toBitVec = BitVec.allOnes 64 from rfl]
  apply BitVec.eq_of_getLsbD_eq
  intro i hi
  rw [BitVec.getLsbD_and, BitVec.getLsbD_xor, BitVec.getLsbD_ofNat, BitVec.getLsbD_ofNat, BitVec.getLsbD_allOnes, Nat.testBit_mul_two_pow]
  by_cases q : i < s
  · have : ¬ s ≤ i := by omega
    simp [hi, this]
  · have : E.testBit i = false := Nat.testBit_lt_two_pow (Nat.lt_of_lt_of_le hE (Nat.pow_le_pow_right (by decide) (by omega)))
    simp [this]
theorem bm_put {E v s : Nat} (hE : E < 2 ^ s) (hs : s ≤ 56) (hv : v < 256) : (lN E &&& (lN (255 * 2 ^ s) ^^^ (-1))) ||| lN (v * 2 ^ s) = lN (E + v * 2 ^ s) := by
  have p56 : 2 ^ s ≤ 2 ^ 56 := Nat.pow_le_pow_right (by decide) hs
  have hv2 : v * 2 ^ s < 2 ^ 64 := by
    have : v * 2 ^ s ≤ 255 * 2 ^ 56 := Nat.mul_le_mul (by omega) p56
    omega
  rw [bm_mask hE hs, wb_or (by omega) hv2, Nat.or_comm, Nat.mul_comm v, ← Nat.two_pow_add_eq_or_of_lt hE, Nat.add_comm]
theorem l_put {post : Int64 → Prop} {E l a b : Nat} (hE : E < 2 ^ (8 * (l % 8))) (ha : a < 8) (hb : b < 8) (h : post (lN (E + (a + 16 * b) * 2 ^ (8 * (l % 8))))) (hl : l < 2 ^ 31) : wpL_put post () (lN E) (nI l) (nI a) (nI b) := by
  have e1 : 8 * (nI l &&& 7) = nI (8 * (l % 8)) := by
    rw [pk_andN (by omega) 3 (by decide)]; exact pk_mul 8 _
  have e2 : nI a ||| (nI b <<< ((4 : Int32) &&& 31)) = nI (a + 16 * b) := by
    rw [pk_shlN _ 4 (by decide) (by omega), bm_or, Nat.or_comm, Nat.mul_comm b, ← Nat.two_pow_add_eq_or_of_lt (show a < 2 ^ 4 by omega)]
    congr 1; omega
  refine nm_r e1 ?_
  have e3 : (255 : Int64) <<< ((nI (8 * (l % 8))).toInt64 &&& 63) = lN (255 * 2 ^ (8 * (l % 8))) := wb_shl 255 (by omega)
  rw [e3, e2, nI_l (by omega), wb_shl _ (by omega), bm_put hE (by omega) (by omega)]
  exact h
theorem l_byte {E m : Nat} (hE : E < 2 ^ 64) (hm : m < 8) {l : Nat} (hl : l % 8 = m) (hl2 : l < 2 ^ 31) : ((((lN E).toUInt64 >>> ((8 * (nI l &&& 7)).toInt64.toUInt64 &&& Int64.toUInt64 63)).toInt64) &&& 255).toInt32 = nI (E / 2 ^ (8 * m) % 256) := by
  rw [pk_andN (by omega) 3 (by decide), show l % 2 ^ 3 = m from hl]
  exact bm_nb hE hm
theorem l_endOf {post : Int32 → Prop} {E0 E1 l w v : Nat} (h0 : E0 < 2 ^ 64) (h1 : E1 < 2 ^ 64) (hl : l < 16) (hv : (if l < 8 then E0 / 2 ^ (8 * l) % 256 else E1 / 2 ^ (8 * (l - 8)) % 256) = v) (hw : w < 2) (h : post (if w = 0 then nI (v % 16) else nI (v / 16))) : wpL_endOf post () (lN E0) (lN E1) (nI l) (nI w) := by
  have hv8 : v < 256 := by
    rw [← hv]; split <;> exact Nat.mod_lt _ (by decide)
  have fin : ∀ E m, E < 2 ^ 64 → m < 8 → l % 8 = m → E / 2 ^ (8 * m) % 256 = v → wL_endOf_12 post (nI l) (nI w) (lN E) := by
    intro E m hE hm hlm hvm
    refine nm_r ((l_byte hE hm hlm (by omega)).trans (by rw [hvm])) ?_
    rcases (by omega : w = 0 ∨ w = 1) with q | q
    · subst q
      refine br_t rfl ?_
      rw [pk_andN (by omega) 4 (by decide)]
      exact h
    · subst q
      refine br_f (by decide) ?_
      rw [pk_shrN (by omega) _ 4 (by decide)]
      exact h
  by_cases q : l < 8
  · rw [if_pos q] at hv
    exact br_f (nI_ge (b := 8) q (by omega)) (fin E0 l h0 q (by omega) hv)
  · rw [if_neg q] at hv
    exact br_t (nI_le (a := 8) (by omega) (by omega)) (fin E1 (l - 8) h1 (by omega) (by omega) hv)
def gw_base (x y s : Int32) : Int32 := ((((x * 37) + (y * 11)) + (s * 7)) &&& 65535) * 101
def gw_dl (a b s : Int32) : Int32 := if (((s.toUInt32 >>> (((((if b ≤ a then b else a) * 8) + (if b ≤ a then a else b)) &&& 31).toUInt32 &&& Int32.toUInt32 31)).toInt32) &&& 1) = 0 then gw_base (if b ≤ a then b else a) (if b ≤ a then a else b) s else gw_base a b s
theorem l_del {post : Int32 → Prop} {a b s : Int32} (h : post (gw_dl a b s)) : wpL_del post () a b s := by
  unfold gw_dl at h
  by_cases q : b ≤ a
  · rw [if_pos q, if_pos q] at h
    refine br_t q (br_t q ?_)
    split at h
    · exact br_t (by assumption) h
    · exact br_f (by assumption) h
  · rw [if_neg q, if_neg q] at h
    refine br_f q (br_f q ?_)
    split at h
    · exact br_t (by assumption) h
    · exact br_f (by assumption) h
theorem gw_base_r (x y s : Int32) : ∃ w, w < 10000000 ∧ gw_base x y s = nI w := by
  unfold gw_base
  rw [pk_and _ 16 (by decide)]
  exact ⟨_, by omega, pk_mul _ 101⟩
theorem gw_dl_r (a b s : Int32) : ∃ w, w < 10000000 ∧ gw_dl a b s = nI w := by
  unfold gw_dl
  split <;> split <;> exact gw_base_r _ _ _
theorem gw_dl_cl (a b s : Int32) : gc_cl (gw_dl a b s) 0 10000000 = gw_dl a b s := by
  obtain ⟨w, hw, e⟩ := gw_dl_r a b s
  rw [e]
  unfold gc_cl
  rw [if_neg (nI_pos (by omega))]
  exact if_neg (nI_nlt (b := w) (a := 10000000) (by omega) (by omega))
theorem l_cell {post : Int32 → Prop} {L j : Nat} {xs : Nat → Int32} (hL : L ≤ 260) (hj : j < 2 ^ 31) (h : ∀ r, post r) : wpL_cell post L xs () (nI j) := by
  by_cases q : L ≤ j
  · exact br_t (nI_le q hj) (h _)
  · exact br_f (nI_ge (by omega) (by omega)) ⟨vp_in_nI (by omega) (by omega), h _⟩
