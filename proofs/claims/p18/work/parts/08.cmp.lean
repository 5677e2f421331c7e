/-! comparison of columns as an order -/
theorem cq_01 (f g : Nat → Int32) : ∀ k i, gc_cmp f g k i = 0 ∨ gc_cmp f g k i = -1 ∨ gc_cmp f g k i = 1
  | 0, _ => Or.inl rfl
  | k + 1, i => by
    rw [gc_cmp]
    split
    · exact cq_01 f g k (i + 1)
    · split
      · exact Or.inr (Or.inl rfl)
      · exact Or.inr (Or.inr rfl)
theorem cq_neg (f g : Nat → Int32) : ∀ k i, gc_cmp g f k i = - gc_cmp f g k i
  | 0, _ => show (0 : Int32) = -0 by decide
  | k + 1, i => by
    rw [gc_cmp, gc_cmp]
    by_cases e : f i = g i
    · rw [if_pos e, if_pos e.symm]
      exact cq_neg f g k (i + 1)
    · rw [if_neg e, if_neg (fun z => e z.symm)]
      by_cases l : f i < g i
      · rw [if_pos l, if_neg (Int32.not_lt.mpr (Int32.le_of_lt l))]
        rfl
      · have l2 : g i < f i := by
          rcases Int32.lt_or_eq_of_le (Int32.not_lt.mp l) with z | z
          · exact z
          · exact absurd z.symm e
        rw [if_neg l, if_pos l2]
theorem cq_eq0 (f g : Nat → Int32) : ∀ k i, gc_cmp f g k i = 0 ↔ ∀ j, i ≤ j → j < i + k → f j = g j
  | 0, i => ⟨fun _ j h1 h2 => absurd h2 (by omega), fun _ => rfl⟩
  | k + 1, i => by
    rw [gc_cmp]
    by_cases e : f i = g i
    · rw [if_pos e, cq_eq0 f g k (i + 1)]
      constructor
      · intro h j h1 h2
        by_cases q : j = i
        · rw [q]; exact e
        · exact h j (by omega) (by omega)
      · intro h j h1 h2
        exact h j (by omega) (by omega)
    · rw [if_neg e]
      constructor
      · intro h
        split at h
        · exact absurd h (by decide)
        · exact absurd h (by decide)
      · intro h
        exact absurd (h i (Nat.le_refl i) (by omega)) e
theorem cq_lt (f g : Nat → Int32) (k i : Nat) : gc_cmp f g k i < 0 ↔ gc_cmp f g k i = -1 := by
  rcases cq_01 f g k i with h | h | h <;> rw [h] <;> decide
theorem cq_congr {f g f' g' : Nat → Int32} : ∀ k i, (∀ j, i ≤ j → j < i + k → f j = f' j) → (∀ j, i ≤ j → j < i + k → g j = g' j) → gc_cmp f g k i = gc_cmp f' g' k i
  | 0, _, _, _ => rfl
  | k + 1, i, hf, hg => by
    rw [gc_cmp, gc_cmp, hf i (Nat.le_refl i) (by omega), hg i (Nat.le_refl i) (by omega), cq_congr k (i + 1) (fun j h1 h2 => hf j (by omega) (by omega)) (fun j h1 h2 => hg j (by omega) (by omega))]
theorem cq_trans {f g h : Nat → Int32} : ∀ k i, gc_cmp f g k i < 0 → gc_cmp g h k i < 0 → gc_cmp f h k i < 0
  | 0, _, a, _ => absurd (show (0 : Int32) < 0 from a) (by decide)
  | k + 1, i, a, b => by
    rw [gc_cmp] at a b ⊢
    by_cases e1 : f i = g i
    · rw [if_pos e1] at a
      by_cases e2 : g i = h i
      · rw [if_pos e2] at b
        rw [if_pos (e1.trans e2)]
        exact cq_trans k (i + 1) a b
      · rw [if_neg e2] at b
        rw [e1, if_neg e2]
        exact b
    · rw [if_neg e1] at a
      by_cases l1 : f i < g i
      · by_cases e2 : g i = h i
        · rw [← e2, if_neg e1, if_pos l1]; decide
        · rw [if_neg e2] at b
          by_cases l2 : g i < h i
          · have l3 := Int32.lt_trans l1 l2
            rw [if_neg (Int32.ne_of_lt l3), if_pos l3]; decide
          · rw [if_neg l2] at b
            exact absurd b (by decide)
      · rw [if_neg l1] at a
        exact absurd a (by decide)
theorem cq_split (f g : Nat → Int32) : ∀ k i m, gc_cmp f g (k + m) i < 0 ↔ gc_cmp f g k i < 0 ∨ (gc_cmp f g k i = 0 ∧ gc_cmp f g m (i + k) < 0)
  | 0, i, m => by
    rw [Nat.zero_add]
    exact ⟨fun h => Or.inr ⟨rfl, h⟩, fun h => h.elim (fun z => absurd z (by show ¬ (0 : Int32) < 0; decide)) (fun z => z.2)⟩
  | k + 1, i, m => by
    rw [show k + 1 + m = (k + m) + 1 by omega, gc_cmp, gc_cmp]
    by_cases e : f i = g i
    · rw [if_pos e, if_pos e, cq_split f g k (i + 1) m, show i + 1 + k = i + (k + 1) by omega]
    · rw [if_neg e, if_neg e]
      constructor
      · intro h; exact Or.inl h
      · intro h
        rcases h with h | ⟨h, _⟩
        · exact h
        · split at h
          · exact absurd h (by decide)
          · exact absurd h (by decide)
