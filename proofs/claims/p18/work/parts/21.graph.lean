/-! distances stay below n -/
theorem cv_ph : ∀ (n : Nat) (f : Nat → Nat), (∀ i, i ≤ n → f i < n) → ∃ i j, i < j ∧ j ≤ n ∧ f i = f j := by
  intro n
  induction n with
  | zero => intro f h; exact absurd (h 0 (Nat.le_refl 0)) (by omega)
  | succ n ih =>
    intro f h
    by_cases q : ∃ i, i ≤ n ∧ f i = f (n + 1)
    · obtain ⟨i, hi, e⟩ := q
      exact ⟨i, n + 1, by omega, Nat.le_refl _, e⟩
    · have hq : ∀ i, i ≤ n → f i ≠ f (n + 1) := fun i hi e => q ⟨i, hi, e⟩
      have hl := h (n + 1) (Nat.le_refl _)
      obtain ⟨i, j, hij, hj, e⟩ := ih (fun i => if f i = n then f (n + 1) else f i) (by
        intro i hi
        have h1 := h i (by omega)
        have h2 := hq i hi
        split <;> omega)
      have hi2 := hq i (by omega)
      have hj2 := hq j hj
      refine ⟨i, j, hij, by omega, ?_⟩
      by_cases a : f i = n
      · rw [if_pos a] at e
        by_cases b : f j = n
        · rw [a, b]
        · rw [if_neg b] at e
          exact absurd e.symm hj2
      · rw [if_neg a] at e
        by_cases b : f j = n
        · rw [if_pos b] at e
          exact absurd e hi2
        · rw [if_neg b] at e
          exact e
section
variable {n E : Nat} {ck ot : Nat → Nat} {up : Nat → Prop}
theorem cv_Wlt (HN : cv_Net n E ck ot up) {B : Nat} (hB : B < n) : ∀ j c, cv_W E ck ot up B j c → c < n
  | 0, c, h => by
    have h' : c = B := h
    rw [h']; exact hB
  | j + 1, c, h => by
    obtain ⟨e, he, _, hc, _⟩ := h
    rw [← hc]; exact (HN e he).1
theorem cv_pred {B c d : Nat} (h : cv_d E ck ot up B c (d + 1)) : ∃ x, cv_d E ck ot up B x d := by
  obtain ⟨⟨e, he, hu, hc, hw⟩, h2⟩ := h
  exact ⟨ck (ot e), hw, fun i hi hwi => h2 (i + 1) (by omega) ⟨e, he, hu, hc, hwi⟩⟩
theorem cv_all {B : Nat} : ∀ d c, cv_d E ck ot up B c d → ∀ i, i ≤ d → ∃ x, cv_d E ck ot up B x i
  | 0, c, h, i, hi => by
    obtain rfl : i = 0 := by omega
    exact ⟨c, h⟩
  | d + 1, c, h, i, hi => by
    by_cases q : i = d + 1
    · subst q; exact ⟨c, h⟩
    · obtain ⟨x, hx⟩ := cv_pred h
      exact cv_all d x hx i (by omega)
theorem cv_dlt (HN : cv_Net n E ck ot up) {B c d : Nat} (hB : B < n) (h : cv_d E ck ot up B c d) : d < n := by
  apply Classical.byContradiction
  intro hd
  have H : ∀ i, ∃ x, i ≤ n → cv_d E ck ot up B x i := by
    intro i
    by_cases q : i ≤ n
    · obtain ⟨x, hx⟩ := cv_all d c h i (by omega)
      exact ⟨x, fun _ => hx⟩
    · exact ⟨0, fun z => absurd z q⟩
  obtain ⟨f, hf⟩ := Classical.axiomOfChoice H
  obtain ⟨i, j, hij, hj, e⟩ := cv_ph n f (fun i hi => cv_Wlt HN hB i _ (hf i hi).1)
  have h1 := hf i (by omega)
  have h2 := hf j hj
  rw [e] at h1
  exact h2.2 i hij h1.1
theorem cv_hasd {B c j : Nat} (h : cv_W E ck ot up B j c) : ∃ d, d ≤ j ∧ cv_d E ck ot up B c d := by
  induction j using Nat.strongRecOn with
  | _ j ih =>
    by_cases q : ∃ i, i < j ∧ cv_W E ck ot up B i c
    · obtain ⟨i, hi, hw⟩ := q
      obtain ⟨d, hd, hh⟩ := ih i hi hw
      exact ⟨d, by omega, hh⟩
    · exact ⟨j, Nat.le_refl j, h, fun i hi hw => q ⟨i, hi, hw⟩⟩
end
