/-! a run of steps as a run of the abstract network -/
theorem gv_ot2 (e : Nat) : gc_ot (gc_ot e) = e := by
  unfold gc_ot
  by_cases h : e % 2 = 0
  · rw [if_pos h, if_neg (by omega)]; omega
  · rw [if_neg h, if_pos (by omega)]; omega
theorem gv_oth (e : Nat) : gc_ot e / 2 = e / 2 := by
  unfold gc_ot
  by_cases h : e % 2 = 0
  · rw [if_pos h]; omega
  · rw [if_neg h]; omega
def sq_kv (S : Nat → (Nat → Int32) × (Nat → Int32) × (Nat → Int32) × (Nat → Int32)) (t c : Nat) : Nat → Int32 := ky_r (S t).1 ((8 + c) * 10)
def sq_sv (S : Nat → (Nat → Int32) × (Nat → Int32) × (Nat → Int32) × (Nat → Int32)) (t c : Nat) : Nat := ((S t).1 ((8 + c) * 10 + 6)).toNatClampNeg
def sq_ok (S : Nat → (Nat → Int32) × (Nat → Int32) × (Nat → Int32) × (Nat → Int32)) (t e : Nat) : Prop := (S t).1 ((16 + e) * 10 + 8) = 1
def sq_ks (S : Nat → (Nat → Int32) × (Nat → Int32) × (Nat → Int32) × (Nat → Int32)) (t e : Nat) : Nat → Int32 := ky_r (S t).1 ((16 + e) * 10)
def sq_ss (S : Nat → (Nat → Int32) × (Nat → Int32) × (Nat → Int32) × (Nat → Int32)) (t e : Nat) : Nat := ((S t).1 ((16 + e) * 10 + 6)).toNatClampNeg
def sq_sd (S : Nat → (Nat → Int32) × (Nat → Int32) × (Nat → Int32) × (Nat → Int32)) (t e : Nat) : Nat := ((S t).1 ((16 + e) * 10 + 7)).toNatClampNeg
def sq_ag (S : Nat → (Nat → Int32) × (Nat → Int32) × (Nat → Int32) × (Nat → Int32)) (t e : Nat) : Nat := ((S t).1 ((16 + e) * 10 + 9)).toNatClampNeg
def sq_pt (S : Nat → (Nat → Int32) × (Nat → Int32) × (Nat → Int32) × (Nat → Int32)) (t e : Nat) : Nat := if (S t).2.2.2 e = 1 then 1 else if (S t).2.2.2 e = 2 then 2 else 0
def sq_pa (S : Nat → (Nat → Int32) × (Nat → Int32) × (Nat → Int32) × (Nat → Int32)) (t c : Nat) : Option Nat := if (S t).2.1 c = -1 then none else some ((S t).2.1 c).toNatClampNeg
def sq_pl (S : Nat → (Nat → Int32) × (Nat → Int32) × (Nat → Int32) × (Nat → Int32)) (t c b : Nat) : Prop := (S t).2.2.1 c = nI (b / 2)
def sq_id (k : Nat → Int32) : Nat := (k 5).toNatClampNeg
def sq_D (S : Nat → (Nat → Int32) × (Nat → Int32) × (Nat → Int32) × (Nat → Int32)) (c : Nat) : Nat → Int32 := ky_r (S 0).1 (c * 10)
/-- the run: S t is the state after t steps -/
def sq_H (N L T : Nat) (lu ec : Nat → Int32) (ck : Nat → Nat) (S : Nat → (Nat → Int32) × (Nat → Int32) × (Nat → Int32) × (Nat → Int32)) : Prop :=
  N ≤ 8 ∧ L ≤ 16 ∧ (1 ≤ T ∧ T ≤ 4) ∧ gv_E N L ec ck ∧ gv_I N L T ec (S 0).1 ∧ ∀ t, S (t + 1) = gb_step N L (nI T) lu ec (S t)
section
variable {N L T : Nat} {lu ec : Nat → Int32} {ck : Nat → Nat} {S : Nat → (Nat → Int32) × (Nat → Int32) × (Nat → Int32) × (Nat → Int32)}
theorem sq_I (H : sq_H N L T lu ec ck S) : ∀ t, gv_I N L T ec (S t).1
  | 0 => H.2.2.2.2.1
  | t + 1 => by
    rw [H.2.2.2.2.2 t]
    exact gv_choose H.1 H.2.1 (gv_listen H.1 H.2.1 H.2.2.1 H.2.2.2.1 (sq_I H t))
/-- the rows between listening and choosing -/
def sq_R (L T : Nat) (lu ec : Nat → Int32) (S : Nat → (Nat → Int32) × (Nat → Int32) × (Nat → Int32) × (Nat → Int32)) (t : Nat) : Nat → Int32 := gs_it (gs_listen (nI T) lu ec (S t).2.2.2) (2 * L) 0 (S t).1
theorem sq_hE (H : sq_H N L T lu ec ck S) : ∀ e, e < 2 * L → (ec (gc_ot e)).toNatClampNeg < 8 := by
  intro e he
  have hN := H.1
  obtain ⟨h1, h2⟩ := H.2.2.2.1 _ (gc_otlt he)
  rw [h2, nI_clamp (by omega)]; omega
theorem sq_lo (H : sq_H N L T lu ec ck S) (t : Nat) {j : Nat} (h : j < 160) : sq_R L T lu ec S t j = (S t).1 j := (gb_listen (sq_hE H)).1 j h
theorem sq_fr (H : sq_H N L T lu ec ck S) (t : Nat) {j : Nat} (h : j < 80 ∨ 160 ≤ j) : (S (t + 1)).1 j = sq_R L T lu ec S t j := by
  rw [H.2.2.2.2.2 t]
  exact (gb_choose (s := (sq_R L T lu ec S t, (S t).2.1, (S t).2.2.1, (S t).2.2.2)) H.1).1 j h
theorem sq_out (H : sq_H N L T lu ec ck S) (t : Nat) {c : Nat} (hc : c < N) : gb_Out L lu ec (sq_R L T lu ec S t) c (S (t + 1)) := by
  rw [H.2.2.2.2.2 t]
  exact (gb_choose (s := (sq_R L T lu ec S t, (S t).2.1, (S t).2.2.1, (S t).2.2.2)) H.1).2 c hc
theorem sq_ds (H : sq_H N L T lu ec ck S) {j : Nat} (h : j < 80) : ∀ t, (S t).1 j = (S 0).1 j
  | 0 => rfl
  | t + 1 => by rw [sq_fr H t (Or.inl h), sq_lo H t (by omega)]; exact sq_ds H h t
theorem sq_net (H : sq_H N L T lu ec ck S) : cv_Net N (2 * L) ck gc_ot (fun e => ¬ lu (e / 2) = 0) := by
  intro e he
  refine ⟨(H.2.2.2.1 e he).1, gc_otlt he, gv_ot2 e, fun h => ?_⟩
  show ¬ lu (gc_ot e / 2) = 0
  rw [gv_oth]; exact h
theorem sq_cI (H : sq_H N L T lu ec ck S) : cv_I (2 * L) T ck gc_ot (fun e => ¬ lu (e / 2) = 0) sq_id (sq_ok S) (sq_ks S) (sq_ss S) (sq_sd S) (sq_ag S) := by
  intro t e he hu hok
  have hN := H.1
  have hT := H.2.2.1
  obtain ⟨c1, e1⟩ := H.2.2.2.1 e he
  obtain ⟨c2, e2⟩ := H.2.2.2.1 _ (gc_otlt he)
  unfold sq_ok at hok
  rcases (sq_I H t).2.2 e he with z | ⟨_, ⟨s, hs, h6⟩, ⟨g, hg, h5⟩, hn, h7, a, ha, h9⟩
  · rw [z] at hok; exact absurd hok (by decide)
  · refine ⟨?_, ?_, ?_, ?_⟩
    · unfold sq_ag
      rw [h9, nI_clamp (by omega)]; exact ha
    · unfold sq_ss
      rw [h6, nI_clamp (by omega)]; exact hs
    · show ((S t).1 ((16 + e) * 10 + 5)).toNatClampNeg ≠ ck e
      intro z
      rw [h5, nI_clamp (by omega)] at z
      exact hn (by rw [h5, e1, z])
    · unfold sq_sd
      rw [h7, e2, nI_clamp (by omega)]
theorem sq_cA (H : sq_H N L T lu ec ck S) : cv_A (2 * L) ck gc_ot (fun e => ¬ lu (e / 2) = 0) sq_id (sq_kv S) (sq_sv S) (sq_ok S) (sq_ks S) (sq_ss S) (sq_sd S) (sq_ag S) (sq_pt S) := by
  intro t e he hu
  have hN := H.1
  have hT := H.2.2.1
  obtain ⟨c1, e1⟩ := H.2.2.2.1 e he
  obtain ⟨c2, e2⟩ := H.2.2.2.1 _ (gc_otlt he)
  obtain ⟨⟨s, hs, h6⟩, ⟨g, hg, h5⟩, h7, h8, h9⟩ := (sq_I H t).2.1 _ c2
  have cd : (sq_pt S t (gc_ot e) = 1 ∧ sq_sv S t (ck (gc_ot e)) ≤ 6 ∧ sq_id (sq_kv S t (ck (gc_ot e))) ≠ ck e) ↔ ((S t).2.2.2 (gc_ot e) = 1 ∧ (S t).1 ((8 + ck (gc_ot e)) * 10 + 6) ≤ 6 ∧ ¬ (S t).1 ((8 + ck (gc_ot e)) * 10 + 5) = ec e) := by
    have a1 : sq_pt S t (gc_ot e) = 1 ↔ (S t).2.2.2 (gc_ot e) = 1 := by
      unfold sq_pt
      by_cases q : (S t).2.2.2 (gc_ot e) = 1
      · rw [if_pos q]; exact ⟨fun _ => q, fun _ => rfl⟩
      · rw [if_neg q]
        constructor
        · intro z
          split at z
          · exact absurd z (by decide)
          · exact absurd z (by decide)
        · intro z; exact absurd z q
    have a2 : sq_sv S t (ck (gc_ot e)) ≤ 6 ↔ (S t).1 ((8 + ck (gc_ot e)) * 10 + 6) ≤ 6 := by
      unfold sq_sv
      rw [h6, nI_clamp (by omega)]
      exact (nI_leI (b := 6) (by omega) (by omega)).symm
    have a3 : sq_id (sq_kv S t (ck (gc_ot e))) ≠ ck e ↔ ¬ (S t).1 ((8 + ck (gc_ot e)) * 10 + 5) = ec e := by
      show ((S t).1 ((8 + ck (gc_ot e)) * 10 + 5)).toNatClampNeg ≠ ck e ↔ _
      rw [h5, e1, nI_clamp (by omega), nI_eq (by omega) (by omega)]
    rw [a1, a2, a3]
  rw [cd]
  have st : ∀ f, f < 10 → (S (t + 1)).1 ((16 + e) * 10 + f) = sq_R L T lu ec S t ((16 + e) * 10 + f) := fun f hf => sq_fr H t (by omega)
  have rowk : ∀ {x : Nat} {R : Nat → Int32}, (∀ f, f < 6 → sq_R L T lu ec S t ((16 + e) * 10 + f) = R (x + f)) → sq_ks S (t + 1) e = ky_r R x := by
    intro x R h
    funext f
    unfold sq_ks ky_r
    by_cases q : f < 6
    · rw [if_pos q, if_pos q, st f (by omega)]; exact h f q
    · rw [if_neg q, if_neg q]
  rcases gv_row (lu := lu) (es := (S t).2.2.2) hN H.2.1 H.2.2.2.1 he (sq_I H t) with ⟨_, c', G⟩ | ⟨_, c', G⟩ | ⟨_, c', z, G, G9, hn⟩ | ⟨hu', G⟩
  · refine ⟨fun _ => ⟨?_, rowk (fun f hf => G f (by omega)), ?_, ?_, ?_⟩, fun n => absurd c' n⟩
    · unfold sq_ok
      rw [st 8 (by omega)]; exact (G 8 (by omega)).trans h8
    · unfold sq_ss sq_sv
      rw [st 6 (by omega)]; exact congrArg _ (G 6 (by omega))
    · unfold sq_sd
      rw [st 7 (by omega), show sq_R L T lu ec S t ((16 + e) * 10 + 7) = nI (ck (gc_ot e)) from (G 7 (by omega)).trans h7, nI_clamp (by omega)]
    · unfold sq_ag
      rw [st 9 (by omega), show sq_R L T lu ec S t ((16 + e) * 10 + 9) = 0 from (G 9 (by omega)).trans h9]; rfl
  · refine ⟨fun n => absurd n c', fun _ hok => ?_⟩
    unfold sq_ok at hok
    rw [st 8 (by omega), show sq_R L T lu ec S t ((16 + e) * 10 + 8) = 0 from G] at hok
    exact absurd hok (by decide)
  · refine ⟨fun n => absurd n c', fun _ hok => ⟨z, rowk (fun f hf => G f (by omega)), ?_, ?_, ?_⟩⟩
    · unfold sq_ss
      rw [st 6 (by omega)]; exact congrArg _ (G 6 (by omega))
    · unfold sq_sd
      rw [st 7 (by omega)]; exact congrArg _ (G 7 (by omega))
    · rcases (sq_I H t).2.2 e he with y | ⟨_, _, _, _, _, a, ha, g9⟩
      · rw [y] at z; exact absurd z (by decide)
      · unfold sq_ag
        rw [st 9 (by omega), show sq_R L T lu ec S t ((16 + e) * 10 + 9) = nI (a + 1) from G9.trans (by rw [g9, nI_1]), g9, nI_clamp (by omega), nI_clamp (by omega)]
  · exact absurd hu' hu
end
