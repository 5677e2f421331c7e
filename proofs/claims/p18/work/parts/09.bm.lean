/-! one step of announcing and choosing, cell by cell -/
theorem gb_inv {σ : Type} (f : Nat → σ → σ) (n : Nat) (I : Nat → σ → Prop) (hf : ∀ i s, i < n → I i s → I (i + 1) (f i s)) : ∀ k i s, i + k = n → I i s → I n (gs_it f k i s)
  | 0, i, s, hi, h => by
    obtain rfl : i = n := by omega
    exact h
  | k + 1, i, s, hi, h => gb_inv f n I hf k (i + 1) (f i s) (by omega) (hf i s (by omega) h)
section
variable {N L : Nat} {tm : Int32} {lu ec es RW R : Nat → Int32}
theorem gb_ageo {e e' f : Nat} (h : e' ≠ e) (hf : f < 10) : gs_age tm e' R ((16 + e) * 10 + f) = R ((16 + e) * 10 + f) := by
  unfold gs_age
  split
  · rfl
  · split
    · rw [gc_cp_out (by omega), pk_un (by omega)]
    · rw [pk_un (by omega)]
theorem gb_lo {e e' f : Nat} (h : e' ≠ e) (hf : f < 10) : gs_listen tm lu ec es e' R ((16 + e) * 10 + f) = R ((16 + e) * 10 + f) := by
  unfold gs_listen
  split
  · rfl
  · split
    · rw [gc_cp_out (by omega)]
    · exact gb_ageo h hf
theorem gb_agelo {e j : Nat} (h : j < 160) : gs_age tm e R j = R j := by
  unfold gs_age
  split
  · rfl
  · split
    · rw [gc_cp_out (by omega), pk_un (by omega)]
    · rw [pk_un (by omega)]
theorem gb_llo {e j : Nat} (h : j < 160) : gs_listen tm lu ec es e R j = R j := by
  unfold gs_listen
  split
  · rfl
  · split
    · rw [gc_cp_out (by omega)]
    · exact gb_agelo h
theorem gb_agec {e : Nat} (h : ∀ f, f < 10 → R ((16 + e) * 10 + f) = RW ((16 + e) * 10 + f)) : ∀ f, f < 10 → gs_age tm e R ((16 + e) * 10 + f) = gs_age tm e RW ((16 + e) * 10 + f) := by
  intro f hf
  unfold gs_age
  rw [h 8 (by omega), h 9 (by omega)]
  split
  · exact h f hf
  · split
    · rw [gc_cp_in hf, gc_cp_in hf]
    · by_cases q : f = 9
      · subst q; rw [pk_us, pk_us]
      · rw [pk_un (by omega), pk_un (by omega)]; exact h f hf
theorem gb_lc {e : Nat} (hv : (ec (gc_ot e)).toNatClampNeg < 8) (h0 : ∀ j, j < 160 → R j = RW j) (h : ∀ f, f < 10 → R ((16 + e) * 10 + f) = RW ((16 + e) * 10 + f)) : ∀ f, f < 10 → gs_listen tm lu ec es e R ((16 + e) * 10 + f) = gs_listen tm lu ec es e RW ((16 + e) * 10 + f) := by
  intro f hf
  unfold gs_listen
  rw [h0 ((8 + (ec (gc_ot e)).toNatClampNeg) * 10 + 6) (by omega), h0 ((8 + (ec (gc_ot e)).toNatClampNeg) * 10 + 5) (by omega)]
  split
  · exact h f hf
  · split
    · rw [gc_cp_in hf, gc_cp_in hf]; exact h0 _ (by omega)
    · exact gb_agec h f hf
/-- every end listens to what stood before -/
theorem gb_listen (hE : ∀ e, e < 2 * L → (ec (gc_ot e)).toNatClampNeg < 8) : (∀ j, j < 160 → gs_it (gs_listen tm lu ec es) (2 * L) 0 RW j = RW j) ∧ ∀ e, e < 2 * L → ∀ f, f < 10 → gs_it (gs_listen tm lu ec es) (2 * L) 0 RW ((16 + e) * 10 + f) = gs_listen tm lu ec es e RW ((16 + e) * 10 + f) := by
  have H := gb_inv (gs_listen tm lu ec es) (2 * L) (fun i R => (∀ j, j < 160 → R j = RW j) ∧ ∀ e, e < 2 * L → ∀ f, f < 10 → R ((16 + e) * 10 + f) = if e < i then gs_listen tm lu ec es e RW ((16 + e) * 10 + f) else RW ((16 + e) * 10 + f)) (by
    intro i s hi ⟨h1, h2⟩
    refine ⟨fun j hj => (gb_llo hj).trans (h1 j hj), fun e he f hf => ?_⟩
    by_cases q : i = e
    · subst q
      rw [if_pos (by omega)]
      refine gb_lc (hE i hi) h1 (fun f hf => ?_) f hf
      have := h2 i hi f hf
      rw [if_neg (by omega)] at this
      exact this
    · rw [gb_lo q hf, h2 e he f hf]
      by_cases r : e < i
      · rw [if_pos r, if_pos (by omega)]
      · rw [if_neg r, if_neg (by omega)]) (2 * L) 0 RW (by omega) ⟨fun _ _ => rfl, fun e he f hf => (if_neg (by omega)).symm⟩
  refine ⟨H.1, fun e he f hf => ?_⟩
  have := H.2 e he f hf
  rw [if_pos he] at this
  exact this
/-- what a clock shows that follows itself, or end b -/
def gb_self (L : Nat) (lu ec R : Nat → Int32) (c : Nat) (s : (Nat → Int32) × (Nat → Int32) × (Nat → Int32) × (Nat → Int32)) : Prop :=
  (∀ f, f < 10 → s.1 ((8 + c) * 10 + f) = R (c * 10 + f)) ∧ s.2.1 c = -1 ∧ s.2.2.1 c = -1 ∧ ∀ e, e < 2 * L → ec e = nI c → ¬ lu (e / 2) = 0 → s.2.2.2 e = 1
def gb_foll (L : Nat) (lu ec R : Nat → Int32) (c b : Nat) (s : (Nat → Int32) × (Nat → Int32) × (Nat → Int32) × (Nat → Int32)) : Prop :=
  (∀ f, f < 10 → s.1 ((8 + c) * 10 + f) = gc_fR R c b ((8 + c) * 10 + f)) ∧ s.2.1 c = R ((16 + b) * 10 + 7) ∧ s.2.2.1 c = nI (b / 2) ∧ ∀ e, e < 2 * L → ec e = nI c → ¬ lu (e / 2) = 0 → s.2.2.2 e = if e = b then 2 else gs_pst (gc_fR R c b) c e
def gb_Out (L : Nat) (lu ec R : Nat → Int32) (c : Nat) (s : (Nat → Int32) × (Nat → Int32) × (Nat → Int32) × (Nat → Int32)) : Prop :=
  (gs_best L lu ec R c = none → gb_self L lu ec R c s) ∧ ∀ b, gs_best L lu ec R c = some b → (gs_cmp R (c * 10) ((16 + b) * 10) 6 < 0 → gb_self L lu ec R c s) ∧ (¬ gs_cmp R (c * 10) ((16 + b) * 10) 6 < 0 → gb_foll L lu ec R c b s)
theorem gb_cmpc {x y x' y' k : Nat} (h1 : ∀ f, f < k → R (x + f) = RW (x' + f)) (h2 : ∀ f, f < k → R (y + f) = RW (y' + f)) : gs_cmp R x y k = gs_cmp RW x' y' k :=
  cq_congr k 0 (fun j _ hj => h1 j (by omega)) (fun j _ hj => h2 j (by omega))
theorem gb_bestc {c : Nat} (h : ∀ j, 160 ≤ j → R j = RW j) : gs_best L lu ec R c = gs_best L lu ec RW c := by
  unfold gs_best
  have e : gs_bs lu ec R c = gs_bs lu ec RW c := by
    funext i b
    unfold gs_bs
    rw [h ((16 + i) * 10 + 8) (by omega)]
    cases b with
    | none => rfl
    | some j =>
      dsimp only
      rw [gb_cmpc (R := R) (RW := RW) (x := (16 + i) * 10) (y := (16 + j) * 10) (x' := (16 + i) * 10) (y' := (16 + j) * 10) (k := 8) (fun f _ => h _ (by omega)) (fun f _ => h _ (by omega))]
  rw [e]
theorem gb_fR {c b f : Nat} (hf : f < 10) : gc_fR R c b ((8 + c) * 10 + f) = if f = 6 then R ((16 + b) * 10 + 6) + 1 else if f = 7 then nI c else if f = 9 then 0 else R ((16 + b) * 10 + f) := by
  unfold gc_fR
  by_cases h9 : f = 9
  · subst h9
    rw [pk_us]; rfl
  · rw [pk_un (by omega)]
    by_cases h7 : f = 7
    · subst h7
      rw [pk_us]; rfl
    · rw [pk_un (by omega)]
      by_cases h6 : f = 6
      · subst h6
        rw [pk_us]; rfl
      · rw [pk_un (by omega), gc_cp_in hf, if_neg h6, if_neg h7, if_neg h9]
theorem gb_fRc {c b f : Nat} (hf : f < 10) (h : ∀ j, 160 ≤ j → R j = RW j) : gc_fR R c b ((8 + c) * 10 + f) = gc_fR RW c b ((8 + c) * 10 + f) := by
  rw [gb_fR hf, gb_fR hf, h _ (by omega), h _ (by omega)]
theorem gb_pstc {c b e : Nat} (hc : c < 8) (h : ∀ j, 160 ≤ j → R j = RW j) : gs_pst (gc_fR R c b) c e = gs_pst (gc_fR RW c b) c e := by
  unfold gs_pst
  rw [gc_fRout (by omega), gc_fRout (by omega), h _ (by omega), gb_cmpc (R := gc_fR R c b) (RW := gc_fR RW c b) (x := (16 + e) * 10) (y := (8 + c) * 10) (x' := (16 + e) * 10) (y' := (8 + c) * 10) (k := 8) (fun f _ => by rw [gc_fRout (by omega), gc_fRout (by omega)]; exact h _ (by omega)) (fun f hf => gb_fRc (by omega) h)]
theorem gb_out1 {c : Nat} {s : (Nat → Int32) × (Nat → Int32) × (Nat → Int32) × (Nat → Int32)} (hc : c < 8) (h0 : ∀ j, j < 80 → s.1 j = RW j) (h1 : ∀ j, 160 ≤ j → s.1 j = RW j) : gb_Out L lu ec RW c (gs_choose L lu ec c s) := by
  obtain ⟨R, pa, pl, es⟩ := s
  have h0' : ∀ j, j < 80 → R j = RW j := h0
  have h1' : ∀ j, 160 ≤ j → R j = RW j := h1
  have hb : gs_best L lu ec R c = gs_best L lu ec RW c := gb_bestc h1'
  have hs : gb_self L lu ec RW c (gs_self L lu ec c R pa pl es) :=
    ⟨fun f hf => (gc_cp_in hf).trans (h0' _ (by omega)), pk_us, pk_us, fun e he h2 h3 => if_pos ⟨he, h2, h3⟩⟩
  refine ⟨fun hn => ?_, fun b hq => ⟨fun w => ?_, fun w => ?_⟩⟩
  · rw [← hb] at hn
    unfold gs_choose
    rw [hn]
    exact hs
  · rw [← hb] at hq
    rw [← gb_cmpc (R := R) (RW := RW) (x := c * 10) (y := (16 + b) * 10) (x' := c * 10) (y' := (16 + b) * 10) (k := 6) (fun f hf => h0' _ (by omega)) (fun f hf => h1' _ (by omega))] at w
    unfold gs_choose
    rw [hq]
    dsimp only
    rw [if_pos w]
    exact hs
  · rw [← hb] at hq
    rw [← gb_cmpc (R := R) (RW := RW) (x := c * 10) (y := (16 + b) * 10) (x' := c * 10) (y' := (16 + b) * 10) (k := 6) (fun f hf => h0' _ (by omega)) (fun f hf => h1' _ (by omega))] at w
    unfold gs_choose
    rw [hq]
    dsimp only
    rw [if_neg w]
    refine ⟨fun f hf => gb_fRc hf h1', ?_, pk_us, fun e he h2 h3 => ?_⟩
    · show upd pa c (R ((16 + b) * 10 + 7)) c = _
      rw [pk_us]; exact h1' _ (by omega)
    · show upd (gc_fol ec lu es (gs_pst (gc_fR R c b) c) c (2 * L)) b 2 e = _
      by_cases q : e = b
      · rw [if_pos q, q, pk_us]
      · rw [if_neg q, pk_un q, ← gb_pstc hc h1']
        exact if_pos ⟨he, h2, h3⟩
/-- what a clock's choice leaves alone -/
theorem gb_frm {c : Nat} {s : (Nat → Int32) × (Nat → Int32) × (Nat → Int32) × (Nat → Int32)} : (∀ j, j < (8 + c) * 10 ∨ (8 + c) * 10 + 10 ≤ j → (gs_choose L lu ec c s).1 j = s.1 j) ∧ (∀ d, d ≠ c → (gs_choose L lu ec c s).2.1 d = s.2.1 d ∧ (gs_choose L lu ec c s).2.2.1 d = s.2.2.1 d) ∧ ∀ e, ¬ ec e = nI c → (gs_choose L lu ec c s).2.2.2 e = s.2.2.2 e := by
  obtain ⟨R, pa, pl, es⟩ := s
  have ok : gs_okb L lu ec R c (gs_best L lu ec R c) := gs_best_ok
  have hs : ∀ p : Nat → Int32, ∀ e, ¬ ec e = nI c → gc_fol ec lu es p c (2 * L) e = es e := fun p e h => if_neg (fun z => h z.2.1)
  have A : (∀ j, j < (8 + c) * 10 ∨ (8 + c) * 10 + 10 ≤ j → (gs_self L lu ec c R pa pl es).1 j = R j) ∧ (∀ d, d ≠ c → (gs_self L lu ec c R pa pl es).2.1 d = pa d ∧ (gs_self L lu ec c R pa pl es).2.2.1 d = pl d) ∧ ∀ e, ¬ ec e = nI c → (gs_self L lu ec c R pa pl es).2.2.2 e = es e :=
    ⟨fun j hj => gc_cp_out hj, fun d hd => ⟨pk_un hd, pk_un hd⟩, fun e he => hs (fun _ => 1) e he⟩
  unfold gs_choose
  dsimp only
  cases hq : gs_best L lu ec R c with
  | none => exact A
  | some b =>
    rw [hq] at ok
    dsimp only
    by_cases w : gs_cmp R (c * 10) ((16 + b) * 10) 6 < 0
    · rw [if_pos w]; exact A
    · rw [if_neg w]
      refine ⟨fun j hj => gc_fRout hj, fun d hd => ⟨pk_un hd, pk_un hd⟩, fun e he => ?_⟩
      show upd (gc_fol ec lu es (gs_pst (gc_fR R c b) c) c (2 * L)) b 2 e = es e
      rw [pk_un (fun z => he (by rw [z]; exact ok.2.1))]
      exact hs _ e he
/-- every clock chooses by the stores that stood before -/
theorem gb_choose {s : (Nat → Int32) × (Nat → Int32) × (Nat → Int32) × (Nat → Int32)} (hN : N ≤ 8) : (∀ j, j < 80 ∨ 160 ≤ j → (gs_it (gs_choose L lu ec) N 0 s).1 j = s.1 j) ∧ ∀ c, c < N → gb_Out L lu ec s.1 c (gs_it (gs_choose L lu ec) N 0 s) := by
  have H := gb_inv (gs_choose L lu ec) N (fun i r => (∀ j, j < 80 ∨ 160 ≤ j → r.1 j = s.1 j) ∧ ∀ c, c < i → gb_Out L lu ec s.1 c r) (by
    intro i r hi ⟨h1, h2⟩
    have F := gb_frm (L := L) (lu := lu) (ec := ec) (c := i) (s := r)
    refine ⟨fun j hj => (F.1 j (by omega)).trans (h1 j hj), fun c hc => ?_⟩
    by_cases q : c = i
    · subst q
      exact gb_out1 (by omega) (fun j hj => h1 j (Or.inl hj)) (fun j hj => h1 j (Or.inr hj))
    · have O := h2 c (by omega)
      have hv : ∀ f, f < 10 → (gs_choose L lu ec i r).1 ((8 + c) * 10 + f) = r.1 ((8 + c) * 10 + f) := fun f hf => F.1 _ (by omega)
      have hp := F.2.1 c q
      have he : ∀ e, ec e = nI c → (gs_choose L lu ec i r).2.2.2 e = r.2.2.2 e := fun e h => F.2.2 e (fun z => q ((nI_eq (by omega) (by omega)).mp (h.symm.trans z)))
      have ks : gb_self L lu ec s.1 c r → gb_self L lu ec s.1 c (gs_choose L lu ec i r) := fun ⟨a, b, d, g⟩ =>
        ⟨fun f hf => (hv f hf).trans (a f hf), hp.1.trans b, hp.2.trans d, fun e z1 z2 z3 => (he e z2).trans (g e z1 z2 z3)⟩
      have kf : ∀ b, gb_foll L lu ec s.1 c b r → gb_foll L lu ec s.1 c b (gs_choose L lu ec i r) := fun b ⟨a, b', d, g⟩ =>
        ⟨fun f hf => (hv f hf).trans (a f hf), hp.1.trans b', hp.2.trans d, fun e z1 z2 z3 => (he e z2).trans (g e z1 z2 z3)⟩
      exact ⟨fun z => ks (O.1 z), fun b z => ⟨fun w => ks ((O.2 b z).1 w), fun w => kf b ((O.2 b z).2 w)⟩⟩) N 0 s (by omega) ⟨fun _ _ => rfl, fun c hc => absurd hc (by omega)⟩
  exact H
end
