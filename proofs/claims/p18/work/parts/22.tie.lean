/-! the step of announcing and choosing against the abstract network -/
theorem gb_min {L : Nat} {lu ec RW : Nat → Int32} {c : Nat} : (gs_best L lu ec RW c = none → ∀ e, e < 2 * L → ec e = nI c → ¬ lu (e / 2) = 0 → ¬ RW ((16 + e) * 10 + 8) = 1) ∧ ∀ b, gs_best L lu ec RW c = some b → ∀ e, e < 2 * L → ec e = nI c → ¬ lu (e / 2) = 0 → RW ((16 + e) * 10 + 8) = 1 → ¬ gs_cmp RW ((16 + e) * 10) ((16 + b) * 10) 8 < 0 := by
  have self : ∀ x, ¬ gs_cmp RW x x 8 < 0 := fun x => by
    have : gs_cmp RW x x 8 = 0 := gc_cmp_self _ _ _
    rw [this]; decide
  have H := gb_inv (gs_bs lu ec RW c) (2 * L) (fun i b => (b = none → ∀ e, e < i → ¬ (ec e = nI c ∧ ¬ lu (e / 2) = 0 ∧ RW ((16 + e) * 10 + 8) = 1)) ∧ ∀ j, b = some j → ∀ e, e < i → (ec e = nI c ∧ ¬ lu (e / 2) = 0 ∧ RW ((16 + e) * 10 + 8) = 1) → ¬ gs_cmp RW ((16 + e) * 10) ((16 + j) * 10) 8 < 0) (by
    intro i b hi ⟨h1, h2⟩
    unfold gs_bs
    by_cases q : ec i = nI c ∧ ¬ lu (i / 2) = 0 ∧ RW ((16 + i) * 10 + 8) = 1
    · rw [if_pos q]
      cases b with
      | none =>
        refine ⟨fun z => absurd z (Option.some_ne_none _), fun j hj e he hc => ?_⟩
        obtain rfl := Option.some.inj hj
        by_cases r : e = i
        · subst r; exact self _
        · exact absurd hc (h1 rfl e (by omega))
      | some k =>
        dsimp only
        by_cases w : gs_cmp RW ((16 + i) * 10) ((16 + k) * 10) 8 < 0
        · rw [if_pos w]
          refine ⟨fun z => absurd z (Option.some_ne_none _), fun j hj e he hc => ?_⟩
          obtain rfl := Option.some.inj hj
          by_cases r : e = i
          · subst r; exact self _
          · exact fun z => h2 k rfl e (by omega) hc (cq_trans 8 0 z w)
        · rw [if_neg w]
          refine ⟨fun z => absurd z (Option.some_ne_none _), fun j hj e he hc => ?_⟩
          obtain rfl := Option.some.inj hj
          by_cases r : e = i
          · subst r; exact w
          · exact h2 _ rfl e (by omega) hc
    · rw [if_neg q]
      refine ⟨fun z e he hc => ?_, fun j hj e he hc => ?_⟩
      · by_cases r : e = i
        · subst r; exact q hc
        · exact h1 z e (by omega) hc
      · by_cases r : e = i
        · subst r; exact absurd hc q
        · exact h2 j hj e (by omega) hc) (2 * L) 0 none (by omega) ⟨fun _ e he => absurd he (by omega), fun j hj => absurd hj.symm (Option.some_ne_none j)⟩
  exact ⟨fun z e he a b d => H.1 z e he ⟨a, b, d⟩, fun b z e he a a2 a3 => H.2 b z e he ⟨a, a2, a3⟩⟩
/-- six columns of a row -/
def ky_r (R : Nat → Int32) (x : Nat) : Nat → Int32 := fun f => if f < 6 then R (x + f) else 0
def kl_r (k k' : Nat → Int32) : Prop := gc_cmp k k' 6 0 < 0
theorem kl_ir (k : Nat → Int32) : ¬ kl_r k k := by
  unfold kl_r
  rw [gc_cmp_self]; decide
theorem kl_as (k k' : Nat → Int32) (h : kl_r k k') : ¬ kl_r k' k := by
  unfold kl_r at h ⊢
  rw [cq_lt] at h
  rw [cq_neg k k', h]; decide
theorem kl_cmp (R : Nat → Int32) (x y : Nat) : gs_cmp R x y 6 = gc_cmp (ky_r R x) (ky_r R y) 6 0 :=
  cq_congr 6 0 (fun j _ h => (if_pos (by omega)).symm) (fun j _ h => (if_pos (by omega)).symm)
theorem ky_eq {R : Nat → Int32} {x y : Nat} : gs_cmp R x y 6 = 0 ↔ ky_r R x = ky_r R y := by
  rw [kl_cmp, cq_eq0]
  constructor
  · intro h
    funext f
    by_cases q : f < 6
    · exact h f (by omega) (by omega)
    · unfold ky_r
      rw [if_neg q, if_neg q]
  · intro h j _ _
    rw [h]
theorem ky_lx {R : Nat → Int32} {x y s s' d d' : Nat} (hs : s < 2 ^ 31) (hs' : s' < 2 ^ 31) (hd : d < 2 ^ 31) (hd' : d' < 2 ^ 31) (e6 : R (x + 6) = nI s) (e6' : R (y + 6) = nI s') (e7 : R (x + 7) = nI d) (e7' : R (y + 7) = nI d') : gs_cmp R x y 8 < 0 ↔ cv_lx kl_r (ky_r R x) s d (ky_r R y) s' d' := by
  unfold gs_cmp
  rw [show (8 : Nat) = 6 + 2 by rfl, cq_split]
  have a : gc_cmp (fun f => R (x + f)) (fun f => R (y + f)) 6 0 = gs_cmp R x y 6 := rfl
  rw [a, ky_eq, kl_cmp]
  unfold cv_lx
  have b : gc_cmp (fun f => R (x + f)) (fun f => R (y + f)) 2 (0 + 6) < 0 ↔ s < s' ∨ (s = s' ∧ d < d') := by
    show gc_cmp (fun f => R (x + f)) (fun f => R (y + f)) 2 6 < 0 ↔ _
    rw [gc_cmp]
    try dsimp only
    rw [e6, e6', gc_cmp]
    try dsimp only
    rw [e7, e7', gc_cmp]
    by_cases p : s = s'
    · rw [if_pos (by rw [p])]
      by_cases q : d = d'
      · rw [if_pos (by rw [q])]
        constructor
        · intro h; exact absurd h (by decide)
        · intro h; omega
      · rw [if_neg (fun z => q ((nI_eq hd hd').mp z))]
        by_cases r : d < d'
        · rw [if_pos ((nI_ltI hd hd').mpr r)]
          exact ⟨fun _ => Or.inr ⟨p, r⟩, fun _ => by decide⟩
        · rw [if_neg (fun z => r ((nI_ltI hd hd').mp z))]
          constructor
          · intro h; exact absurd h (by decide)
          · intro h; omega
    · rw [if_neg (fun z => p ((nI_eq hs hs').mp z))]
      by_cases r : s < s'
      · rw [if_pos ((nI_ltI hs hs').mpr r)]
        exact ⟨fun _ => Or.inl r, fun _ => by decide⟩
      · rw [if_neg (fun z => r ((nI_ltI hs hs').mp z))]
        constructor
        · intro h; exact absurd h (by decide)
        · intro h; omega
  rw [b]
  rfl
/-- what holds of the rows at every time -/
def gv_I (N L T : Nat) (ec RW : Nat → Int32) : Prop :=
  (∀ c, c < N → RW (c * 10 + 5) = nI c ∧ RW (c * 10 + 6) = 0 ∧ RW (c * 10 + 7) = nI c ∧ RW (c * 10 + 8) = 1 ∧ RW (c * 10 + 9) = 0) ∧
  (∀ c, c < N → (∃ s, s ≤ 7 ∧ RW ((8 + c) * 10 + 6) = nI s) ∧ (∃ g, g < 8 ∧ RW ((8 + c) * 10 + 5) = nI g) ∧ RW ((8 + c) * 10 + 7) = nI c ∧ RW ((8 + c) * 10 + 8) = 1 ∧ RW ((8 + c) * 10 + 9) = 0) ∧
  (∀ e, e < 2 * L → RW ((16 + e) * 10 + 8) = 0 ∨ (RW ((16 + e) * 10 + 8) = 1 ∧ (∃ s, s ≤ 6 ∧ RW ((16 + e) * 10 + 6) = nI s) ∧ (∃ g, g < 8 ∧ RW ((16 + e) * 10 + 5) = nI g) ∧ ¬ RW ((16 + e) * 10 + 5) = ec e ∧ RW ((16 + e) * 10 + 7) = ec (gc_ot e) ∧ ∃ a, a < T ∧ RW ((16 + e) * 10 + 9) = nI a))
def gb_step (N L : Nat) (tm : Int32) (lu ec : Nat → Int32) (s : (Nat → Int32) × (Nat → Int32) × (Nat → Int32) × (Nat → Int32)) : (Nat → Int32) × (Nat → Int32) × (Nat → Int32) × (Nat → Int32) :=
  gs_it (gs_choose L lu ec) N 0 (gs_it (gs_listen tm lu ec s.2.2.2) (2 * L) 0 s.1, s.2.1, s.2.2.1, s.2.2.2)
section
variable {N L T : Nat} {lu ec es RW : Nat → Int32}
/-- the ends and their clocks: ck e is the clock at e -/
def gv_E (N L : Nat) (ec : Nat → Int32) (ck : Nat → Nat) : Prop := ∀ e, e < 2 * L → ck e < N ∧ ec e = nI (ck e)
theorem gv_row {ck : Nat → Nat} {e : Nat} (hN : N ≤ 8) (hL : L ≤ 16) (HE : gv_E N L ec ck) (he : e < 2 * L) (HI : gv_I N L T ec RW) :
    (¬ lu (e / 2) = 0 ∧ (es (gc_ot e) = 1 ∧ RW ((8 + ck (gc_ot e)) * 10 + 6) ≤ 6 ∧ ¬ RW ((8 + ck (gc_ot e)) * 10 + 5) = ec e) ∧ ∀ f, f < 10 → gs_it (gs_listen (nI T) lu ec es) (2 * L) 0 RW ((16 + e) * 10 + f) = RW ((8 + ck (gc_ot e)) * 10 + f)) ∨
    (¬ lu (e / 2) = 0 ∧ ¬ (es (gc_ot e) = 1 ∧ RW ((8 + ck (gc_ot e)) * 10 + 6) ≤ 6 ∧ ¬ RW ((8 + ck (gc_ot e)) * 10 + 5) = ec e) ∧ gs_it (gs_listen (nI T) lu ec es) (2 * L) 0 RW ((16 + e) * 10 + 8) = 0) ∨
    (¬ lu (e / 2) = 0 ∧ ¬ (es (gc_ot e) = 1 ∧ RW ((8 + ck (gc_ot e)) * 10 + 6) ≤ 6 ∧ ¬ RW ((8 + ck (gc_ot e)) * 10 + 5) = ec e) ∧ RW ((16 + e) * 10 + 8) = 1 ∧ (∀ f, f < 9 → gs_it (gs_listen (nI T) lu ec es) (2 * L) 0 RW ((16 + e) * 10 + f) = RW ((16 + e) * 10 + f)) ∧ gs_it (gs_listen (nI T) lu ec es) (2 * L) 0 RW ((16 + e) * 10 + 9) = RW ((16 + e) * 10 + 9) + 1 ∧ ¬ RW ((16 + e) * 10 + 9) + 1 = nI T) ∨
    (lu (e / 2) = 0 ∧ ∀ f, f < 10 → gs_it (gs_listen (nI T) lu ec es) (2 * L) 0 RW ((16 + e) * 10 + f) = RW ((16 + e) * 10 + f)) := by
  have hE : ∀ e, e < 2 * L → (ec (gc_ot e)).toNatClampNeg < 8 := by
    intro e he
    obtain ⟨h1, h2⟩ := HE _ (gc_otlt he)
    rw [h2, nI_clamp (by omega)]; omega
  have G := (gb_listen (tm := nI T) (lu := lu) (es := es) (RW := RW) hE).2 e he
  obtain ⟨hq, eq⟩ := HE _ (gc_otlt he)
  have cl : (ec (gc_ot e)).toNatClampNeg = ck (gc_ot e) := by rw [eq, nI_clamp (by omega)]
  by_cases hu : lu (e / 2) = 0
  · refine Or.inr (Or.inr (Or.inr ⟨hu, fun f hf => (G f hf).trans ?_⟩))
    unfold gs_listen
    rw [if_pos hu]
  · by_cases cd : es (gc_ot e) = 1 ∧ RW ((8 + ck (gc_ot e)) * 10 + 6) ≤ 6 ∧ ¬ RW ((8 + ck (gc_ot e)) * 10 + 5) = ec e
    · refine Or.inl ⟨hu, cd, fun f hf => (G f hf).trans ?_⟩
      unfold gs_listen
      rw [if_neg hu, cl, if_pos cd, gc_cp_in hf]
    · have q : gs_listen (nI T) lu ec es e RW = gs_age (nI T) e RW := by
        unfold gs_listen
        rw [if_neg hu, cl, if_neg cd]
      rw [q] at G
      unfold gs_age at G
      rcases HI.2.2 e he with z | ⟨z, _⟩
      · rw [if_pos z] at G
        exact Or.inr (Or.inl ⟨hu, cd, (G 8 (by omega)).trans z⟩)
      · rw [if_neg (by rw [z]; decide)] at G
        by_cases d : RW ((16 + e) * 10 + 9) + 1 = nI T
        · rw [if_pos d] at G
          exact Or.inr (Or.inl ⟨hu, cd, (G 8 (by omega)).trans (gc_cp_in (by omega))⟩)
        · rw [if_neg d] at G
          refine Or.inr (Or.inr (Or.inl ⟨hu, cd, z, fun f hf => (G f (by omega)).trans (pk_un (by omega)), (G 9 (by omega)).trans pk_us, d⟩))
theorem gv_listen {ck : Nat → Nat} (hN : N ≤ 8) (hL : L ≤ 16) (hT : 1 ≤ T ∧ T ≤ 4) (HE : gv_E N L ec ck) (HI : gv_I N L T ec RW) : gv_I N L T ec (gs_it (gs_listen (nI T) lu ec es) (2 * L) 0 RW) := by
  have hE : ∀ e, e < 2 * L → (ec (gc_ot e)).toNatClampNeg < 8 := by
    intro e he
    obtain ⟨h1, h2⟩ := HE _ (gc_otlt he)
    rw [h2, nI_clamp (by omega)]; omega
  have lo := (gb_listen (tm := nI T) (lu := lu) (es := es) (RW := RW) hE).1
  refine ⟨fun c hc => ?_, fun c hc => ?_, fun e he => ?_⟩
  · rw [lo _ (by omega), lo _ (by omega), lo _ (by omega), lo _ (by omega), lo _ (by omega)]
    exact HI.1 c hc
  · rw [lo _ (by omega), lo _ (by omega), lo _ (by omega), lo _ (by omega), lo _ (by omega)]
    exact HI.2.1 c hc
  · obtain ⟨hq, eq⟩ := HE _ (gc_otlt he)
    rcases gv_row (lu := lu) (es := es) hN hL HE he HI with ⟨hu, cd, G⟩ | ⟨hu, cd, G⟩ | ⟨hu, cd, z, G, G9, hn⟩ | ⟨hu, G⟩
    · obtain ⟨⟨s, hs, es'⟩, ⟨g, hg, eg⟩, v7, v8, v9⟩ := HI.2.1 _ hq
      refine Or.inr ⟨(G 8 (by omega)).trans v8, ⟨s, ?_, (G 6 (by omega)).trans es'⟩, ⟨g, hg, (G 5 (by omega)).trans eg⟩, ?_, ?_, 0, by omega, (G 9 (by omega)).trans v9⟩
      · have := cd.2.1
        rw [es'] at this
        exact (nI_leI (b := 6) (by omega) (by omega)).mp this
      · rw [G 5 (by omega)]; exact cd.2.2
      · rw [G 7 (by omega), v7]; exact eq.symm
    · exact Or.inl G
    · rcases HI.2.2 e he with y | ⟨y, h6, h5, h5n, h7, a, ha, e9⟩
      · rw [y] at z; exact absurd z (by decide)
      · refine Or.inr ⟨(G 8 (by omega)).trans y, ?_, ?_, ?_, ?_, a + 1, ?_, ?_⟩
        · rw [G 6 (by omega)]; exact h6
        · rw [G 5 (by omega)]; exact h5
        · rw [G 5 (by omega)]; exact h5n
        · rw [G 7 (by omega)]; exact h7
        · rw [e9, nI_1] at hn
          have : a + 1 ≠ T := fun w => hn (by rw [w])
          omega
        · rw [G9, e9, nI_1]
    · rw [G 8 (by omega), G 6 (by omega), G 5 (by omega), G 7 (by omega), G 9 (by omega)]
      exact HI.2.2 e he
theorem gv_choose {s : (Nat → Int32) × (Nat → Int32) × (Nat → Int32) × (Nat → Int32)} (hN : N ≤ 8) (hL : L ≤ 16) (HI : gv_I N L T ec s.1) : gv_I N L T ec (gs_it (gs_choose L lu ec) N 0 s).1 := by
  obtain ⟨fr, out⟩ := gb_choose (N := N) (L := L) (lu := lu) (ec := ec) (s := s) hN
  refine ⟨fun c hc => ?_, fun c hc => ?_, fun e he => ?_⟩
  · rw [fr _ (by omega), fr _ (by omega), fr _ (by omega), fr _ (by omega), fr _ (by omega)]
    exact HI.1 c hc
  · have O := out c hc
    have kself : gb_self L lu ec s.1 c (gs_it (gs_choose L lu ec) N 0 s) → (∃ w, w ≤ 7 ∧ (gs_it (gs_choose L lu ec) N 0 s).1 ((8 + c) * 10 + 6) = nI w) ∧ (∃ g, g < 8 ∧ (gs_it (gs_choose L lu ec) N 0 s).1 ((8 + c) * 10 + 5) = nI g) ∧ (gs_it (gs_choose L lu ec) N 0 s).1 ((8 + c) * 10 + 7) = nI c ∧ (gs_it (gs_choose L lu ec) N 0 s).1 ((8 + c) * 10 + 8) = 1 ∧ (gs_it (gs_choose L lu ec) N 0 s).1 ((8 + c) * 10 + 9) = 0 := by
      intro ⟨a, _⟩
      obtain ⟨d5, d6, d7, d8, d9⟩ := HI.1 c hc
      exact ⟨⟨0, by omega, (a 6 (by omega)).trans d6⟩, ⟨c, by omega, (a 5 (by omega)).trans d5⟩, (a 7 (by omega)).trans d7, (a 8 (by omega)).trans d8, (a 9 (by omega)).trans d9⟩
    cases hq : gs_best L lu ec s.1 c with
    | none => exact kself (O.1 hq)
    | some b =>
      by_cases w : gs_cmp s.1 (c * 10) ((16 + b) * 10) 6 < 0
      · exact kself ((O.2 b hq).1 w)
      · obtain ⟨a, _⟩ := (O.2 b hq).2 w
        have ok : gs_okb L lu ec s.1 c (gs_best L lu ec s.1 c) := gs_best_ok
        rw [hq] at ok
        obtain ⟨hb, _, _, ob⟩ := ok
        rcases HI.2.2 b hb with y | ⟨y, ⟨st, hst, h6⟩, ⟨g, hg, h5⟩, _⟩
        · rw [y] at ob; exact absurd ob (by decide)
        · refine ⟨⟨st + 1, by omega, ?_⟩, ⟨g, hg, ?_⟩, ?_, ?_, ?_⟩
          · rw [a 6 (by omega), gb_fR (by omega), if_pos rfl, h6, nI_1]
          · rw [a 5 (by omega), gb_fR (by omega)]; exact h5
          · rw [a 7 (by omega), gb_fR (by omega)]; rfl
          · rw [a 8 (by omega), gb_fR (by omega)]; exact ob
          · rw [a 9 (by omega), gb_fR (by omega)]; rfl
  · rw [fr _ (by omega), fr _ (by omega), fr _ (by omega), fr _ (by omega), fr _ (by omega)]
    exact HI.2.2 e he
end
