/-! choosing, and what a settled clock shows -/
section
variable {N L T : Nat} {lu ec : Nat → Int32} {ck : Nat → Nat} {S : Nat → (Nat → Int32) × (Nat → Int32) × (Nat → Int32) × (Nat → Int32)}
theorem sq_lx {t x y : Nat} {s s' d d' : Nat} (hs : s < 2 ^ 31) (hs' : s' < 2 ^ 31) (hd : d < 2 ^ 31) (hd' : d' < 2 ^ 31) {R : Nat → Int32} (hx : ∀ f, f < 8 → R (x + f) = (S t).1 (x + f)) (hy : ∀ f, f < 8 → R (y + f) = (S t).1 (y + f)) (e6 : (S t).1 (x + 6) = nI s) (e6' : (S t).1 (y + 6) = nI s') (e7 : (S t).1 (x + 7) = nI d) (e7' : (S t).1 (y + 7) = nI d') : gs_cmp R x y 8 < 0 ↔ cv_lx kl_r (ky_r (S t).1 x) s d (ky_r (S t).1 y) s' d' := by
  rw [gb_cmpc (R := R) (RW := (S t).1) (x' := x) (y' := y) hx hy]
  exact ky_lx hs hs' hd hd' e6 e6' e7 e7'
theorem sq_cC (H : sq_H N L T lu ec ck S) : cv_C N (2 * L) ck gc_ot (fun e => ¬ lu (e / 2) = 0) kl_r (sq_D S) (sq_kv S) (sq_sv S) (sq_ok S) (sq_ks S) (sq_ss S) (sq_sd S) (sq_pt S) (sq_pa S) (sq_pl S) := by
  intro t c hc
  have hN := H.1
  have hL := H.2.1
  have O := sq_out H t hc
  have I1 := sq_I H (t + 1)
  have up : ∀ j, j < 80 ∨ 160 ≤ j → sq_R L T lu ec S t j = (S (t + 1)).1 j := fun j hj => (sq_fr H t hj).symm
  have ckc : ∀ e, e < 2 * L → ck e = c → ec e = nI c := fun e he h => by rw [(H.2.2.2.1 e he).2, h]
  have stv : ∀ e, e < 2 * L → sq_ok S (t + 1) e → (S (t + 1)).1 ((16 + e) * 10 + 6) = nI (sq_ss S (t + 1) e) ∧ sq_ss S (t + 1) e ≤ 6 ∧ (S (t + 1)).1 ((16 + e) * 10 + 7) = nI (sq_sd S (t + 1) e) ∧ sq_sd S (t + 1) e < 8 := by
    intro e he hok
    unfold sq_ok at hok
    obtain ⟨c2, e2⟩ := H.2.2.2.1 _ (gc_otlt he)
    rcases I1.2.2 e he with z | ⟨_, ⟨s, hs, h6⟩, _, _, h7, _⟩
    · rw [z] at hok; exact absurd hok (by decide)
    · have a : sq_ss S (t + 1) e = s := by
        unfold sq_ss
        rw [h6, nI_clamp (by omega)]
      have b : sq_sd S (t + 1) e = ck (gc_ot e) := by
        unfold sq_sd
        rw [h7, e2, nI_clamp (by omega)]
      rw [a, b]
      exact ⟨h6, hs, h7.trans e2, by omega⟩
  have Dc : ky_r (sq_R L T lu ec S t) (c * 10) = sq_D S c := by
    funext f
    unfold sq_D ky_r
    by_cases q : f < 6
    · rw [if_pos q, if_pos q, sq_lo H t (by omega), sq_ds H (by omega) t]
    · rw [if_neg q, if_neg q]
  have Ke : ∀ e, ky_r (sq_R L T lu ec S t) ((16 + e) * 10) = sq_ks S (t + 1) e := by
    intro e
    funext f
    unfold sq_ks ky_r
    by_cases q : f < 6
    · rw [if_pos q, if_pos q, up _ (by omega)]
    · rw [if_neg q, if_neg q]
  have cmin : ∀ b, gs_best L lu ec (sq_R L T lu ec S t) c = some b → sq_ok S (t + 1) b → b < 2 * L → ∀ e, e < 2 * L → ¬ lu (e / 2) = 0 → ck e = c → sq_ok S (t + 1) e → ¬ cv_lx kl_r (sq_ks S (t + 1) e) (sq_ss S (t + 1) e) (sq_sd S (t + 1) e) (sq_ks S (t + 1) b) (sq_ss S (t + 1) b) (sq_sd S (t + 1) b) := by
    intro b hq hbo hb e he hu hec hok z
    obtain ⟨a1, a2, a3, a4⟩ := stv e he hok
    obtain ⟨b1, b2, b3, b4⟩ := stv b hb hbo
    have m := gb_min.2 b hq e he (ckc e he hec) hu (by rw [up _ (by omega)]; exact hok)
    exact m ((sq_lx (t := t + 1) (by omega) (by omega) (by omega) (by omega) (fun f hf => up _ (by omega)) (fun f hf => up _ (by omega)) a1 b1 a3 b3).mpr z)
  have selfc : gb_self L lu ec (sq_R L T lu ec S t) c (S (t + 1)) → sq_kv S (t + 1) c = sq_D S c ∧ sq_sv S (t + 1) c = 0 ∧ sq_pa S (t + 1) c = none ∧ (∀ e, e < 2 * L → ¬ lu (e / 2) = 0 → ck e = c → sq_pt S (t + 1) e = 1) := by
    intro ⟨a, b, d, g⟩
    refine ⟨?_, ?_, ?_, fun e he hu hec => ?_⟩
    · rw [← Dc]
      funext f
      unfold sq_kv ky_r
      by_cases q : f < 6
      · rw [if_pos q, if_pos q]; exact a f (by omega)
      · rw [if_neg q, if_neg q]
    · unfold sq_sv
      rw [a 6 (by omega), sq_lo H t (by omega), ((sq_I H t).1 c hc).2.1]; rfl
    · unfold sq_pa
      rw [if_pos b]
    · unfold sq_pt
      rw [if_pos (g e he (ckc e he hec) hu)]
  cases hq : gs_best L lu ec (sq_R L T lu ec S t) c with
  | none =>
    obtain ⟨s1, s2, s3, s4⟩ := selfc (O.1 hq)
    refine Or.inl ⟨s1, s2, s3, s4, fun e he hu hec hok => ?_⟩
    exact absurd (by rw [up _ (by omega)]; exact hok) (gb_min.1 hq e he (ckc e he hec) hu)
  | some b =>
    have okb : gs_okb L lu ec (sq_R L T lu ec S t) c (gs_best L lu ec (sq_R L T lu ec S t) c) := gs_best_ok
    rw [hq] at okb
    obtain ⟨hb, ob1, ob2, ob3⟩ := okb
    have hbc : ck b = c := by
      have := (H.2.2.2.1 b hb).2
      have h8 := (H.2.2.2.1 b hb).1
      rw [ob1] at this
      exact ((nI_eq (by omega) (by omega)).mp this).symm
    have hbo : sq_ok S (t + 1) b := by
      unfold sq_ok
      rw [← up _ (by omega)]; exact ob3
    by_cases w : gs_cmp (sq_R L T lu ec S t) (c * 10) ((16 + b) * 10) 6 < 0
    · obtain ⟨s1, s2, s3, s4⟩ := selfc ((O.2 b hq).1 w)
      refine Or.inl ⟨s1, s2, s3, s4, fun e he hu hec hok => ⟨b, hb, ob2, hbc, hbo, ?_, cmin b hq hbo hb e he hu hec hok⟩⟩
      rw [kl_cmp, Dc, Ke] at w
      exact w
    · obtain ⟨a, p, pl, g⟩ := (O.2 b hq).2 w
      obtain ⟨b1, b2, b3, b4⟩ := stv b hb hbo
      refine Or.inr ⟨b, hb, ob2, hbc, hbo, ?_, fun e he hu hec hok => cmin b hq hbo hb e he hu hec hok, ?_, ?_, ?_, pl, ?_, fun e he hu hec hne => ?_⟩
      · rw [kl_cmp, Dc, Ke] at w
        exact w
      · rw [← Ke]
        funext f
        unfold sq_kv ky_r
        by_cases q : f < 6
        · rw [if_pos q, if_pos q, a f (by omega), gb_fR (by omega), if_neg (by omega), if_neg (by omega), if_neg (by omega)]
        · rw [if_neg q, if_neg q]
      · unfold sq_sv
        rw [a 6 (by omega), gb_fR (by omega), if_pos rfl, up _ (by omega), b1, nI_1, nI_clamp (by omega)]
      · unfold sq_pa
        have e7 : (S (t + 1)).2.1 c = nI (sq_sd S (t + 1) b) := by rw [p, up _ (by omega)]; exact b3
        have hne : ¬ (S (t + 1)).2.1 c = -1 := by rw [e7]; exact gc_en_ne (by omega)
        rw [if_neg hne, e7, nI_clamp (by omega)]
      · unfold sq_pt
        rw [g b hb ob1 ob2, if_pos rfl]; rfl
      · have ge := g e he (ckc e he hec) hu
        rw [if_neg hne] at ge
        by_cases x : (sq_R L T lu ec S t) ((16 + e) * 10 + 8) = 1 ∧ gs_cmp (gc_fR (sq_R L T lu ec S t) c b) ((16 + e) * 10) ((8 + c) * 10) 8 < 0
        · have hok : sq_ok S (t + 1) e := by
            unfold sq_ok
            rw [← up _ (by omega)]; exact x.1
          obtain ⟨a1, a2, a3, a4⟩ := stv e he hok
          obtain ⟨⟨s, hs, v6⟩, _, v7, _⟩ := I1.2.1 c hc
          have sv : sq_sv S (t + 1) c = s := by
            unfold sq_sv
            rw [v6, nI_clamp (by omega)]
          refine Or.inr ⟨hok, ?_⟩
          rw [sv]
          exact (sq_lx (t := t + 1) (by omega) (by omega) (by omega) (by omega) (fun f hf => by rw [gc_fRout (by omega)]; exact up _ (by omega)) (fun f hf => (a f (by omega)).symm) a1 v6 a3 v7).mp x.2
        · refine Or.inl ?_
          unfold sq_pt
          have : (S (t + 1)).2.2.2 e = 1 := by
            rw [ge]
            unfold gs_pst
            refine if_neg (fun z => x ⟨?_, z.2⟩)
            rw [gc_fRout (by omega)] at z
            exact z.1
          rw [if_pos this]
theorem sq_pa2 (H : sq_H N L T lu ec ck S) (t : Nat) {c : Nat} (hc : c < N) : (S (t + 1)).2.1 c = -1 ∨ ∃ q, q < 8 ∧ (S (t + 1)).2.1 c = nI q := by
  have hN := H.1
  have O := sq_out H t hc
  cases hq : gs_best L lu ec (sq_R L T lu ec S t) c with
  | none => exact Or.inl (O.1 hq).2.1
  | some b =>
    by_cases w : gs_cmp (sq_R L T lu ec S t) (c * 10) ((16 + b) * 10) 6 < 0
    · exact Or.inl ((O.2 b hq).1 w).2.1
    · obtain ⟨_, p, _⟩ := (O.2 b hq).2 w
      have okb : gs_okb L lu ec (sq_R L T lu ec S t) c (gs_best L lu ec (sq_R L T lu ec S t) c) := gs_best_ok
      rw [hq] at okb
      obtain ⟨hb, _, _, ob3⟩ := okb
      rw [← sq_fr H t (by omega)] at ob3
      rcases (sq_I H (t + 1)).2.2 b hb with z | ⟨_, _, _, _, h7, _⟩
      · rw [z] at ob3; exact absurd ob3 (by decide)
      · obtain ⟨c2, e2⟩ := H.2.2.2.1 _ (gc_otlt hb)
        refine Or.inr ⟨ck (gc_ot b), by omega, ?_⟩
        rw [p, ← sq_fr H t (by omega), h7]; exact e2
/-- the clocks are settled from 7 (T + 1) + 8 steps on -/
theorem sq_settle (H : sq_H N L T lu ec ck S) {B : Nat} (hB : B < N) (hbest : ∀ g, g < N → (∃ j, cv_W (2 * L) ck gc_ot (fun e => ¬ lu (e / 2) = 0) g j B) → g ≠ B → kl_r (sq_D S B) (sq_D S g)) {d t c : Nat} (ht : 44 ≤ t) (hc : c < N) (hd : cv_d (2 * L) ck gc_ot (fun e => ¬ lu (e / 2) = 0) B c d) :
    d ≤ 7 ∧ (S t).1 ((8 + c) * 10 + 5) = nI B ∧ (S t).1 ((8 + c) * 10 + 6) = nI d ∧
    (∀ e, e < 2 * L → ¬ lu (e / 2) = 0 → ck e = c → (∀ i, i ≤ d → ¬ cv_W (2 * L) ck gc_ot (fun e => ¬ lu (e / 2) = 0) B i (ck (gc_ot e))) → (S t).2.2.2 e = 1) ∧
    (d = 0 → (S t).2.1 c = -1 ∧ ∀ e, e < 2 * L → ¬ lu (e / 2) = 0 → ck e = c → (S t).2.2.2 e = 1) ∧
    (∀ m, d = m + 1 → ∃ b, b < 2 * L ∧ ¬ lu (b / 2) = 0 ∧ ck b = c ∧ (S t).2.2.1 c = nI (b / 2) ∧ (S t).2.1 c = nI (ck (gc_ot b)) ∧ (S t).2.2.2 b = 2 ∧ cv_W (2 * L) ck gc_ot (fun e => ¬ lu (e / 2) = 0) B m (ck (gc_ot b)) ∧ ∀ e, e < 2 * L → ¬ lu (e / 2) = 0 → ck e = c → cv_W (2 * L) ck gc_ot (fun e => ¬ lu (e / 2) = 0) B m (ck (gc_ot e)) → ck (gc_ot b) ≤ ck (gc_ot e)) := by
  have hN := H.1
  have hT := H.2.2.1
  have d8 := cv_dlt (sq_net H) hB hd
  have hid : ∀ g, g < N → sq_id (sq_D S g) = g := by
    intro g hg
    show ((S 0).1 (g * 10 + 5)).toNatClampNeg = g
    rw [((sq_I H 0).1 g hg).1, nI_clamp (by omega)]
  obtain ⟨z1, z2, z3, z4, z5⟩ := cv_settle (sq_net H) (sq_cA H) (sq_cI H) (sq_cC H) hid kl_ir kl_as hB hbest d (by omega) t (by omega) c hc hd
  have pt1 : ∀ e, sq_pt S t e = 1 → (S t).2.2.2 e = 1 := by
    intro e h
    unfold sq_pt at h
    by_cases q : (S t).2.2.2 e = 1
    · exact q
    · rw [if_neg q] at h
      split at h
      · exact absurd h (by decide)
      · exact absurd h (by decide)
  have pt2 : ∀ e, sq_pt S t e = 2 → (S t).2.2.2 e = 2 := by
    intro e h
    unfold sq_pt at h
    by_cases q : (S t).2.2.2 e = 1
    · rw [if_pos q] at h; exact absurd h (by decide)
    · rw [if_neg q] at h
      by_cases r : (S t).2.2.2 e = 2
      · exact r
      · rw [if_neg r] at h; exact absurd h (by decide)
  obtain ⟨⟨s, hs, v6⟩, ⟨g, hg, v5⟩, v7, _⟩ := (sq_I H t).2.1 c hc
  refine ⟨by omega, ?_, ?_, fun e he hu hec hf => pt1 e (z3 e he hu hec hf), fun h0 => ?_, fun m hm => ?_⟩
  · have a : (S t).1 ((8 + c) * 10 + 5) = sq_kv S t c 5 := rfl
    have b : sq_D S B 5 = (S 0).1 (B * 10 + 5) := rfl
    rw [a, z1, b]; exact ((sq_I H 0).1 B hB).1
  · unfold sq_sv at z2
    rw [v6, nI_clamp (by omega)] at z2
    rw [v6, z2]
  · obtain ⟨y1, y2⟩ := z4 h0
    refine ⟨?_, fun e he hu hec => pt1 e (y2 e he hu hec)⟩
    unfold sq_pa at y1
    by_cases q : (S t).2.1 c = -1
    · exact q
    · rw [if_neg q] at y1; exact absurd y1 (Option.some_ne_none _)
  · obtain ⟨b, hb, hbu, hbc, hpl, hpa, hpt, hw, hmin⟩ := z5 m hm
    refine ⟨b, hb, hbu, hbc, hpl, ?_, pt2 b hpt, hw, hmin⟩
    obtain ⟨t', rfl⟩ : ∃ t', t = t' + 1 := ⟨t - 1, by omega⟩
    unfold sq_pa at hpa
    have hb8 := (H.2.2.2.1 _ (gc_otlt hb)).1
    rcases sq_pa2 H t' hc with z | ⟨q, hq, z⟩
    · rw [if_pos z] at hpa; exact absurd hpa.symm (Option.some_ne_none _)
    · rw [if_neg (by rw [z]; exact gc_en_ne (by omega)), z, nI_clamp (by omega)] at hpa
      rw [z, Option.some.inj hpa]
end
