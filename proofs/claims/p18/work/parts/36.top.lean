/-! the law's loops over clocks, and the whole -/
section
variable {N L T : Nat} {seed : Int32} {lu ec ed dr md : Nat → Int32} {ti ms : Nat → Int64} {ck : Nat → Nat} {E0 E1 U A : Nat} {S : Nat → (Nat → Int32) × (Nat → Int32) × (Nat → Int32) × (Nat → Int32)}
def gf_cand (L : Nat) (lu : Nat → Int32) (ck : Nat → Nat) (g c m x : Nat) : Prop := (∃ e, e < 2 * L ∧ ¬ lu (e / 2) = 0 ∧ ck e = c ∧ ck (gc_ot e) = x) ∧ cv_W (2 * L) ck gc_ot (fun e => ¬ lu (e / 2) = 0) g m x
theorem l_933 {post : Int32 → Prop} {LS : Nat} {xs : Nat → Int32} {J : _} {kc ks t c b k g m : Nat} {B : Int} (hLS : LS ≤ 260) (hk : k ≤ 100000) (H : gf_H N L T seed lu ec ed dr ck E0 E1 U A S) (hc : c < N) (hg : g < N) (hd : cv_d (2 * L) ck gc_ot (fun e => ¬ lu (e / 2) = 0) g c (m + 1)) (hb : b < 2 * L) (hbc : ck b = c) (hu : ¬ lu (b / 2) = 0) (hpl : (S t).2.2.1 c = nI (b / 2)) (hpa : (S t).2.1 c = nI (ck (gc_ot b))) (h2 : (S t).2.2.2 b = 2) (h1 : (S t).2.2.2 (gc_ot b) = 1) (hw : cv_W (2 * L) ck gc_ot (fun e => ¬ lu (e / 2) = 0) g m (ck (gc_ot b))) (hmin : ∀ e, e < 2 * L → ¬ lu (e / 2) = 0 → ck e = c → cv_W (2 * L) ck gc_ot (fun e => ¬ lu (e / 2) = 0) g m (ck (gc_ot e)) → ck (gc_ot b) ≤ ck (gc_ot e)) (h0 : 2 ^ 45 ≤ B) (hB : B ≤ 2 ^ 55) (HA : gt_A N B ti ms)
    (hJ : gf_J N L T lu ec ed dr S B t k c J) : ∀ d i bo, i + d = N → (bo = none → ∀ x, x < i → ¬ gf_cand L lu ck g c m x) → (∀ p, bo = some p → p < N ∧ gf_cand L lu ck g c m p ∧ ∀ x, x < p → ¬ gf_cand L lu ck g c m x) → wL_law_933 post LS xs J (nI N) seed (lN E0) (lN E1) (nI L) (nI U) (nI k) (lN A) (nI c) (nI g) (nI (m + 1)) kc ks (nI N) (nI 16) (nI T) (nI L) (S t).1 dr ti (S t).2.1 (S t).2.2.1 ms md lu ec (S t).2.2.2 ed (d + 1) (gc_en bo) (nI i)
  | 0, i, bo, hi, n0, n1 => by
    have hN := H.1.2.1
    have hp := (H.1.2.2.2.2.1 _ (gc_otlt hb)).1
    have cp : gf_cand L lu ck g c m (ck (gc_ot b)) := ⟨⟨b, hb, hu, hbc, rfl⟩, hw⟩
    have e : gc_en bo = nI (ck (gc_ot b)) := by
      cases bo with
      | none => exact absurd cp (n0 rfl _ (by omega))
      | some p =>
        obtain ⟨_, ⟨⟨e, he, he2, he3, he4⟩, pw⟩, pm⟩ := n1 p rfl
        have a1 : ck (gc_ot b) ≤ p := by
          rw [← he4]
          exact hmin e he he2 he3 (by rw [he4]; exact pw)
        have a2 : ¬ ck (gc_ot b) < p := fun z => pm _ z cp
        show nI p = nI (ck (gc_ot b))
        rw [show p = ck (gc_ot b) by omega]
    have l := l_1006 (md := md) (post := post) (LS := LS) (xs := xs) (kc := kc) (ks := ks) hLS hk H hb hbc hu hpl h2 h1 h0 hB HA hJ L 0 (by omega)
    rw [if_neg (by omega)] at l
    rw [e]
    exact br_t (nI_le (by omega) (by omega)) (x_getParent hN hc (br_t hpa ⟨_, l⟩))
  | d + 1, i, some p, hi, n0, n1 => br_f (nI_ge (by omega) (by have := H.1.2.1; omega)) (br_t (nI_pos' (by have := (n1 p rfl).1; have := H.1.2.1; omega)) (nm_r (nI_1 i) (l_933 hLS hk H hc hg hd hb hbc hu hpl hpa h2 h1 hw hmin h0 hB HA hJ d (i + 1) (some p) (by omega) (fun z => absurd z (Option.some_ne_none p)) n1)))
  | d + 1, i, none, hi, n0, n1 => by
    have hN := H.1.2.1
    have hA := H.2.2.2.1
    have next0 : ¬ gf_cand L lu ck g c m i → wL_law_933 post LS xs J (nI N) seed (lN E0) (lN E1) (nI L) (nI U) (nI k) (lN A) (nI c) (nI g) (nI (m + 1)) kc ks (nI N) (nI 16) (nI T) (nI L) (S t).1 dr ti (S t).2.1 (S t).2.2.1 ms md lu ec (S t).2.2.2 ed (d + 1) (gc_en none) (nI (i + 1)) := fun nc =>
      l_933 hLS hk H hc hg hd hb hbc hu hpl hpa h2 h1 hw hmin h0 hB HA hJ d (i + 1) none (by omega) (fun _ x hx => by
        rcases (by omega : x < i ∨ x = i) with q | q
        · exact n0 rfl x q
        · rw [q]; exact nc) (fun p z => absurd z.symm (Option.some_ne_none p))
    have next1 : gf_cand L lu ck g c m i → wL_law_933 post LS xs J (nI N) seed (lN E0) (lN E1) (nI L) (nI U) (nI k) (lN A) (nI c) (nI g) (nI (m + 1)) kc ks (nI N) (nI 16) (nI T) (nI L) (S t).1 dr ti (S t).2.1 (S t).2.2.1 ms md lu ec (S t).2.2.2 ed (d + 1) (gc_en (some i)) (nI (i + 1)) := fun yc =>
      l_933 hLS hk H hc hg hd hb hbc hu hpl hpa h2 h1 hw hmin h0 hB HA hJ d (i + 1) (some i) (by omega) (fun z => absurd z (Option.some_ne_none i)) (fun p z => by
        obtain rfl := Option.some.inj z
        exact ⟨by omega, yc, fun x hx => n0 rfl x hx⟩)
    refine br_f (nI_ge (by omega) (by omega)) (br_f (by decide) (l_nb hA (by omega) ?_))
    have tb : (A / 2 ^ (8 * c) % 256).testBit i = true ↔ i < 8 ∧ A.testBit (8 * c + i) = true := by
      rw [show (256 : Nat) = 2 ^ 8 from rfl, Nat.testBit_mod_two_pow, Nat.testBit_div_two_pow, Nat.add_comm i, Bool.and_eq_true, decide_eq_true_eq]
    have hlt : A / 2 ^ (8 * c) % 256 < 2 ^ 31 := by omega
    by_cases q : (A / 2 ^ (8 * c) % 256).testBit i = true
    · obtain ⟨_, qa⟩ := tb.mp q
      obtain ⟨e, he, heu, he1, he2⟩ := (H.2.2.2.2 c i (by omega) (by omega)).mp qa
      obtain ⟨_, o2, o3, o4⟩ := sq_net H.2.1 e he
      have wi : cv_W (2 * L) ck gc_ot (fun e => ¬ lu (e / 2) = 0) g (m + 2) i := ⟨gc_ot e, o2, o4 heu, he2, by rw [o3, he1]; exact hd.1⟩
      obtain ⟨d', _, hd'⟩ := cv_hasd (cv_rev (sq_net H.2.1) _ _ wi)
      have ddn := cv_dlt (sq_net H.2.1) (show i < N by omega) hd'
      have hm7 := cv_dlt (sq_net H.2.1) hg hd
      refine br_f (fun z => by rw [(bm_0 hlt (by omega)).mp z] at q; exact absurd q (by decide)) (gf_dist H (by omega) hg hd' (br_c (fun y => nm_r (nI_1 i) (next1 ?_)) (fun y => nm_r (nI_1 i) (next0 ?_))))
      · rw [nI_pred] at y
        have := (nI_eq (by omega) (by omega)).mp y
        subst this
        exact ⟨⟨e, he, heu, he1, he2⟩, cv_rev (sq_net H.2.1) _ _ hd'.1⟩
      · rintro ⟨_, wm⟩
        apply y
        rw [nI_pred]
        have a1 : d' ≤ m := by
          apply Classical.byContradiction
          intro z
          exact hd'.2 m (by omega) (cv_rev (sq_net H.2.1) _ _ wm)
        have a2 : m ≤ d' := by
          apply Classical.byContradiction
          intro z
          exact hd.2 (d' + 1) (by omega) ⟨e, he, heu, he1, by rw [he2]; exact cv_rev (sq_net H.2.1) _ _ hd'.1⟩
        rw [show d' = m by omega]
    · refine br_t ((bm_0 hlt (by omega)).mpr (by simpa using q)) (nm_r (nI_1 i) (next0 ?_))
      rintro ⟨⟨e, he, heu, he1, he2⟩, _⟩
      exact q (tb.mpr ⟨by omega, (H.2.2.2.2 c i (by omega) (by omega)).mpr ⟨e, he, heu, he1, he2⟩⟩)
/-- one clock: what it shows -/
theorem l_one {post : Int32 → Prop} {LS : Nat} {xs : Nat → Int32} {J : _} {kc ks t c k g : Nat} {x17 : Int32} {B : Int} (hLS : LS ≤ 260) (hk : k ≤ 100000) (ht : 44 ≤ t) (H : gf_H N L T seed lu ec ed dr ck E0 E1 U A S) (hc : c < N) (hg : gf_B N L lu ck S c g) (h0 : 2 ^ 45 ≤ B) (hB : B ≤ 2 ^ 55) (HA : gt_A N B ti ms)
    (hJ : gf_J N L T lu ec ed dr S B t k c J) : wL_law_751 post LS xs J (nI N) seed (lN E0) (lN E1) (nI L) (nI U) (nI k) (lN A) (nI c) x17 kc ks (nI N) (nI 16) (nI T) (nI L) (S t).1 dr ti (S t).2.1 (S t).2.2.1 ms md lu ec (S t).2.2.2 ed 1 (nI g) (nI N) := by
  have hN := H.1.2.1
  have hbest := gf_best H hg
  obtain ⟨hgN, ⟨j, hj⟩, _⟩ := hg
  obtain ⟨d, _, hd⟩ := cv_hasd hj
  have hd' := gf_dsym H hd
  obtain ⟨d7, s5, s6, s3, s4, s7⟩ := sq_settle H.2.1 hgN hbest ht hc hd'
  refine br_t (nI_le (by omega) (by omega)) (gf_dist H hc hgN hd (x_getGM hN hc (br_t s5 (x_getSteps hN hc (br_t s6 ?_)))))
  by_cases q : c = g
  · subst q
    have dz : d = 0 := by
      apply Classical.byContradiction
      intro z
      exact hd.2 0 (by omega) rfl
    obtain ⟨y1, y2⟩ := s4 dz
    exact br_t rfl (x_getParent hN hc (br_t y1 ⟨_, l_856 H hc y2 (hJ t k ti ms md (Or.inl rfl) (by omega) (gt_mono (by omega) HA)) L 0 (by omega)⟩))
  · obtain ⟨m, rfl⟩ : ∃ m, d = m + 1 := by
      refine ⟨d - 1, ?_⟩
      have : d ≠ 0 := fun z => by
        rw [z] at hd
        have w : g = c := hd.1
        exact q w.symm
      omega
    obtain ⟨b, hb, hu, hbc, hpl, hpa, h2, hw, hmin⟩ := s7 m rfl
    obtain ⟨o1, o2, o3, o4⟩ := sq_net H.2.1 b hb
    have hp := (sq_net H.2.1 _ o2).1
    have hdp : cv_d (2 * L) ck gc_ot (fun e => ¬ lu (e / 2) = 0) g (ck (gc_ot b)) m := ⟨hw, fun i hi hwi => hd'.2 (i + 1) (by omega) ⟨b, hb, hu, hbc, hwi⟩⟩
    have h1 := (sq_settle H.2.1 hgN hbest ht hp hdp).2.2.2.1 (gc_ot b) o2 (o4 hu) rfl (fun i hi => by rw [o3, hbc]; exact hd'.2 i (by omega))
    exact br_f (fun z => q ((nI_eq (by omega) (by omega)).mp z)) ⟨_, l_933 hLS hk H hc hgN hd' hb hbc hu hpl hpa h2 h1 hw hmin h0 hB HA hJ N 0 none (by omega) (fun _ x hx => absurd hx (by omega)) (fun p z => absurd z.symm (Option.some_ne_none p))⟩
/-- the best of what a clock reaches -/
theorem l_751 {post : Int32 → Prop} {LS : Nat} {xs : Nat → Int32} {J : _} {kc ks t c k : Nat} {B : Int} (hLS : LS ≤ 260) (hk : k ≤ 100000) (ht : 44 ≤ t) (H : gf_H N L T seed lu ec ed dr ck E0 E1 U A S) (hc : c < N) (h0 : 2 ^ 45 ≤ B) (hB : B ≤ 2 ^ 55) (HA : gt_A N B ti ms)
    (hJ : gf_J N L T lu ec ed dr S B t k c J) : ∀ d i bo, i + d = N → (bo = none → ∀ x, x < i → ¬ (gw_rc A N c N).testBit x = true) → (∀ b, bo = some b → b < N ∧ (gw_rc A N c N).testBit b = true ∧ ∀ x, x < i → (gw_rc A N c N).testBit x = true → ¬ kl_r (sq_D S x) (sq_D S b)) → wL_law_751 post LS xs J (nI N) seed (lN E0) (lN E1) (nI L) (nI U) (nI k) (lN A) (nI c) (nI (gw_rc A N c N)) kc ks (nI N) (nI 16) (nI T) (nI L) (S t).1 dr ti (S t).2.1 (S t).2.2.1 ms md lu ec (S t).2.2.2 ed (d + 1) (gc_en bo) (nI i)
  | 0, i, none, hi, n0, n1 => absurd ((gf_in H hc c).mpr ⟨0, rfl⟩) (n0 rfl c (by omega))
  | 0, i, some b, hi, n0, n1 => by
    obtain rfl : i = N := by omega
    obtain ⟨hb, hr, hm⟩ := n1 b rfl
    exact l_one hLS hk ht H hc ⟨hb, (gf_in H hc b).mp hr, fun x hx hw => hm x hx ((gf_in H hc x).mpr hw)⟩ h0 hB HA hJ
  | d + 1, i, bo, hi, n0, n1 => by
    have hN := H.1.2.1
    have hlt : gw_rc A N c N < 2 ^ 31 := by have := gw_rc_lt (A := A) (n := N) (c := c) (by omega) N; omega
    have ih := l_751 (post := post) (LS := LS) (xs := xs) (kc := kc) (ks := ks) hLS hk ht H hc h0 hB HA hJ d (i + 1)
    refine br_f (nI_ge (by omega) (by omega)) ?_
    by_cases q : (gw_rc A N c N).testBit i = true
    · refine br_f (fun z => by rw [(bm_0 hlt (by omega)).mp z] at q; exact absurd q (by decide)) ?_
      cases bo with
      | none =>
        refine br_t (by decide) (nm_r (nI_1 i) (ih (some i) (by omega) (fun z => absurd z (Option.some_ne_none i)) (fun b z => ?_)))
        obtain rfl := Option.some.inj z
        refine ⟨by omega, q, fun x hx hr => ?_⟩
        by_cases w : x = i
        · subst w; exact kl_ir _
        · exact absurd hr (n0 rfl x (by omega))
      | some b =>
        obtain ⟨hb, hr, hm⟩ := n1 b rfl
        refine br_f (nI_pos (by omega)) (x_cmpD hN (by omega) hb (br_c (fun y => ?_) (fun y => ?_)))
        · have y' := (gf_cmp H (t := t) (by omega) hb).mp y
          refine nm_r (nI_1 i) (ih (some i) (by omega) (fun z => absurd z (Option.some_ne_none i)) (fun b' z => ?_))
          obtain rfl := Option.some.inj z
          refine ⟨by omega, q, fun x hx hr' => ?_⟩
          by_cases w : x = i
          · subst w; exact kl_ir _
          · exact fun z' => hm x (by omega) hr' (cq_trans 6 0 z' y')
        · refine nm_r (nI_1 i) (ih (some b) (by omega) (fun z => absurd z (Option.some_ne_none b)) (fun b' z => ?_))
          obtain rfl := Option.some.inj z
          refine ⟨hb, hr, fun x hx hr' => ?_⟩
          by_cases w : x = i
          · subst w; exact fun z' => y ((gf_cmp H (t := t) (by omega) hb).mpr z')
          · exact hm x (by omega) hr'
    · refine br_t ((bm_0 hlt (by omega)).mpr (by simpa using q)) (nm_r (nI_1 i) (ih bo (by omega) (fun z x hx => ?_) (fun b z => ?_)))
      · rcases (by omega : x < i ∨ x = i) with w | w
        · exact n0 z x w
        · rw [w]; exact q
      · obtain ⟨hb, hr, hm⟩ := n1 b z
        refine ⟨hb, hr, fun x hx hr' => ?_⟩
        rcases (by omega : x < i ∨ x = i) with w | w
        · exact hm x w hr'
        · rw [w] at hr'; exact absurd hr' q
/-- all clocks -/
theorem l_729 {post : Int32 → Prop} {LS : Nat} {xs : Nat → Int32} {kc ks : Nat} (hp : post 1) (hLS : LS ≤ 260) (H : gf_H N L T seed lu ec ed dr ck E0 E1 U A S) : ∀ d c t k ti ms md, c + d = N → 44 ≤ t → k ≤ 1000 + c → gt_A N (2 ^ 47 + 2147483648 * c) ti ms → wL_law_729 post LS xs (nI N) seed (lN E0) (lN E1) (nI L) (nI U) (lN A) kc ks (d + 1) (nI k) (nI c) (nI N) (nI 16) (nI T) (nI L) (S t).1 dr ti (S t).2.1 (S t).2.2.1 ms md lu ec (S t).2.2.2 ed
  | 0, c, t, k, ti, ms, md, hc, ht, hk, HA => br_t (nI_le (by omega) (by have := H.1.2.1; omega)) hp
  | d + 1, c, t, k, ti, ms, md, hc, ht, hk, HA => by
    have hN := H.1.2.1
    refine br_f (nI_ge (by omega) (by omega)) (l_reach H.2.2.2.1 (by omega) hN ⟨_, l_751 (B := 2 ^ 47 + 2147483648 * c) hLS (by omega) ht H (by omega) (by omega) (by omega) HA ?_ N 0 none (by omega) (fun _ x hx => absurd hx (by omega)) (fun b z => absurd z.symm (Option.some_ne_none b))⟩)
    intro t' k' ti' ms' md' h1 h2 h3
    exact l_729 hp hLS H d (c + 1) t' k' ti' ms' md' (by omega) (by omega) (by omega) (gt_mono (by omega) h3)
end
