/-! settling, over an abstract network: clocks below n, ends below E, walks over ends that are up -/
def cv_Net (n E : Nat) (ck ot : Nat → Nat) (up : Nat → Prop) : Prop := ∀ e, e < E → ck e < n ∧ ot e < E ∧ ot (ot e) = e ∧ (up e → up (ot e))
/-- a walk of length j from g to c -/
def cv_W (E : Nat) (ck ot : Nat → Nat) (up : Nat → Prop) (g : Nat) : Nat → Nat → Prop
  | 0, c => c = g
  | j + 1, c => ∃ e, e < E ∧ up e ∧ ck e = c ∧ cv_W E ck ot up g j (ck (ot e))
/-- a vector that some clock g in reach could have sent -/
def cv_S {K : Type} (n E : Nat) (ck ot : Nat → Nat) (up : Nat → Prop) (D : Nat → K) (c : Nat) (k : K) (s : Nat) : Prop := ∃ g j, g < n ∧ k = D g ∧ j ≤ s ∧ cv_W E ck ot up g j c
def cv_lx {K : Type} (lt : K → K → Prop) (k : K) (s d : Nat) (k' : K) (s' d' : Nat) : Prop := lt k k' ∨ (k = k' ∧ (s < s' ∨ (s = s' ∧ d < d')))
/-- listening -/
def cv_A {K : Type} (E : Nat) (ck ot : Nat → Nat) (up : Nat → Prop) (idk : K → Nat) (kv : Nat → Nat → K) (sv : Nat → Nat → Nat) (ok : Nat → Nat → Prop) (ks : Nat → Nat → K) (ss sd ag pt : Nat → Nat → Nat) : Prop :=
  ∀ t e, e < E → up e →
    ((pt t (ot e) = 1 ∧ sv t (ck (ot e)) ≤ 6 ∧ idk (kv t (ck (ot e))) ≠ ck e) → ok (t + 1) e ∧ ks (t + 1) e = kv t (ck (ot e)) ∧ ss (t + 1) e = sv t (ck (ot e)) ∧ sd (t + 1) e = ck (ot e) ∧ ag (t + 1) e = 0) ∧
    (¬ (pt t (ot e) = 1 ∧ sv t (ck (ot e)) ≤ 6 ∧ idk (kv t (ck (ot e))) ≠ ck e) → ok (t + 1) e → ok t e ∧ ks (t + 1) e = ks t e ∧ ss (t + 1) e = ss t e ∧ sd (t + 1) e = sd t e ∧ ag (t + 1) e = ag t e + 1)
/-- what holds of every valid store -/
def cv_I {K : Type} (E T : Nat) (ck ot : Nat → Nat) (up : Nat → Prop) (idk : K → Nat) (ok : Nat → Nat → Prop) (ks : Nat → Nat → K) (ss sd ag : Nat → Nat → Nat) : Prop :=
  ∀ t e, e < E → up e → ok t e → ag t e < T ∧ ss t e ≤ 6 ∧ idk (ks t e) ≠ ck e ∧ sd t e = ck (ot e)
/-- choosing -/
def cv_C {K : Type} (n E : Nat) (ck ot : Nat → Nat) (up : Nat → Prop) (lt : K → K → Prop) (D : Nat → K) (kv : Nat → Nat → K) (sv : Nat → Nat → Nat) (ok : Nat → Nat → Prop) (ks : Nat → Nat → K) (ss sd pt : Nat → Nat → Nat) (pa : Nat → Nat → Option Nat) (pl : Nat → Nat → Nat → Prop) : Prop :=
  ∀ t c, c < n →
    (kv (t + 1) c = D c ∧ sv (t + 1) c = 0 ∧ pa (t + 1) c = none ∧ (∀ e, e < E → up e → ck e = c → pt (t + 1) e = 1) ∧
      ∀ e, e < E → up e → ck e = c → ok (t + 1) e → ∃ b, b < E ∧ up b ∧ ck b = c ∧ ok (t + 1) b ∧ lt (D c) (ks (t + 1) b) ∧ ¬ cv_lx lt (ks (t + 1) e) (ss (t + 1) e) (sd (t + 1) e) (ks (t + 1) b) (ss (t + 1) b) (sd (t + 1) b)) ∨
    (∃ b, b < E ∧ up b ∧ ck b = c ∧ ok (t + 1) b ∧ ¬ lt (D c) (ks (t + 1) b) ∧
      (∀ e, e < E → up e → ck e = c → ok (t + 1) e → ¬ cv_lx lt (ks (t + 1) e) (ss (t + 1) e) (sd (t + 1) e) (ks (t + 1) b) (ss (t + 1) b) (sd (t + 1) b)) ∧
      kv (t + 1) c = ks (t + 1) b ∧ sv (t + 1) c = ss (t + 1) b + 1 ∧ pa (t + 1) c = some (sd (t + 1) b) ∧ pl (t + 1) c b ∧ pt (t + 1) b = 2 ∧
      ∀ e, e < E → up e → ck e = c → e ≠ b → pt (t + 1) e = 1 ∨ (ok (t + 1) e ∧ cv_lx lt (ks (t + 1) e) (ss (t + 1) e) (sd (t + 1) e) (kv (t + 1) c) (sv (t + 1) c) c))
section
variable {K : Type} {n E T : Nat} {ck ot : Nat → Nat} {up : Nat → Prop} {lt : K → K → Prop} {idk : K → Nat} {D : Nat → K} {kv : Nat → Nat → K} {sv : Nat → Nat → Nat} {ok : Nat → Nat → Prop} {ks : Nat → Nat → K} {ss sd ag pt : Nat → Nat → Nat} {pa : Nat → Nat → Option Nat} {pl : Nat → Nat → Nat → Prop}
/-- unsound vectors have at least j steps, unsound stores too -/
def cv_Uv (n E : Nat) (ck ot : Nat → Nat) (up : Nat → Prop) (D : Nat → K) (kv : Nat → Nat → K) (sv : Nat → Nat → Nat) (j t : Nat) : Prop := ∀ c, c < n → ¬ cv_S n E ck ot up D c (kv t c) (sv t c) → j ≤ sv t c
def cv_Us (n E : Nat) (ck ot : Nat → Nat) (up : Nat → Prop) (D : Nat → K) (ok : Nat → Nat → Prop) (ks : Nat → Nat → K) (ss : Nat → Nat → Nat) (j t : Nat) : Prop := ∀ e, e < E → up e → ok t e → ¬ cv_S n E ck ot up D (ck (ot e)) (ks t e) (ss t e) → j ≤ ss t e
theorem cv_S1 {c e s : Nat} {k : K} (hE : e < E) (hu : up e) (hc : ck e = c) (h : cv_S n E ck ot up D (ck (ot e)) k s) : cv_S n E ck ot up D c k (s + 1) := by
  obtain ⟨g, j, hg, hk, hj, hw⟩ := h
  exact ⟨g, j + 1, hg, hk, by omega, e, hE, hu, hc, hw⟩
theorem cv_S0 {c : Nat} (hc : c < n) : cv_S n E ck ot up D c (D c) 0 := ⟨c, 0, hc, rfl, Nat.le_refl 0, rfl⟩
/-- one step: vectors out of stores -/
theorem cv_v1 {j t : Nat} (HC : cv_C n E ck ot up lt D kv sv ok ks ss sd pt pa pl) (hs : cv_Us n E ck ot up D ok ks ss j (t + 1)) : cv_Uv n E ck ot up D kv sv (j + 1) (t + 1) := by
  intro c hc hn
  rcases HC t c hc with ⟨h1, h2, _⟩ | ⟨b, hb, hu, hbc, hok, _, _, h1, h2, _⟩
  · rw [h1, h2] at hn
    exact absurd (cv_S0 hc) hn
  · rw [h1, h2] at hn
    have := hs b hb hu hok (fun z => hn (cv_S1 hb hu hbc z))
    omega
theorem cv_s1 {j t : Nat} (HN : cv_Net n E ck ot up) (HA : cv_A E ck ot up idk kv sv ok ks ss sd ag pt) (hv : cv_Uv n E ck ot up D kv sv j t) (hs : cv_Us n E ck ot up D ok ks ss j t) : cv_Us n E ck ot up D ok ks ss j (t + 1) := by
  intro e he hu hok hn
  obtain ⟨ha, hb⟩ := HA t e he hu
  by_cases q : pt t (ot e) = 1 ∧ sv t (ck (ot e)) ≤ 6 ∧ idk (kv t (ck (ot e))) ≠ ck e
  · obtain ⟨_, h2, h3, _⟩ := ha q
    rw [h2, h3] at hn
    rw [h3]
    exact hv _ (HN _ (HN e he).2.1).1 hn
  · obtain ⟨h1, h2, h3, _⟩ := hb q hok
    rw [h2, h3] at hn
    rw [h3]
    exact hs e he hu h1 hn
theorem cv_keep {j t : Nat} (HN : cv_Net n E ck ot up) (HA : cv_A E ck ot up idk kv sv ok ks ss sd ag pt) (HC : cv_C n E ck ot up lt D kv sv ok ks ss sd pt pa pl) (hv : cv_Uv n E ck ot up D kv sv j t) (hs : cv_Us n E ck ot up D ok ks ss j t) : ∀ d, cv_Us n E ck ot up D ok ks ss j (t + d) ∧ cv_Uv n E ck ot up D kv sv j (t + d) ∧ cv_Uv n E ck ot up D kv sv (j + 1) (t + d + 1)
  | 0 => ⟨hs, hv, cv_v1 HC (cv_s1 HN HA hv hs)⟩
  | d + 1 => by
    obtain ⟨h1, h2, h3⟩ := cv_keep HN HA HC hv hs d
    have h4 : cv_Us n E ck ot up D ok ks ss j (t + d + 1) := cv_s1 HN HA h2 h1
    have h5 : cv_Uv n E ck ot up D kv sv j (t + d + 1) := fun c hc hn => Nat.le_of_succ_le (h3 c hc hn)
    exact ⟨h4, h5, cv_v1 HC (cv_s1 HN HA h5 h4)⟩
/-- stores younger than t - t0 have at least j + 1 steps where they are unsound -/
theorem cv_young {j t0 : Nat} (HN : cv_Net n E ck ot up) (HA : cv_A E ck ot up idk kv sv ok ks ss sd ag pt) (hv : ∀ d, cv_Uv n E ck ot up D kv sv j (t0 + d)) : ∀ d e, e < E → up e → ok (t0 + d) e → d ≤ ag (t0 + d) e ∨ (¬ cv_S n E ck ot up D (ck (ot e)) (ks (t0 + d) e) (ss (t0 + d) e) → j ≤ ss (t0 + d) e)
  | 0, _, _, _, _ => Or.inl (Nat.zero_le _)
  | d + 1, e, he, hu, hok => by
    obtain ⟨ha, hb⟩ := HA (t0 + d) e he hu
    by_cases q : pt (t0 + d) (ot e) = 1 ∧ sv (t0 + d) (ck (ot e)) ≤ 6 ∧ idk (kv (t0 + d) (ck (ot e))) ≠ ck e
    · obtain ⟨_, h2, h3, _⟩ := ha q
      refine Or.inr (fun hn => ?_)
      have e1 : t0 + (d + 1) = t0 + d + 1 := rfl
      rw [e1] at hn ⊢
      rw [h2, h3] at hn
      rw [h3]
      exact hv d _ (HN _ (HN e he).2.1).1 hn
    · obtain ⟨h1, h2, h3, _, h5⟩ := hb q hok
      have e1 : t0 + (d + 1) = t0 + d + 1 := rfl
      rcases cv_young HN HA hv d e he hu h1 with h | h
      · refine Or.inl ?_
        rw [e1, h5]
        omega
      · refine Or.inr ?_
        rw [e1, h2, h3]
        exact h
theorem cv_level {j t : Nat} (HN : cv_Net n E ck ot up) (HA : cv_A E ck ot up idk kv sv ok ks ss sd ag pt) (HI : cv_I E T ck ot up idk ok ks ss sd ag) (HC : cv_C n E ck ot up lt D kv sv ok ks ss sd pt pa pl) (hv : cv_Uv n E ck ot up D kv sv j t) (hs : cv_Us n E ck ot up D ok ks ss j t) : cv_Uv n E ck ot up D kv sv (j + 1) (t + 1 + T) ∧ cv_Us n E ck ot up D ok ks ss (j + 1) (t + 1 + T) := by
  have K1 := cv_keep HN HA HC hv hs
  have hv1 : ∀ d, cv_Uv n E ck ot up D kv sv (j + 1) (t + 1 + d) := by
    intro d
    have := (K1 d).2.2
    rw [show t + 1 + d = t + d + 1 by omega]
    exact this
  refine ⟨hv1 T, fun e he hu hok hn => ?_⟩
  rcases cv_young HN HA hv1 T e he hu hok with h | h
  · have := (HI _ e he hu hok).1
    omega
  · exact h hn
theorem cv_levels (HN : cv_Net n E ck ot up) (HA : cv_A E ck ot up idk kv sv ok ks ss sd ag pt) (HI : cv_I E T ck ot up idk ok ks ss sd ag) (HC : cv_C n E ck ot up lt D kv sv ok ks ss sd pt pa pl) : ∀ j, cv_Uv n E ck ot up D kv sv j (j * (T + 1)) ∧ cv_Us n E ck ot up D ok ks ss j (j * (T + 1))
  | 0 => ⟨fun _ _ _ => Nat.zero_le _, fun _ _ _ _ _ => Nat.zero_le _⟩
  | j + 1 => by
    obtain ⟨h1, h2⟩ := cv_levels HN HA HI HC j
    have := cv_level HN HA HI HC h1 h2
    rw [show j * (T + 1) + 1 + T = (j + 1) * (T + 1) by rw [Nat.succ_mul]; omega] at this
    exact this
/-- from 7 (T + 1) on every store is sound -/
theorem cv_sound (HN : cv_Net n E ck ot up) (HA : cv_A E ck ot up idk kv sv ok ks ss sd ag pt) (HI : cv_I E T ck ot up idk ok ks ss sd ag) (HC : cv_C n E ck ot up lt D kv sv ok ks ss sd pt pa pl) {t : Nat} (ht : 7 * (T + 1) ≤ t) {e : Nat} (he : e < E) (hu : up e) (hok : ok t e) : cv_S n E ck ot up D (ck (ot e)) (ks t e) (ss t e) := by
  obtain ⟨h1, h2⟩ := cv_levels HN HA HI HC 7
  have h3 := (cv_keep HN HA HC h1 h2 (t - 7 * (T + 1))).1
  rw [show 7 * (T + 1) + (t - 7 * (T + 1)) = t by omega] at h3
  apply Classical.byContradiction
  intro hn
  have a := h3 e he hu hok hn
  have b := (HI t e he hu hok).2.1
  omega
end
section
variable {E : Nat} {ck ot : Nat → Nat} {up : Nat → Prop}
theorem cv_cons {n : Nat} (HN : cv_Net n E ck ot up) {g e : Nat} (he : e < E) (hu : up e) (hg : ck (ot e) = g) : ∀ j c, cv_W E ck ot up (ck e) j c → cv_W E ck ot up g (j + 1) c
  | 0, c, h => ⟨e, he, hu, h.symm, hg⟩
  | j + 1, c, h => by
    obtain ⟨f, hf, hfu, hfc, hw⟩ := h
    exact ⟨f, hf, hfu, hfc, cv_cons HN he hu hg j _ hw⟩
theorem cv_rev {n : Nat} (HN : cv_Net n E ck ot up) {g : Nat} : ∀ j c, cv_W E ck ot up g j c → cv_W E ck ot up c j g
  | 0, c, h => h.symm
  | j + 1, c, h => by
    obtain ⟨f, hf, hfu, hfc, hw⟩ := h
    obtain ⟨_, h2, h3, h4⟩ := HN f hf
    have r := cv_rev HN j _ hw
    have k := cv_cons HN (g := ck f) h2 (h4 hfu) (by rw [h3]) j g r
    rw [hfc] at k
    exact k
theorem cv_trans {g c i : Nat} (h : cv_W E ck ot up g i c) : ∀ k b, cv_W E ck ot up c k b → cv_W E ck ot up g (i + k) b
  | 0, b, hb => by
    have hb' : b = c := hb
    rw [hb']
    exact h
  | k + 1, b, hb => by
    obtain ⟨f, hf, hfu, hfc, hw⟩ := hb
    exact ⟨f, hf, hfu, hfc, cv_trans h k _ hw⟩
end
/-- d is the distance of c from B -/
def cv_d (E : Nat) (ck ot : Nat → Nat) (up : Nat → Prop) (B c d : Nat) : Prop := cv_W E ck ot up B d c ∧ ∀ i, i < d → ¬ cv_W E ck ot up B i c
section
variable {K : Type} {n E T : Nat} {ck ot : Nat → Nat} {up : Nat → Prop} {lt : K → K → Prop} {idk : K → Nat} {D : Nat → K} {kv : Nat → Nat → K} {sv : Nat → Nat → Nat} {ok : Nat → Nat → Prop} {ks : Nat → Nat → K} {ss sd ag pt : Nat → Nat → Nat} {pa : Nat → Nat → Option Nat} {pl : Nat → Nat → Nat → Prop}
/-- what a settled clock shows -/
def cv_Z (E : Nat) (ck ot : Nat → Nat) (up : Nat → Prop) (D : Nat → K) (kv : Nat → Nat → K) (sv pt : Nat → Nat → Nat) (pa : Nat → Nat → Option Nat) (pl : Nat → Nat → Nat → Prop) (B t c d : Nat) : Prop :=
  kv t c = D B ∧ sv t c = d ∧ (∀ e, e < E → up e → ck e = c → (∀ i, i ≤ d → ¬ cv_W E ck ot up B i (ck (ot e))) → pt t e = 1) ∧
  (d = 0 → pa t c = none ∧ ∀ e, e < E → up e → ck e = c → pt t e = 1) ∧
  (∀ m, d = m + 1 → ∃ b, b < E ∧ up b ∧ ck b = c ∧ pl t c b ∧ pa t c = some (ck (ot b)) ∧ pt t b = 2 ∧ cv_W E ck ot up B m (ck (ot b)) ∧ ∀ e, e < E → up e → ck e = c → cv_W E ck ot up B m (ck (ot e)) → ck (ot b) ≤ ck (ot e))
theorem cv_settle (HN : cv_Net n E ck ot up) (HA : cv_A E ck ot up idk kv sv ok ks ss sd ag pt) (HI : cv_I E T ck ot up idk ok ks ss sd ag) (HC : cv_C n E ck ot up lt D kv sv ok ks ss sd pt pa pl)
    (hid : ∀ g, g < n → idk (D g) = g) (hir : ∀ k, ¬ lt k k) (has : ∀ k k', lt k k' → ¬ lt k' k) {B : Nat} (hB : B < n)
    (hbest : ∀ g, g < n → (∃ j, cv_W E ck ot up g j B) → g ≠ B → lt (D B) (D g)) :
    ∀ d, d ≤ 7 → ∀ t, 7 * (T + 1) + 1 + d ≤ t → ∀ c, c < n → cv_d E ck ot up B c d → cv_Z E ck ot up D kv sv pt pa pl B t c d := by
  intro d
  induction d with
  | zero =>
    intro _ t ht c hc hd
    have hcB : c = B := hd.1
    subst hcB
    obtain ⟨t', rfl⟩ : ∃ t', t = t' + 1 := ⟨t - 1, by omega⟩
    rcases HC t' c hc with ⟨h1, h2, h3, h4, _⟩ | ⟨b, hb, hbu, hbc, hok, hnl, _⟩
    · exact ⟨h1, h2, fun e he hu hec _ => h4 e he hu hec, fun _ => ⟨h3, h4⟩, fun m hm => absurd hm (by omega)⟩
    · obtain ⟨g, j, hg, hk, hj, hw⟩ := cv_sound HN HA HI HC (t := t' + 1) (by omega) hb hbu hok
      have hne := (HI _ b hb hbu hok).2.2.1
      rw [hk, hid g hg, hbc] at hne
      rw [hk] at hnl
      exact absurd (hbest g hg ⟨j + 1, b, hb, hbu, hbc, hw⟩ hne) hnl
  | succ m ih =>
    intro hm7 t ht c hc hd
    obtain ⟨t', rfl⟩ : ∃ t', t = t' + 1 := ⟨t - 1, by omega⟩
    have IH := ih (by omega) t' (by omega)
    have hcB : c ≠ B := fun z => hd.2 0 (by omega) z
    have hrev : cv_W E ck ot up c (m + 1) B := cv_rev HN _ _ hd.1
    have hlo : ∀ e, e < E → up e → ck e = c → ∀ i, cv_W E ck ot up B i (ck (ot e)) → m ≤ i := by
      intro e he hu hec i hw
      apply Classical.byContradiction
      intro hlt
      exact hd.2 (i + 1) (by omega) ⟨e, he, hu, hec, hw⟩
    have hin : ∀ e, e < E → up e → ck e = c → ok (t' + 1) e → ∃ g j, g < n ∧ ks (t' + 1) e = D g ∧ j ≤ ss (t' + 1) e ∧ cv_W E ck ot up g j (ck (ot e)) ∧ (g ≠ B → lt (D B) (D g)) := by
      intro e he hu hec hok
      obtain ⟨g, j, hg, hk, hj, hw⟩ := cv_sound HN HA HI HC (t := t' + 1) (by omega) he hu hok
      exact ⟨g, j, hg, hk, hj, hw, fun hne => hbest g hg ⟨_, cv_trans (i := j + 1) (c := c) ⟨e, he, hu, hec, hw⟩ _ _ hrev⟩ hne⟩
    have hget : ∀ e, e < E → up e → ck e = c → cv_W E ck ot up B m (ck (ot e)) → ok (t' + 1) e ∧ ks (t' + 1) e = D B ∧ ss (t' + 1) e = m ∧ sd (t' + 1) e = ck (ot e) := by
      intro e he hu hec hw
      obtain ⟨_, h2, h3, h4⟩ := HN e he
      have hq : cv_d E ck ot up B (ck (ot e)) m := ⟨hw, fun i hi hwi => absurd (hlo e he hu hec i hwi) (by omega)⟩
      obtain ⟨z1, z2, z3, _⟩ := IH (ck (ot e)) (HN _ h2).1 hq
      have hp : pt t' (ot e) = 1 := by
        refine z3 (ot e) h2 (h4 hu) rfl (fun i hi => ?_)
        rw [h3, hec]
        exact hd.2 i (by omega)
      obtain ⟨k1, k2, k3, k4, _⟩ := (HA t' e he hu).1 ⟨hp, by rw [z2]; omega, by rw [z1, hid B hB, hec]; exact fun z => hcB z.symm⟩
      exact ⟨k1, by rw [k2, z1], by rw [k3, z2], k4⟩
    obtain ⟨e0, he0, hu0, hc0, hw0⟩ := hd.1
    obtain ⟨a1, a2, a3, a4⟩ := hget e0 he0 hu0 hc0 hw0
    have hcl : lt (D B) (D c) := hbest c hc ⟨_, hrev⟩ hcB
    rcases HC t' c hc with ⟨_, _, _, _, h5⟩ | ⟨b, hb, hbu, hbc, hok, hnl, hmin, h1, h2, h3, h3l, h4, h5⟩
    · obtain ⟨b, hb, hbu, hbc, hok, hl, hn⟩ := h5 e0 he0 hu0 hc0 a1
      obtain ⟨g, j, hg, hk, hj, hw, hgb⟩ := hin b hb hbu hbc hok
      by_cases q : g = B
      · rw [hk, q] at hl
        exact absurd hcl (has _ _ hl)
      · exact absurd (Or.inl (by rw [a2, hk]; exact hgb q)) hn
    · obtain ⟨g, j, hg, hk, hj, hw, hgb⟩ := hin b hb hbu hbc hok
      have hn0 := hmin e0 he0 hu0 hc0 a1
      have q : g = B := Classical.byContradiction (fun q => hn0 (Or.inl (by rw [a2, hk]; exact hgb q)))
      subst q
      have hjm : m ≤ j := hlo b hb hbu hbc j hw
      have hs : ss (t' + 1) b = m := by
        apply Classical.byContradiction
        intro hne
        exact hn0 (Or.inr ⟨by rw [a2, hk], Or.inl (by omega)⟩)
      have hj2 : j = m := by omega
      subst hj2
      have hsd : sd (t' + 1) b = ck (ot b) := (HI _ b hb hbu hok).2.2.2
      refine ⟨by rw [h1, hk], by rw [h2, hs], fun e he hu hec hfar => ?_, fun z => absurd z (by omega), fun m' hm' => ?_⟩
      · have heb : e ≠ b := fun z => hfar j (by omega) (by rw [z]; exact hw)
        rcases h5 e he hu hec heb with h | ⟨ho, hx⟩
        · exact h
        · exfalso
          obtain ⟨g', j', hg', hk', hj', hw', hgb'⟩ := hin e he hu hec ho
          rw [h1, hk, hk', h2, hs] at hx
          by_cases q : g' = g
          · subst q
            have hj3 : ¬ j' ≤ j + 1 := fun z => hfar j' z hw'
            rcases hx with hx | ⟨_, hx⟩
            · exact hir _ hx
            · omega
          · have hl := hgb' q
            rcases hx with hx | ⟨hx, _⟩
            · exact has _ _ hl hx
            · rw [hx] at hl
              exact hir _ hl
      · have em : m' = j := by omega
        subst em
        refine ⟨b, hb, hbu, hbc, h3l, by rw [h3, hsd], h4, hw, fun e he hu hec hwe => ?_⟩
        obtain ⟨b1, b2, b3, b4⟩ := hget e he hu hec hwe
        have hn1 := hmin e he hu hec b1
        apply Classical.byContradiction
        intro hlt
        exact hn1 (Or.inr ⟨by rw [b2, hk], Or.inr ⟨by rw [b3, hs], by rw [b4, hsd]; omega⟩⟩)
end
