/-! the law's loops over the clocks -/
section
variable {N L T : Nat} {seed : Int32} {lu ec ed dr md : Nat → Int32} {ti ms : Nat → Int64} {ck : Nat → Nat} {E0 E1 U A : Nat} {S : Nat → (Nat → Int32) × (Nat → Int32) × (Nat → Int32) × (Nat → Int32)}
/-- what the next clock's check asks -/
def gf_J (N L T : Nat) (lu ec ed dr : Nat → Int32) (S : Nat → (Nat → Int32) × (Nat → Int32) × (Nat → Int32) × (Nat → Int32)) (B : Int) (t k c : Nat) (J : Int32 → Int32 → Int32 → Int32 → Int32 → Int32 → (Nat → Int32) → (Nat → Int32) → (Nat → Int64) → (Nat → Int32) → (Nat → Int32) → (Nat → Int64) → (Nat → Int32) → (Nat → Int32) → (Nat → Int32) → (Nat → Int32) → (Nat → Int32) → Prop) : Prop :=
  ∀ (t' k' : Nat) (ti ms : Nat → Int64) (md : Nat → Int32), (t' = t ∨ t' = t + 1) → k' ≤ k + 1 → gt_A N (B + 2147483648) ti ms → J (nI k') (nI (c + 1)) (nI N) (nI 16) (nI T) (nI L) (S t').1 dr ti (S t').2.1 (S t').2.2.1 ms md lu ec (S t').2.2.2 ed
/-- the link between a clock and its parent, and what is checked there -/
theorem l_1006 {post : Int32 → Prop} {LS : Nat} {xs : Nat → Int32} {J : _} {kc ks t c b k : Nat} {B : Int} (hLS : LS ≤ 260) (hk : k ≤ 100000) (H : gf_H N L T seed lu ec ed dr ck E0 E1 U A S) (hb : b < 2 * L) (hbc : ck b = c) (hu : ¬ lu (b / 2) = 0) (hpl : (S t).2.2.1 c = nI (b / 2)) (h2 : (S t).2.2.2 b = 2) (h1 : (S t).2.2.2 (gc_ot b) = 1) (h0 : 2 ^ 45 ≤ B) (hB : B ≤ 2 ^ 55) (HA : gt_A N B ti ms)
    (hJ : gf_J N L T lu ec ed dr S B t k c J) : ∀ d l, l + d = L → wL_law_1006 post LS xs J (nI N) seed (lN E0) (lN E1) (nI L) (nI U) (nI k) (lN A) (nI c) (nI (ck (gc_ot b))) kc ks (nI N) (nI 16) (nI T) (nI L) (S t).1 dr ti (S t).2.1 (S t).2.2.1 ms md lu ec (S t).2.2.2 ed (d + 1) (if b / 2 < l then nI (b / 2) else -1) (nI l)
  | 0, l, hl => by
    obtain rfl : l = L := by omega
    have HK := H.1
    have K := gl_ok HK
    have hN := HK.2.1
    have hL := HK.2.2.1
    have hc := (HK.2.2.2.2.1 b hb).1
    have hp := (HK.2.2.2.2.1 _ (gc_otlt hb)).1
    have g1 := gl_gend HK hb
    have g2 := gl_gend HK (gc_otlt hb)
    rw [gv_oth] at g2
    rw [hbc] at hc g1
    have HA2 : gt_A N (B + 2147483648) ti ms := gt_mono (by omega) HA
    rw [if_pos (by omega)]
    refine br_t (nI_le (by omega) (by omega)) (br_f (nI_pos (by omega)) (x_getPort K hc (by omega) g1 (br_t h2 (x_getPort K hp (by omega) g2 (br_t h1 (l_del (l_del ?_)))))))
    refine br_c (fun heq => ?_) (fun _ => nm_r (nI_1 c) (hJ t k ti ms md (Or.inl rfl) (by omega) HA2))
    refine nm_r (nI_1 k) (l_cell hLS (by omega) (fun r => br_c (fun _ => ?_) (fun _ => ?_)))
    · exact l_1182 H hb hbc hu hpl h2 h1 heq (by omega) (by omega) HA (fun ti' ms' md' a => hJ (t + 1) (k + 1) ti' ms' md' (Or.inr rfl) (by omega) a)
    · obtain ⟨w, hw, ew⟩ := gl_tv ((r.toUInt32 >>> ((1 : Int32).toUInt32 &&& Int32.toUInt32 31)).toInt32)
      rw [ew]
      obtain ⟨c1, c2⟩ := gl_clT hw
      refine x_setTime hN hc (l_1182 H hb hbc hu hpl h2 h1 heq (by omega) (by omega) (fun d hd => ?_) (fun ti' ms' md' a => hJ (t + 1) (k + 1) ti' ms' md' (Or.inr rfl) (by omega) a))
      obtain ⟨a1, a2⟩ := HA d hd
      refine ⟨?_, a2⟩
      by_cases q : d = c
      · subst q; rw [pk_uLs, c1, c2]; omega
      · rw [pk_uLn q]; exact a1
  | d + 1, l, hl => by
    have HK := H.1
    have hN := HK.2.1
    have hL := HK.2.2.1
    have hc := (HK.2.2.2.2.1 b hb).1
    have hp := (HK.2.2.2.2.1 _ (gc_otlt hb)).1
    have e0 := (HK.2.2.2.2.1 (2 * l) (by omega)).1
    have e1 := (HK.2.2.2.2.1 (2 * l + 1) (by omega)).1
    have ih := l_1006 (post := post) (xs := xs) (kc := kc) (ks := ks) hLS hk H hb hbc hu hpl h2 h1 h0 hB HA hJ d (l + 1) (by omega)
    refine br_f (nI_ge (by omega) (by omega)) ?_
    by_cases q : lu l = 0
    · have : ¬ b / 2 = l := fun z => hu (by rw [z]; exact q)
      have e : (if b / 2 < l + 1 then nI (b / 2) else (-1 : Int32)) = if b / 2 < l then nI (b / 2) else -1 := by
        by_cases z : b / 2 < l
        · rw [if_pos z, if_pos (by omega)]
        · rw [if_neg z, if_neg (by omega)]
      rw [e] at ih
      exact br_t ((gl_up HK (by omega)).mpr q) (nm_r (nI_1 l) ih)
    · refine br_f (fun z => q ((gl_up HK (by omega)).mp z)) (gl_end0 HK (by omega) (gl_end1 HK (by omega) ?_))
      by_cases z : b / 2 = l
      · rw [if_pos (by omega), z] at ih
        rcases (by omega : b = 2 * l ∨ b = 2 * l + 1) with y | y
        · have a1 : ck (2 * l) = c := by rw [← y]; exact hbc
          have a2 : ck (2 * l + 1) = ck (gc_ot b) := by rw [y, gc_ot0]
          exact br_t (by rw [a1]) (br_t (by rw [a2]) (nm_r (nI_1 l) ih))
        · have a1 : ck (2 * l + 1) = c := by rw [← y]; exact hbc
          have a2 : ck (2 * l) = ck (gc_ot b) := by rw [y, gc_ot1]
          have ne : ck (2 * l) ≠ c := by
            have := HK.2.2.2.2.2.1 (2 * l) (by omega)
            rw [gc_ot0, a1] at this
            exact this
          exact br_f (fun z => ne ((nI_eq (by omega) (by omega)).mp z)) (br_t (by rw [a2]) (br_t (by rw [a1]) (nm_r (nI_1 l) ih)))
      · have e : (if b / 2 < l + 1 then nI (b / 2) else (-1 : Int32)) = if b / 2 < l then nI (b / 2) else -1 := by
          by_cases z : b / 2 < l
          · rw [if_pos z, if_pos (by omega)]
          · rw [if_neg z, if_neg (by omega)]
        rw [e] at ih
        have no1 : ¬ (ck (2 * l) = c ∧ ck (2 * l + 1) = ck (gc_ot b)) := fun y => by
          have := HK.2.2.2.2.2.2.1 (2 * l) b (by omega) hb (by rw [y.1, hbc]) (by rw [gc_ot0]; exact y.2)
          omega
        have no2 : ¬ (ck (2 * l) = ck (gc_ot b) ∧ ck (2 * l + 1) = c) := fun y => by
          have := HK.2.2.2.2.2.2.1 (2 * l + 1) b (by omega) hb (by rw [y.2, hbc]) (by rw [gc_ot1]; exact y.1)
          omega
        have inj : ∀ x y : Nat, x < 8 → y < 8 → nI x = nI y → x = y := fun x y hx hy h => (nI_eq (by omega) (by omega)).mp h
        rw [hbc] at hc
        have f61 : wL_law_1061 post LS xs J (wL_law_1006 post LS xs J (nI N) seed (lN E0) (lN E1) (nI L) (nI U) (nI k) (lN A) (nI c) (nI (ck (gc_ot b))) kc ks (nI N) (nI 16) (nI T) (nI L) (S t).1 dr ti (S t).2.1 (S t).2.2.1 ms md lu ec (S t).2.2.2 ed (d + 1)) (nI N) seed (lN E0) (lN E1) (nI L) (nI U) (nI k) (lN A) (nI c) (nI (ck (gc_ot b))) (if b / 2 < l then nI (b / 2) else -1) (nI l) (nI (ck (2 * l))) (nI (ck (2 * l + 1))) kc ks (nI N) (nI 16) (nI T) (nI L) (S t).1 dr ti (S t).2.1 (S t).2.2.1 ms md lu ec (S t).2.2.2 ed := by
          unfold wL_law_1061
          refine br_c (fun y1 => br_c (fun y2 => ?_) (fun _ => nm_r (nI_1 l) ih)) (fun _ => nm_r (nI_1 l) ih)
          exact absurd ⟨inj _ _ (by omega) (by omega) y1, inj _ _ (by omega) (by omega) y2⟩ no2
        refine br_c (fun y1 => br_c (fun y2 => ?_) (fun _ => f61)) (fun _ => f61)
        exact absurd ⟨inj _ _ (by omega) (by omega) y1, inj _ _ (by omega) (by omega) y2⟩ no1
/-- the ports of a clock that is the best -/
theorem l_856 {post : Int32 → Prop} {LS : Nat} {xs : Nat → Int32} {J : _} {kc ks t c k : Nat} (H : gf_H N L T seed lu ec ed dr ck E0 E1 U A S) (hc : c < N) (hp : ∀ e, e < 2 * L → ¬ lu (e / 2) = 0 → ck e = c → (S t).2.2.2 e = 1) (hJ : J (nI k) (nI (c + 1)) (nI N) (nI 16) (nI T) (nI L) (S t).1 dr ti (S t).2.1 (S t).2.2.1 ms md lu ec (S t).2.2.2 ed) : ∀ d l, l + d = L → wL_law_856 post LS xs J (nI N) seed (lN E0) (lN E1) (nI L) (nI U) (nI k) (lN A) (nI c) kc ks (nI N) (nI 16) (nI T) (nI L) (S t).1 dr ti (S t).2.1 (S t).2.2.1 ms md lu ec (S t).2.2.2 ed (d + 1) (nI l)
  | 0, l, hl => br_t (nI_le (by omega) (by have := H.1.2.2.1; omega)) (nm_r (nI_1 c) hJ)
  | d + 1, l, hl => by
    have HK := H.1
    have K := gl_ok HK
    have hN := HK.2.1
    have hL := HK.2.2.1
    have e0 := (HK.2.2.2.2.1 (2 * l) (by omega)).1
    have e1 := (HK.2.2.2.2.1 (2 * l + 1) (by omega)).1
    have ih := l_856 (post := post) (LS := LS) (xs := xs) (kc := kc) (ks := ks) H hc hp hJ d (l + 1) (by omega)
    refine br_f (nI_ge (by omega) (by omega)) ?_
    by_cases q : lu l = 0
    · exact br_t ((gl_up HK (by omega)).mpr q) (nm_r (nI_1 l) ih)
    · have f : ∀ e, e < 2 * L → e / 2 = l → ck e = c → wL_law_903 post LS xs J (wL_law_856 post LS xs J (nI N) seed (lN E0) (lN E1) (nI L) (nI U) (nI k) (lN A) (nI c) kc ks (nI N) (nI 16) (nI T) (nI L) (S t).1 dr ti (S t).2.1 (S t).2.2.1 ms md lu ec (S t).2.2.2 ed (d + 1)) (nI N) seed (lN E0) (lN E1) (nI L) (nI U) (nI k) (lN A) (nI c) (nI l) kc ks (nI N) (nI 16) (nI T) (nI L) (S t).1 dr ti (S t).2.1 (S t).2.2.1 ms md lu ec (S t).2.2.2 ed := by
        intro e he hel hec
        have g := gl_gend HK he
        rw [hel, hec] at g
        unfold wL_law_903
        exact x_getPort K hc (by omega) g (br_t (hp e he (by rw [hel]; exact q) hec) (nm_r (nI_1 l) ih))
      refine br_f (fun z => q ((gl_up HK (by omega)).mp z)) (gl_end0 HK (by omega) ?_)
      refine br_c (fun y => f (2 * l) (by omega) (by omega) ((nI_eq (by omega) (by omega)).mp y)) (fun _ => gl_end1 HK (by omega) (br_c (fun y => f (2 * l + 1) (by omega) (by omega) ((nI_eq (by omega) (by omega)).mp y)) (fun _ => nm_r (nI_1 l) ih)))
end
