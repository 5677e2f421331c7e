section
theorem pk_us {f : Nat → Int32} {k : Nat} {x : Int32} : upd f k x k = x := if_pos rfl
theorem pk_un {f : Nat → Int32} {k j : Nat} {x : Int32} (h : j ≠ k) : upd f k x j = f j := if_neg h
theorem pk_uLs {f : Nat → Int64} {k : Nat} {x : Int64} : vp_updL f k x k = x := if_pos rfl
theorem pk_uLn {f : Nat → Int64} {k j : Nat} {x : Int64} (h : j ≠ k) : vp_updL f k x j = f j := if_neg h
theorem pk_sub {a b : Nat} (h : b ≤ a) : nI a - nI b = nI (a - b) := by
  obtain ⟨c, rfl⟩ : ∃ c, a = c + b := ⟨a - b, by omega⟩
  rw [← nI_add, Int32.add_sub_cancel, Nat.add_sub_cancel]
theorem pk_m1 (n : Nat) : nI (n + 1) + (-1) = nI n := by
  rw [← nI_1, Int32.add_assoc, show (1 : Int32) + (-1) = 0 from rfl, Int32.add_zero]
theorem pk_mul (a b : Nat) : nI a * nI b = nI (a * b) := (Int32.ofNat_mul a b).symm
theorem pk_div {a d : Nat} (ha : a < 2 ^ 31) (h0 : 0 < d) (hd : d < 2 ^ 31) : nI a / nI d = nI (a / d) := by
  apply Int32.toInt_inj.mp
  rw [lg_idiv_nonneg (by rw [nI_toInt ha]; omega) (by rw [nI_toInt hd]; omega), nI_toInt ha, nI_toInt hd, nI_toInt (Nat.lt_of_le_of_lt (Nat.div_le_self a d) ha)]
  first | rfl | exact (Int.natCast_ediv _ _).symm
theorem pk_ix (x : Int32) {n : Nat} (hn : n < 2 ^ 31) : x < 0 ∨ nI n ≤ x ∨ ∃ j : Nat, j < n ∧ x = nI j := by
  by_cases h : x < 0
  · exact Or.inl h
  · obtain ⟨j, hj, rfl⟩ := nI_of h
    by_cases h2 : j < n
    · exact Or.inr (Or.inr ⟨j, h2, rfl⟩)
    · exact Or.inr (Or.inl (nI_le (by omega) hj))
theorem pk_le {x y : Int32} {A B : Prop} (a b : Nat) (f : a ≤ b → A) (g : b < a → B) (hx : x = nI a := by rfl) (hy : y = nI b := by rfl) (ha : a < 2 ^ 31 := by omega) (hb : b < 2 ^ 31 := by omega) : (x ≤ y → A) ∧ (¬ x ≤ y → B) := by
  subst hx hy
  rw [nI_leI ha hb]
  exact ⟨f, fun z => g (by omega)⟩
theorem pk_lt {x y : Int32} {A B : Prop} (a b : Nat) (f : a < b → A) (g : b ≤ a → B) (hx : x = nI a := by rfl) (hy : y = nI b := by rfl) (ha : a < 2 ^ 31 := by omega) (hb : b < 2 ^ 31 := by omega) : (x < y → A) ∧ (¬ x < y → B) := by
  subst hx hy
  rw [nI_ltI ha hb]
  exact ⟨f, fun z => g (by omega)⟩
theorem pk_eq {x y : Int32} {A B : Prop} (a b : Nat) (f : a = b → A) (g : a ≠ b → B) (hx : x = nI a := by rfl) (hy : y = nI b := by rfl) (ha : a < 2 ^ 31 := by omega) (hb : b < 2 ^ 31 := by omega) : (x = y → A) ∧ (¬ x = y → B) := by
  subst hx hy
  rw [nI_eq ha hb]
  exact ⟨f, g⟩
theorem pk_in {x : Int32} (n N : Nat) (h : n < N) (hx : x = nI n := by rfl) (hN : N < 2 ^ 31 := by omega) : vp_in x N := by
  subst hx
  exact vp_in_nI h hN
theorem pk_cl {x : Int32} (n : Nat) (hx : x = nI n := by rfl) (h : n < 2 ^ 31 := by omega) : x.toNatClampNeg = n := by
  subst hx
  exact nI_clamp h
theorem pk_tn {n : Nat} (h : n < 2 ^ 32) : (nI n).toBitVec.toNat = n := Nat.mod_eq_of_lt h
theorem pk_and (x : Int32) {m : Int32} (k : Nat) (hm : m.toBitVec.toNat = 2 ^ k - 1) : x &&& m = nI (x.toBitVec.toNat % 2 ^ k) := by
  apply Int32.toBitVec_inj.mp
  apply BitVec.eq_of_toNat_eq
  rw [Int32.toBitVec_and, BitVec.toNat_and, hm, Nat.and_two_pow_sub_one_eq_mod]
  show _ = (BitVec.ofNat 32 _).toNat
  rw [BitVec.toNat_ofNat]
  exact (Nat.mod_eq_of_lt (Nat.lt_of_le_of_lt (Nat.mod_le _ _) x.toBitVec.isLt)).symm
theorem pk_andN {n : Nat} (h : n < 2 ^ 32) {m : Int32} (k : Nat) (hm : m.toBitVec.toNat = 2 ^ k - 1) : nI n &&& m = nI (n % 2 ^ k) := by
  rw [pk_and _ k hm, pk_tn h]
theorem pk_shr (a s : Int32) (k : Nat) (hs : (s.toBitVec.smod 32).toNat = k) : (a >>> s).toInt = a.toInt >>> k := by
  show (a.toBitVec.sshiftRight (s.toBitVec.smod 32).toNat).toInt = _
  rw [hs, BitVec.toInt_sshiftRight]
  rfl
theorem pk_shrN {n : Nat} (h : n < 2 ^ 31) (s : Int32) (k : Nat) (hs : (s.toBitVec.smod 32).toNat = k) : nI n >>> s = nI (n / 2 ^ k) := by
  apply Int32.toInt_inj.mp
  have h2 : n / 2 ^ k ≤ n := Nat.div_le_self _ _
  rw [pk_shr _ _ k hs, nI_toInt h, nI_toInt (by omega), Int.shiftRight_eq_div_pow]
  rfl
theorem pk_loop {σ : Type} (W : Nat → Nat → σ → Prop) (I : Nat → σ → Prop) (e i0 : Nat) (s : σ) (hi : i0 ≤ e) (h0 : I i0 s) (hx : ∀ n s, I e s → W (n + 1) e s)
    (hs : ∀ n i s, i < e → I i s → (∀ s', I (i + 1) s' → W n (i + 1) s') → W (n + 1) i s) : ∃ n, W n i0 s :=
  ⟨e + 1, loop_i W I e hx hs (e + 1) i0 s hi (by omega) h0⟩
theorem nx_xor (a b : Nat) : nI a ^^^ nI b = nI (a ^^^ b) := by
  apply Int32.toBitVec_inj.1
  show BitVec.ofNat 32 a ^^^ BitVec.ofNat 32 b = BitVec.ofNat 32 (a ^^^ b)
  apply BitVec.eq_of_getLsbD_eq
  intro i hi
  simp [hi]
end
section
/-! pure pictures: clamp, copies, comparison, the parts of the relation -/
def gc_cl (v lo hi : Int32) : Int32 := if v < lo then lo else if hi < v then hi else v
def gc_clL (v lo hi : Int64) : Int64 := if v < lo then lo else if hi < v then hi else v
/-- a with k cells from y on taken from s from x on -/
def gc_cp (a s : Nat → Int32) (x y k : Nat) : Nat → Int32 := fun j => if y ≤ j ∧ j < y + k then s (x + (j - y)) else a j
def gc_z : Nat → Int32 := fun _ => 0
theorem gc_cp0 (a s : Nat → Int32) (x y : Nat) : gc_cp a s x y 0 = a := by
  funext j
  exact if_neg (by omega)
theorem gc_cpS (a s : Nat → Int32) (x y i : Nat) : upd (gc_cp a s x y i) (y + i) (s (x + i)) = gc_cp a s x y (i + 1) := by
  funext j
  by_cases h : j = y + i
  · subst h
    have e : x + (y + i - y) = x + i := by omega
    simp only [upd, gc_cp, if_true]
    rw [if_pos (by omega), e]
  · simp only [upd, gc_cp]
    rw [if_neg h]
    by_cases h2 : y ≤ j ∧ j < y + i
    · rw [if_pos h2, if_pos (by omega)]
    · rw [if_neg h2, if_neg (by omega)]
theorem gc_cp_in {a s : Nat → Int32} {x y k i : Nat} (h : i < k) : gc_cp a s x y k (y + i) = s (x + i) := by
  have e : x + (y + i - y) = x + i := by omega
  simp only [gc_cp]
  rw [if_pos (by omega), e]
theorem gc_cp_out {a s : Nat → Int32} {x y k j : Nat} (h : j < y ∨ y + k ≤ j) : gc_cp a s x y k j = a j := by
  simp only [gc_cp]
  exact if_neg (by omega)
/-- the comparison of k columns from column i on -/
def gc_cmp (f g : Nat → Int32) : Nat → Nat → Int32
  | 0, _ => 0
  | k + 1, i => if f i = g i then gc_cmp f g k (i + 1) else if f i < g i then -1 else 1
theorem gc_cmp_self (f : Nat → Int32) : ∀ k i, gc_cmp f f k i = 0
  | 0, _ => rfl
  | k + 1, i => by
    rw [gc_cmp, if_pos rfl]
    exact gc_cmp_self f k (i + 1)
/-- dataset rows -/
def gc_D (N : Nat) (RW ds : Nat → Int32) : Prop := ∀ c, c < N → (∀ f, f < 6 → RW (c * 10 + f) = ds (c * 6 + f)) ∧ RW (c * 10 + 6) = 0 ∧ RW (c * 10 + 7) = nI c ∧ RW (c * 10 + 8) = 1 ∧ RW (c * 10 + 9) = 0
/-- vector rows -/
def gc_V (N : Nat) (RW vc : Nat → Int32) : Prop := ∀ c, c < N → (∀ f, f < 8 → RW ((8 + c) * 10 + f) = vc (c * 8 + f)) ∧ RW ((8 + c) * 10 + 7) = nI c ∧ RW ((8 + c) * 10 + 8) = 1 ∧ RW ((8 + c) * 10 + 9) = 0
/-- store rows -/
def gc_S (RW st sv sa : Nat → Int32) : Prop := ∀ e, e < 32 → (∀ f, f < 8 → RW ((16 + e) * 10 + f) = st (e * 8 + f)) ∧ RW ((16 + e) * 10 + 8) = sv e ∧ RW ((16 + e) * 10 + 9) = sa e ∧ (sv e = 0 ∨ sv e = 1)
/-- measures -/
def gc_M (ms off dl t1 t2 t3 t4 aj ig ct : Nat → Int64) : Prop := ∀ c, c < 8 → ms (c * 9 + 0) = off c ∧ ms (c * 9 + 1) = dl c ∧ ms (c * 9 + 2) = t1 c ∧ ms (c * 9 + 3) = t2 c ∧ ms (c * 9 + 4) = t3 c ∧ ms (c * 9 + 5) = t4 c ∧ ms (c * 9 + 6) = aj c ∧ ms (c * 9 + 7) = ig c ∧ ms (c * 9 + 8) = ct c
/-- ends and their clocks -/
def gc_E (N L : Nat) (ec la lb : Nat → Int32) : Prop := ∀ l, l < L → ec (2 * l) = la l ∧ ec (2 * l + 1) = lb l ∧ (∃ j, j < N ∧ la l = nI j) ∧ (∃ j, j < N ∧ lb l = nI j)
/-- delays -/
def gc_W (L : Nat) (ed da db : Nat → Int32) : Prop := ∀ l, l < L → ed (2 * l) = da l ∧ ed (2 * l + 1) = db l
def gc_P (N : Nat) (a b : Nat → Int32) : Prop := ∀ c, c < N → a c = b c
def gc_B (a : Nat → Int32) : Prop := ∀ l, a l = 0 ∨ a l = 1
section
variable {N : Nat} {RW RW' ds vc st sv sa : Nat → Int32}
theorem gc_Dfr (hN : N ≤ 8) (h : ∀ j, j < 80 → RW' j = RW j) (H : gc_D N RW ds) : gc_D N RW' ds := by
  intro c hc
  obtain ⟨h1, h2, h3, h4, h5⟩ := H c hc
  refine ⟨fun f hf => ?_, ?_, ?_, ?_, ?_⟩
  · rw [h _ (by omega)]; exact h1 f hf
  · rw [h _ (by omega)]; exact h2
  · rw [h _ (by omega)]; exact h3
  · rw [h _ (by omega)]; exact h4
  · rw [h _ (by omega)]; exact h5
theorem gc_Vfr (hN : N ≤ 8) (h : ∀ j, 80 ≤ j → j < 160 → RW' j = RW j) (H : gc_V N RW vc) : gc_V N RW' vc := by
  intro c hc
  obtain ⟨h1, h2, h3, h4⟩ := H c hc
  refine ⟨fun f hf => ?_, ?_, ?_, ?_⟩
  · rw [h _ (by omega) (by omega)]; exact h1 f hf
  · rw [h _ (by omega) (by omega)]; exact h2
  · rw [h _ (by omega) (by omega)]; exact h3
  · rw [h _ (by omega) (by omega)]; exact h4
theorem gc_Sfr (h : ∀ j, 160 ≤ j → RW' j = RW j) (H : gc_S RW st sv sa) : gc_S RW' st sv sa := by
  intro e he
  obtain ⟨h1, h2, h3, h4⟩ := H e he
  refine ⟨fun f hf => ?_, ?_, ?_, h4⟩
  · rw [h _ (by omega)]; exact h1 f hf
  · rw [h _ (by omega)]; exact h2
  · rw [h _ (by omega)]; exact h3
theorem gc_Dset {c f : Nat} (a : Int32) (hc : c < N) (hf : f < 6) (H : gc_D N RW ds) : gc_D N (upd RW (c * 10 + f) a) (upd ds (c * 6 + f) a) := by
  intro c' hc'
  obtain ⟨h1, h2, h3, h4, h5⟩ := H c' hc'
  refine ⟨fun g hg => ?_, ?_, ?_, ?_, ?_⟩
  · by_cases e : c' = c ∧ g = f
    · obtain ⟨rfl, rfl⟩ := e
      rw [pk_us, pk_us]
    · rw [pk_un (by omega), pk_un (by omega)]; exact h1 g hg
  · rw [pk_un (by omega)]; exact h2
  · rw [pk_un (by omega)]; exact h3
  · rw [pk_un (by omega)]; exact h4
  · rw [pk_un (by omega)]; exact h5
/-- a store cleared -/
theorem gc_Sclr {e : Nat} (he : e < 32) (H : gc_S RW st sv sa) : gc_S (gc_cp RW gc_z 0 ((16 + e) * 10) 10) (gc_cp st gc_z 0 (e * 8) 8) (upd sv e 0) (upd sa e 0) := by
  intro e' he'
  obtain ⟨h1, h2, h3, h4⟩ := H e' he'
  by_cases q : e' = e
  · subst q
    refine ⟨fun f hf => ?_, ?_, ?_, ?_⟩
    · rw [gc_cp_in (by omega), gc_cp_in hf]
    · rw [gc_cp_in (by omega), pk_us]; rfl
    · rw [gc_cp_in (by omega), pk_us]; rfl
    · rw [pk_us]; exact Or.inl rfl
  · refine ⟨fun f hf => ?_, ?_, ?_, ?_⟩
    · rw [gc_cp_out (by omega), gc_cp_out (by omega)]; exact h1 f hf
    · rw [gc_cp_out (by omega), pk_un q]; exact h2
    · rw [gc_cp_out (by omega), pk_un q]; exact h3
    · rw [pk_un q]; exact h4
/-- a vector taken into a store -/
theorem gc_Scpy {e c : Nat} (he : e < 32) (hc : c < N) (HV : gc_V N RW vc) (H : gc_S RW st sv sa) : gc_S (gc_cp RW RW ((8 + c) * 10) ((16 + e) * 10) 10) (gc_cp st vc (c * 8) (e * 8) 8) (upd sv e 1) (upd sa e 0) := by
  obtain ⟨g1, _, g3, g4⟩ := HV c hc
  intro e' he'
  obtain ⟨h1, h2, h3, h4⟩ := H e' he'
  by_cases q : e' = e
  · subst q
    refine ⟨fun f hf => ?_, ?_, ?_, ?_⟩
    · rw [gc_cp_in (by omega), gc_cp_in hf]; exact g1 f hf
    · rw [gc_cp_in (by omega), pk_us]; exact g3
    · rw [gc_cp_in (by omega), pk_us]; exact g4
    · rw [pk_us]; exact Or.inr rfl
  · refine ⟨fun f hf => ?_, ?_, ?_, ?_⟩
    · rw [gc_cp_out (by omega), gc_cp_out (by omega)]; exact h1 f hf
    · rw [gc_cp_out (by omega), pk_un q]; exact h2
    · rw [gc_cp_out (by omega), pk_un q]; exact h3
    · rw [pk_un q]; exact h4
/-- a store's age set -/
theorem gc_Sage {e : Nat} (a : Int32) (he : e < 32) (H : gc_S RW st sv sa) : gc_S (upd RW ((16 + e) * 10 + 9) a) st sv (upd sa e a) := by
  intro e' he'
  obtain ⟨h1, h2, h3, h4⟩ := H e' he'
  by_cases q : e' = e
  · subst q
    refine ⟨fun f hf => ?_, ?_, ?_, h4⟩
    · rw [pk_un (by omega)]; exact h1 f hf
    · rw [pk_un (by omega)]; exact h2
    · rw [pk_us, pk_us]
  · refine ⟨fun f hf => ?_, ?_, ?_, h4⟩
    · rw [pk_un (by omega)]; exact h1 f hf
    · rw [pk_un (by omega)]; exact h2
    · rw [pk_un (by omega), pk_un q]; exact h3
/-- a clock that follows itself -/
theorem gc_Vown {c : Nat} (hN : N ≤ 8) (hc : c < N) (HD : gc_D N RW ds) (H : gc_V N RW vc) : gc_V N (gc_cp RW RW (c * 10) ((8 + c) * 10) 10) (upd (upd (gc_cp vc ds (c * 6) (c * 8) 6) (c * 8 + 6) 0) (c * 8 + 7) (nI c)) := by
  obtain ⟨g1, g2, g3, g4, g5⟩ := HD c hc
  intro c' hc'
  obtain ⟨h1, h2, h3, h4⟩ := H c' hc'
  by_cases q : c' = c
  · subst q
    refine ⟨fun f hf => ?_, ?_, ?_, ?_⟩
    · rw [gc_cp_in (by omega)]
      rcases (by omega : f < 6 ∨ f = 6 ∨ f = 7) with h | rfl | rfl
      · rw [pk_un (by omega), pk_un (by omega), gc_cp_in h]; exact g1 f h
      · rw [pk_un (by omega), pk_us]; exact g2
      · rw [pk_us]; exact g3
    · rw [gc_cp_in (by omega)]; exact g3
    · rw [gc_cp_in (by omega)]; exact g4
    · rw [gc_cp_in (by omega)]; exact g5
  · refine ⟨fun f hf => ?_, ?_, ?_, ?_⟩
    · rw [gc_cp_out (by omega), pk_un (by omega), pk_un (by omega), gc_cp_out (by omega)]; exact h1 f hf
    · rw [gc_cp_out (by omega)]; exact h2
    · rw [gc_cp_out (by omega)]; exact h3
    · rw [gc_cp_out (by omega)]; exact h4
/-- a clock's vector out of a store -/
def gc_fR (RW : Nat → Int32) (c b : Nat) : Nat → Int32 := upd (upd (upd (gc_cp RW RW ((16 + b) * 10) ((8 + c) * 10) 10) ((8 + c) * 10 + 6) (RW ((16 + b) * 10 + 6) + 1)) ((8 + c) * 10 + 7) (nI c)) ((8 + c) * 10 + 9) 0
def gc_fV (vc st : Nat → Int32) (c b : Nat) : Nat → Int32 := upd (upd (gc_cp vc st (b * 8) (c * 8) 6) (c * 8 + 6) (st (b * 8 + 6) + 1)) (c * 8 + 7) (nI c)
theorem gc_fRout {c b j : Nat} (h : j < (8 + c) * 10 ∨ (8 + c) * 10 + 10 ≤ j) : gc_fR RW c b j = RW j := by
  unfold gc_fR
  rw [pk_un (by omega), pk_un (by omega), pk_un (by omega), gc_cp_out (by omega)]
theorem gc_Vfol {c b : Nat} (hN : N ≤ 8) (hc : c < N) (hb : b < 32) (HS : gc_S RW st sv sa) (h1v : sv b = 1) (H : gc_V N RW vc) : gc_V N (gc_fR RW c b) (gc_fV vc st c b) := by
  obtain ⟨g1, g2, g3, g4⟩ := HS b hb
  intro c' hc'
  obtain ⟨h1, h2, h3, h4⟩ := H c' hc'
  by_cases q : c' = c
  · subst q
    refine ⟨fun f hf => ?_, ?_, ?_, ?_⟩
    · unfold gc_fR gc_fV
      rcases (by omega : f < 6 ∨ f = 6 ∨ f = 7) with h | rfl | rfl
      · rw [pk_un (by omega), pk_un (by omega), pk_un (by omega), gc_cp_in (by omega), pk_un (by omega), pk_un (by omega), gc_cp_in h]; exact g1 f hf
      · rw [pk_un (by omega), pk_un (by omega), pk_us, pk_un (by omega), pk_us, g1 6 (by omega)]
      · rw [pk_un (by omega), pk_us, pk_us]
    · unfold gc_fR
      rw [pk_un (by omega), pk_us]
    · unfold gc_fR
      rw [pk_un (by omega), pk_un (by omega), pk_un (by omega), gc_cp_in (by omega), g2]; exact h1v
    · unfold gc_fR
      rw [pk_us]
  · refine ⟨fun f hf => ?_, ?_, ?_, ?_⟩
    · rw [gc_fRout (by omega)]
      unfold gc_fV
      rw [pk_un (by omega), pk_un (by omega), gc_cp_out (by omega)]; exact h1 f hf
    · rw [gc_fRout (by omega)]; exact h2
    · rw [gc_fRout (by omega)]; exact h3
    · rw [gc_fRout (by omega)]; exact h4
end
/-- the ends of clock c that are up, below i, given the state p of their own -/
def gc_fol (ec lu es p : Nat → Int32) (c i : Nat) : Nat → Int32 := fun e => if e < i ∧ ec e = nI c ∧ ¬ lu (e / 2) = 0 then p e else es e
theorem gc_fol0 (ec lu es p : Nat → Int32) (c : Nat) : gc_fol ec lu es p c 0 = es := by
  funext e
  exact if_neg (fun h => absurd h.1 (by omega))
theorem gc_folT {ec lu es p : Nat → Int32} {c i : Nat} (h : ec i = nI c) (h2 : ¬ lu (i / 2) = 0) : upd (gc_fol ec lu es p c i) i (p i) = gc_fol ec lu es p c (i + 1) := by
  funext e
  by_cases q : e = i
  · subst q
    rw [pk_us]
    exact (if_pos ⟨by omega, h, h2⟩).symm
  · rw [pk_un q]
    simp only [gc_fol]
    by_cases r : e < i
    · simp only [r, (by omega : e < i + 1), true_and]
    · rw [if_neg (fun z => r z.1), if_neg (fun z => absurd z.1 (by omega))]
theorem gc_folF {ec lu es p : Nat → Int32} {c i : Nat} (h : ¬ (ec i = nI c ∧ ¬ lu (i / 2) = 0)) : gc_fol ec lu es p c i = gc_fol ec lu es p c (i + 1) := by
  funext e
  by_cases q : e = i
  · subst q
    simp only [gc_fol]
    rw [if_neg (fun z => absurd z.1 (by omega)), if_neg (fun z => h z.2)]
  · simp only [gc_fol]
    by_cases r : e < i
    · simp only [r, (by omega : e < i + 1), true_and]
    · rw [if_neg (fun z => r z.1), if_neg (fun z => absurd z.1 (by omega))]
/-- the end that is followed, written last or in its turn -/
theorem gc_folB {ec lu es p q : Nat → Int32} {c i b : Nat} (hb : b < i) (h : ec b = nI c) (h2 : ¬ lu (b / 2) = 0) (hq : q b = 2) (hn : ∀ e, e ≠ b → q e = p e) : upd (gc_fol ec lu es p c i) b 2 = gc_fol ec lu es q c i := by
  funext e
  by_cases z : e = b
  · subst z
    rw [pk_us]
    exact (Eq.trans (if_pos ⟨hb, h, h2⟩) hq).symm
  · rw [pk_un z]
    simp only [gc_fol]
    rw [hn e z]
section
variable {ms off dl t1 t2 t3 t4 aj ig ct : Nat → Int64}
theorem gc_M0 {c : Nat} {v : Int64} (hc : c < 8) (H : gc_M ms off dl t1 t2 t3 t4 aj ig ct) : gc_M (vp_updL ms (c * 9 + 0) v) (vp_updL off c v) dl t1 t2 t3 t4 aj ig ct := by
  intro c' hc'
  obtain ⟨h0, h1, h2, h3, h4, h5, h6, h7, h8⟩ := H c' hc'
  by_cases q : c' = c
  · subst q
    refine ⟨?_, ?_, ?_, ?_, ?_, ?_, ?_, ?_, ?_⟩
    · rw [pk_uLs, pk_uLs]
    · rw [pk_uLn (by omega)]; exact h1
    · rw [pk_uLn (by omega)]; exact h2
    · rw [pk_uLn (by omega)]; exact h3
    · rw [pk_uLn (by omega)]; exact h4
    · rw [pk_uLn (by omega)]; exact h5
    · rw [pk_uLn (by omega)]; exact h6
    · rw [pk_uLn (by omega)]; exact h7
    · rw [pk_uLn (by omega)]; exact h8
  · refine ⟨?_, ?_, ?_, ?_, ?_, ?_, ?_, ?_, ?_⟩
    · rw [pk_uLn (by omega), pk_uLn q]; exact h0
    · rw [pk_uLn (by omega)]; exact h1
    · rw [pk_uLn (by omega)]; exact h2
    · rw [pk_uLn (by omega)]; exact h3
    · rw [pk_uLn (by omega)]; exact h4
    · rw [pk_uLn (by omega)]; exact h5
    · rw [pk_uLn (by omega)]; exact h6
    · rw [pk_uLn (by omega)]; exact h7
    · rw [pk_uLn (by omega)]; exact h8
theorem gc_M1 {c : Nat} {v : Int64} (hc : c < 8) (H : gc_M ms off dl t1 t2 t3 t4 aj ig ct) : gc_M (vp_updL ms (c * 9 + 1) v) off (vp_updL dl c v) t1 t2 t3 t4 aj ig ct := by
  intro c' hc'
  obtain ⟨h0, h1, h2, h3, h4, h5, h6, h7, h8⟩ := H c' hc'
  by_cases q : c' = c
  · subst q
    refine ⟨?_, ?_, ?_, ?_, ?_, ?_, ?_, ?_, ?_⟩
    · rw [pk_uLn (by omega)]; exact h0
    · rw [pk_uLs, pk_uLs]
    · rw [pk_uLn (by omega)]; exact h2
    · rw [pk_uLn (by omega)]; exact h3
    · rw [pk_uLn (by omega)]; exact h4
    · rw [pk_uLn (by omega)]; exact h5
    · rw [pk_uLn (by omega)]; exact h6
    · rw [pk_uLn (by omega)]; exact h7
    · rw [pk_uLn (by omega)]; exact h8
  · refine ⟨?_, ?_, ?_, ?_, ?_, ?_, ?_, ?_, ?_⟩
    · rw [pk_uLn (by omega)]; exact h0
    · rw [pk_uLn (by omega), pk_uLn q]; exact h1
    · rw [pk_uLn (by omega)]; exact h2
    · rw [pk_uLn (by omega)]; exact h3
    · rw [pk_uLn (by omega)]; exact h4
    · rw [pk_uLn (by omega)]; exact h5
    · rw [pk_uLn (by omega)]; exact h6
    · rw [pk_uLn (by omega)]; exact h7
    · rw [pk_uLn (by omega)]; exact h8
theorem gc_M2 {c : Nat} {v : Int64} (hc : c < 8) (H : gc_M ms off dl t1 t2 t3 t4 aj ig ct) : gc_M (vp_updL ms (c * 9 + 2) v) off dl (vp_updL t1 c v) t2 t3 t4 aj ig ct := by
  intro c' hc'
  obtain ⟨h0, h1, h2, h3, h4, h5, h6, h7, h8⟩ := H c' hc'
  by_cases q : c' = c
  · subst q
    refine ⟨?_, ?_, ?_, ?_, ?_, ?_, ?_, ?_, ?_⟩
    · rw [pk_uLn (by omega)]; exact h0
    · rw [pk_uLn (by omega)]; exact h1
    · rw [pk_uLs, pk_uLs]
    · rw [pk_uLn (by omega)]; exact h3
    · rw [pk_uLn (by omega)]; exact h4
    · rw [pk_uLn (by omega)]; exact h5
    · rw [pk_uLn (by omega)]; exact h6
    · rw [pk_uLn (by omega)]; exact h7
    · rw [pk_uLn (by omega)]; exact h8
  · refine ⟨?_, ?_, ?_, ?_, ?_, ?_, ?_, ?_, ?_⟩
    · rw [pk_uLn (by omega)]; exact h0
    · rw [pk_uLn (by omega)]; exact h1
    · rw [pk_uLn (by omega), pk_uLn q]; exact h2
    · rw [pk_uLn (by omega)]; exact h3
    · rw [pk_uLn (by omega)]; exact h4
    · rw [pk_uLn (by omega)]; exact h5
    · rw [pk_uLn (by omega)]; exact h6
    · rw [pk_uLn (by omega)]; exact h7
    · rw [pk_uLn (by omega)]; exact h8
theorem gc_M3 {c : Nat} {v : Int64} (hc : c < 8) (H : gc_M ms off dl t1 t2 t3 t4 aj ig ct) : gc_M (vp_updL ms (c * 9 + 3) v) off dl t1 (vp_updL t2 c v) t3 t4 aj ig ct := by
  intro c' hc'
  obtain ⟨h0, h1, h2, h3, h4, h5, h6, h7, h8⟩ := H c' hc'
  by_cases q : c' = c
  · subst q
    refine ⟨?_, ?_, ?_, ?_, ?_, ?_, ?_, ?_, ?_⟩
    · rw [pk_uLn (by omega)]; exact h0
    · rw [pk_uLn (by omega)]; exact h1
    · rw [pk_uLn (by omega)]; exact h2
    · rw [pk_uLs, pk_uLs]
    · rw [pk_uLn (by omega)]; exact h4
    · rw [pk_uLn (by omega)]; exact h5
    · rw [pk_uLn (by omega)]; exact h6
    · rw [pk_uLn (by omega)]; exact h7
    · rw [pk_uLn (by omega)]; exact h8
  · refine ⟨?_, ?_, ?_, ?_, ?_, ?_, ?_, ?_, ?_⟩
    · rw [pk_uLn (by omega)]; exact h0
    · rw [pk_uLn (by omega)]; exact h1
    · rw [pk_uLn (by omega)]; exact h2
    · rw [pk_uLn (by omega), pk_uLn q]; exact h3
    · rw [pk_uLn (by omega)]; exact h4
    · rw [pk_uLn (by omega)]; exact h5
    · rw [pk_uLn (by omega)]; exact h6
    · rw [pk_uLn (by omega)]; exact h7
    · rw [pk_uLn (by omega)]; exact h8
theorem gc_M4 {c : Nat} {v : Int64} (hc : c < 8) (H : gc_M ms off dl t1 t2 t3 t4 aj ig ct) : gc_M (vp_updL ms (c * 9 + 4) v) off dl t1 t2 (vp_updL t3 c v) t4 aj ig ct := by
  intro c' hc'
  obtain ⟨h0, h1, h2, h3, h4, h5, h6, h7, h8⟩ := H c' hc'
  by_cases q : c' = c
  · subst q
    refine ⟨?_, ?_, ?_, ?_, ?_, ?_, ?_, ?_, ?_⟩
    · rw [pk_uLn (by omega)]; exact h0
    · rw [pk_uLn (by omega)]; exact h1
    · rw [pk_uLn (by omega)]; exact h2
    · rw [pk_uLn (by omega)]; exact h3
    · rw [pk_uLs, pk_uLs]
    · rw [pk_uLn (by omega)]; exact h5
    · rw [pk_uLn (by omega)]; exact h6
    · rw [pk_uLn (by omega)]; exact h7
    · rw [pk_uLn (by omega)]; exact h8
  · refine ⟨?_, ?_, ?_, ?_, ?_, ?_, ?_, ?_, ?_⟩
    · rw [pk_uLn (by omega)]; exact h0
    · rw [pk_uLn (by omega)]; exact h1
    · rw [pk_uLn (by omega)]; exact h2
    · rw [pk_uLn (by omega)]; exact h3
    · rw [pk_uLn (by omega), pk_uLn q]; exact h4
    · rw [pk_uLn (by omega)]; exact h5
    · rw [pk_uLn (by omega)]; exact h6
    · rw [pk_uLn (by omega)]; exact h7
    · rw [pk_uLn (by omega)]; exact h8
theorem gc_M5 {c : Nat} {v : Int64} (hc : c < 8) (H : gc_M ms off dl t1 t2 t3 t4 aj ig ct) : gc_M (vp_updL ms (c * 9 + 5) v) off dl t1 t2 t3 (vp_updL t4 c v) aj ig ct := by
  intro c' hc'
  obtain ⟨h0, h1, h2, h3, h4, h5, h6, h7, h8⟩ := H c' hc'
  by_cases q : c' = c
  · subst q
    refine ⟨?_, ?_, ?_, ?_, ?_, ?_, ?_, ?_, ?_⟩
    · rw [pk_uLn (by omega)]; exact h0
    · rw [pk_uLn (by omega)]; exact h1
    · rw [pk_uLn (by omega)]; exact h2
    · rw [pk_uLn (by omega)]; exact h3
    · rw [pk_uLn (by omega)]; exact h4
    · rw [pk_uLs, pk_uLs]
    · rw [pk_uLn (by omega)]; exact h6
    · rw [pk_uLn (by omega)]; exact h7
    · rw [pk_uLn (by omega)]; exact h8
  · refine ⟨?_, ?_, ?_, ?_, ?_, ?_, ?_, ?_, ?_⟩
    · rw [pk_uLn (by omega)]; exact h0
    · rw [pk_uLn (by omega)]; exact h1
    · rw [pk_uLn (by omega)]; exact h2
    · rw [pk_uLn (by omega)]; exact h3
    · rw [pk_uLn (by omega)]; exact h4
    · rw [pk_uLn (by omega), pk_uLn q]; exact h5
    · rw [pk_uLn (by omega)]; exact h6
    · rw [pk_uLn (by omega)]; exact h7
    · rw [pk_uLn (by omega)]; exact h8
theorem gc_M6 {c : Nat} {v : Int64} (hc : c < 8) (H : gc_M ms off dl t1 t2 t3 t4 aj ig ct) : gc_M (vp_updL ms (c * 9 + 6) v) off dl t1 t2 t3 t4 (vp_updL aj c v) ig ct := by
  intro c' hc'
  obtain ⟨h0, h1, h2, h3, h4, h5, h6, h7, h8⟩ := H c' hc'
  by_cases q : c' = c
  · subst q
    refine ⟨?_, ?_, ?_, ?_, ?_, ?_, ?_, ?_, ?_⟩
    · rw [pk_uLn (by omega)]; exact h0
    · rw [pk_uLn (by omega)]; exact h1
    · rw [pk_uLn (by omega)]; exact h2
    · rw [pk_uLn (by omega)]; exact h3
    · rw [pk_uLn (by omega)]; exact h4
    · rw [pk_uLn (by omega)]; exact h5
    · rw [pk_uLs, pk_uLs]
    · rw [pk_uLn (by omega)]; exact h7
    · rw [pk_uLn (by omega)]; exact h8
  · refine ⟨?_, ?_, ?_, ?_, ?_, ?_, ?_, ?_, ?_⟩
    · rw [pk_uLn (by omega)]; exact h0
    · rw [pk_uLn (by omega)]; exact h1
    · rw [pk_uLn (by omega)]; exact h2
    · rw [pk_uLn (by omega)]; exact h3
    · rw [pk_uLn (by omega)]; exact h4
    · rw [pk_uLn (by omega)]; exact h5
    · rw [pk_uLn (by omega), pk_uLn q]; exact h6
    · rw [pk_uLn (by omega)]; exact h7
    · rw [pk_uLn (by omega)]; exact h8
theorem gc_M7 {c : Nat} {v : Int64} (hc : c < 8) (H : gc_M ms off dl t1 t2 t3 t4 aj ig ct) : gc_M (vp_updL ms (c * 9 + 7) v) off dl t1 t2 t3 t4 aj (vp_updL ig c v) ct := by
  intro c' hc'
  obtain ⟨h0, h1, h2, h3, h4, h5, h6, h7, h8⟩ := H c' hc'
  by_cases q : c' = c
  · subst q
    refine ⟨?_, ?_, ?_, ?_, ?_, ?_, ?_, ?_, ?_⟩
    · rw [pk_uLn (by omega)]; exact h0
    · rw [pk_uLn (by omega)]; exact h1
    · rw [pk_uLn (by omega)]; exact h2
    · rw [pk_uLn (by omega)]; exact h3
    · rw [pk_uLn (by omega)]; exact h4
    · rw [pk_uLn (by omega)]; exact h5
    · rw [pk_uLn (by omega)]; exact h6
    · rw [pk_uLs, pk_uLs]
    · rw [pk_uLn (by omega)]; exact h8
  · refine ⟨?_, ?_, ?_, ?_, ?_, ?_, ?_, ?_, ?_⟩
    · rw [pk_uLn (by omega)]; exact h0
    · rw [pk_uLn (by omega)]; exact h1
    · rw [pk_uLn (by omega)]; exact h2
    · rw [pk_uLn (by omega)]; exact h3
    · rw [pk_uLn (by omega)]; exact h4
    · rw [pk_uLn (by omega)]; exact h5
    · rw [pk_uLn (by omega)]; exact h6
    · rw [pk_uLn (by omega), pk_uLn q]; exact h7
    · rw [pk_uLn (by omega)]; exact h8
theorem gc_M8 {c : Nat} {v : Int64} (hc : c < 8) (H : gc_M ms off dl t1 t2 t3 t4 aj ig ct) : gc_M (vp_updL ms (c * 9 + 8) v) off dl t1 t2 t3 t4 aj ig (vp_updL ct c v) := by
  intro c' hc'
  obtain ⟨h0, h1, h2, h3, h4, h5, h6, h7, h8⟩ := H c' hc'
  by_cases q : c' = c
  · subst q
    refine ⟨?_, ?_, ?_, ?_, ?_, ?_, ?_, ?_, ?_⟩
    · rw [pk_uLn (by omega)]; exact h0
    · rw [pk_uLn (by omega)]; exact h1
    · rw [pk_uLn (by omega)]; exact h2
    · rw [pk_uLn (by omega)]; exact h3
    · rw [pk_uLn (by omega)]; exact h4
    · rw [pk_uLn (by omega)]; exact h5
    · rw [pk_uLn (by omega)]; exact h6
    · rw [pk_uLn (by omega)]; exact h7
    · rw [pk_uLs, pk_uLs]
  · refine ⟨?_, ?_, ?_, ?_, ?_, ?_, ?_, ?_, ?_⟩
    · rw [pk_uLn (by omega)]; exact h0
    · rw [pk_uLn (by omega)]; exact h1
    · rw [pk_uLn (by omega)]; exact h2
    · rw [pk_uLn (by omega)]; exact h3
    · rw [pk_uLn (by omega)]; exact h4
    · rw [pk_uLn (by omega)]; exact h5
    · rw [pk_uLn (by omega)]; exact h6
    · rw [pk_uLn (by omega)]; exact h7
    · rw [pk_uLn (by omega), pk_uLn q]; exact h8
end
end
section
/-! the component's own walks as pure pictures -/
def gc_ot (e : Nat) : Nat := if e % 2 = 0 then e + 1 else e - 1
theorem gc_ot0 (l : Nat) : gc_ot (2 * l) = 2 * l + 1 := if_pos (by omega)
theorem gc_ot1 (l : Nat) : gc_ot (2 * l + 1) = 2 * l := if_neg (by omega)
theorem gc_otx : ∀ e, e < 32 → e ^^^ 1 = gc_ot e := by decide
theorem gc_otlt {e n : Nat} (h : e < 2 * n) : gc_ot e < 2 * n := by
  unfold gc_ot
  split <;> omega
/-! indices: literals against nI -/
theorem ix_m6 (a : Nat) : nI a * 6 = nI (a * 6) := pk_mul a 6
theorem ix_m8 (a : Nat) : nI a * 8 = nI (a * 8) := pk_mul a 8
theorem ix_m9 (a : Nat) : nI a * 9 = nI (a * 9) := pk_mul a 9
theorem ix_m10 (a : Nat) : nI a * 10 = nI (a * 10) := pk_mul a 10
theorem ix_m2 (a : Nat) : nI a * 2 = nI (a * 2) := pk_mul a 2
theorem ix_2m (a : Nat) : 2 * nI a = nI (2 * a) := pk_mul 2 a
theorem ix_8a (a : Nat) : 8 + nI a = nI (8 + a) := nI_add 8 a
theorem ix_16a (a : Nat) : 16 + nI a = nI (16 + a) := nI_add 16 a
theorem ix_a0 (a : Nat) : nI a + 0 = nI (a + 0) := nI_add a 0
theorem ix_a1 (a : Nat) : nI a + 1 = nI (a + 1) := nI_add a 1
theorem ix_a2 (a : Nat) : nI a + 2 = nI (a + 2) := nI_add a 2
theorem ix_a3 (a : Nat) : nI a + 3 = nI (a + 3) := nI_add a 3
theorem ix_a4 (a : Nat) : nI a + 4 = nI (a + 4) := nI_add a 4
theorem ix_a5 (a : Nat) : nI a + 5 = nI (a + 5) := nI_add a 5
theorem ix_a6 (a : Nat) : nI a + 6 = nI (a + 6) := nI_add a 6
theorem ix_a7 (a : Nat) : nI a + 7 = nI (a + 7) := nI_add a 7
theorem ix_a8 (a : Nat) : nI a + 8 = nI (a + 8) := nI_add a 8
theorem ix_a9 (a : Nat) : nI a + 9 = nI (a + 9) := nI_add a 9
theorem ix_d2 {e : Nat} (h : e < 2 ^ 31) : nI e / 2 = nI (e / 2) := pk_div (d := 2) h (by decide) (by decide)
theorem ix_x1 {e : Nat} (h : e < 32) : nI e ^^^ 1 = nI (gc_ot e) := by
  rw [← gc_otx e h]
  exact nx_xor e 1
theorem ix_s1 {e : Nat} (h : e < 2 ^ 31) : nI e >>> ((1 : Int32) &&& 31) = nI (e / 2) := pk_shrN h _ 1 (by decide)
theorem ix_n1 {e : Nat} (h : e < 2 ^ 32) : nI e &&& 1 = nI (e % 2) := pk_andN h 1 (by decide)
theorem ix_no {x : Int32} {n j : Nat} (hn : n < 2 ^ 31) (h : x < 0 ∨ nI n ≤ x) (hj : j < n) : ¬ x = nI j := by
  intro e
  subst e
  rcases h with h | h
  · exact nI_pos (by omega) h
  · exact nI_ge hj hn h
theorem ix_b {x : Int32} (h : x = 0 ∨ x = 1) : narrow .boolean (.int x) = .int x := by rcases h with rfl | rfl <;> rfl
theorem ix_v {x : Int32} (h : x = 0 ∨ x = 1) : vp_nar .boolean x = x := by rcases h with rfl | rfl <;> rfl
def gc_en : Option Nat → Int32
  | none => -1
  | some e => nI e
/-- the end of clock c on link x -/
def gs_end (L : Nat) (ec : Nat → Int32) (c : Nat) (x : Int32) : Option Nat :=
  if x < 0 ∨ nI L ≤ x then none else if ec (2 * x.toNatClampNeg) = nI c then some (2 * x.toNatClampNeg) else if ec (2 * x.toNatClampNeg + 1) = nI c then some (2 * x.toNatClampNeg + 1) else none
/-- the measures of clock c, written at end e -/
def gs_ms (ec ed : Nat → Int32) (ti ms : Nat → Int64) (c e : Nat) : Nat → Int64 :=
  let T := ti (ec (gc_ot e)).toNatClampNeg
  let t2 := ti c + (ed (gc_ot e)).toInt64
  let t4 := T + (ed (gc_ot e)).toInt64 + (ed e).toInt64
  let m6 := vp_updL (vp_updL (vp_updL (vp_updL (vp_updL (vp_updL ms (c * 9 + 0) (((t2 - T) - (t4 - t2)) / 2)) (c * 9 + 1) (((t2 - T) + (t4 - t2)) / 2)) (c * 9 + 2) T) (c * 9 + 3) t2) (c * 9 + 4) t2) (c * 9 + 5) t4
  vp_updL m6 (c * 9 + 8) (m6 (c * 9 + 8) + 1)
def gs_meas (L : Nat) (pl lu ec es ed : Nat → Int32) (ti : Nat → Int64) (c : Nat) (s : (Nat → Int32) × (Nat → Int64)) : (Nat → Int32) × (Nat → Int64) :=
  match gs_end L ec c (pl c) with
  | none => (upd s.1 c 0, s.2)
  | some e => if ¬ lu (e / 2) = 0 ∧ es e = 2 ∧ es (gc_ot e) = 1 then (upd s.1 c 1, gs_ms ec ed ti s.2 c e) else (upd s.1 c 0, s.2)
def gs_steer (md : Nat → Int32) (c : Nat) (s : (Nat → Int64) × (Nat → Int64)) : (Nat → Int64) × (Nat → Int64) :=
  if md c = 0 then s else
  if 1000000 < s.2 (c * 9 + 0) ∨ s.2 (c * 9 + 0) < -1000000 then (vp_updL s.1 c (s.1 c - s.2 (c * 9 + 0)), s.2) else
  let g := gc_clL (s.2 (c * 9 + 7) - s.2 (c * 9 + 0) / 8) (-500000) 500000
  (s.1, vp_updL (vp_updL s.2 (c * 9 + 7) g) (c * 9 + 6) (gc_clL (g - s.2 (c * 9 + 0) / 2) (-500000) 500000))
def gs_adv (dr : Nat → Int32) (ms : Nat → Int64) (c : Nat) (ti : Nat → Int64) : Nat → Int64 :=
  vp_updL ti c (ti c + 1000000000 + (dr c).toInt64 + ms (c * 9 + 6))
def gs_age (tm : Int32) (e : Nat) (RW : Nat → Int32) : Nat → Int32 :=
  if RW ((16 + e) * 10 + 8) = 0 then RW else
  if RW ((16 + e) * 10 + 9) + 1 = tm then gc_cp (upd RW ((16 + e) * 10 + 9) (RW ((16 + e) * 10 + 9) + 1)) gc_z 0 ((16 + e) * 10) 10 else upd RW ((16 + e) * 10 + 9) (RW ((16 + e) * 10 + 9) + 1)
def gs_listen (tm : Int32) (lu ec es : Nat → Int32) (e : Nat) (RW : Nat → Int32) : Nat → Int32 :=
  if lu (e / 2) = 0 then RW else
  if es (gc_ot e) = 1 ∧ RW ((8 + (ec (gc_ot e)).toNatClampNeg) * 10 + 6) ≤ 6 ∧ ¬ RW ((8 + (ec (gc_ot e)).toNatClampNeg) * 10 + 5) = ec e then gc_cp RW RW ((8 + (ec (gc_ot e)).toNatClampNeg) * 10) ((16 + e) * 10) 10 else gs_age tm e RW
/-- the comparison of two rows -/
def gs_cmp (RW : Nat → Int32) (x y k : Nat) : Int32 := gc_cmp (fun f => RW (x + f)) (fun f => RW (y + f)) k 0
def gs_bs (lu ec RW : Nat → Int32) (c i : Nat) (b : Option Nat) : Option Nat :=
  if ec i = nI c ∧ ¬ lu (i / 2) = 0 ∧ RW ((16 + i) * 10 + 8) = 1 then
    match b with
    | none => some i
    | some j => if gs_cmp RW ((16 + i) * 10) ((16 + j) * 10) 8 < 0 then some i else some j
  else b
def gs_it {σ : Type} (f : Nat → σ → σ) : Nat → Nat → σ → σ
  | 0, _, s => s
  | k + 1, i, s => gs_it f k (i + 1) (f i s)
def gs_best (L : Nat) (lu ec RW : Nat → Int32) (c : Nat) : Option Nat := gs_it (gs_bs lu ec RW c) (2 * L) 0 none
/-- the best end is an end of clock c that is up and whose store is valid -/
def gs_okb (L : Nat) (lu ec RW : Nat → Int32) (c : Nat) : Option Nat → Prop
  | none => True
  | some e => e < 2 * L ∧ ec e = nI c ∧ ¬ lu (e / 2) = 0 ∧ RW ((16 + e) * 10 + 8) = 1
theorem gs_bs_ok {L : Nat} {lu ec RW : Nat → Int32} {c i : Nat} {b : Option Nat} (hi : i < 2 * L) (h : gs_okb L lu ec RW c b) : gs_okb L lu ec RW c (gs_bs lu ec RW c i b) := by
  unfold gs_bs
  by_cases q : ec i = nI c ∧ ¬ lu (i / 2) = 0 ∧ RW ((16 + i) * 10 + 8) = 1
  · rw [if_pos q]
    cases b with
    | none => exact ⟨hi, q⟩
    | some j =>
      dsimp only
      split
      · exact ⟨hi, q⟩
      · exact h
  · rw [if_neg q]; exact h
theorem gs_it_ok {σ : Type} (f : Nat → σ → σ) (P : σ → Prop) (n : Nat) (hf : ∀ i s, i < n → P s → P (f i s)) : ∀ k i s, i + k ≤ n → P s → P (gs_it f k i s)
  | 0, _, _, _, h => h
  | k + 1, i, s, hk, h => gs_it_ok f P n hf k (i + 1) (f i s) (by omega) (hf i s (by omega) h)
theorem gs_best_ok {L : Nat} {lu ec RW : Nat → Int32} {c : Nat} : gs_okb L lu ec RW c (gs_best L lu ec RW c) :=
  gs_it_ok _ (gs_okb L lu ec RW c) (2 * L) (fun _ _ hi h => gs_bs_ok hi h) (2 * L) 0 none (by omega) trivial
/-- what chooseMaster changes: rows, parent, parent link, states -/
def gs_self (L : Nat) (lu ec : Nat → Int32) (c : Nat) (RW pa pl es : Nat → Int32) : (Nat → Int32) × (Nat → Int32) × (Nat → Int32) × (Nat → Int32) :=
  (gc_cp RW RW (c * 10) ((8 + c) * 10) 10, upd pa c (-1), upd pl c (-1), gc_fol ec lu es (fun _ => 1) c (2 * L))
def gs_pst (RW : Nat → Int32) (c e : Nat) : Int32 := if RW ((16 + e) * 10 + 8) = 1 ∧ gs_cmp RW ((16 + e) * 10) ((8 + c) * 10) 8 < 0 then 3 else 1
def gs_foll (L : Nat) (lu ec : Nat → Int32) (c b : Nat) (RW pa pl es : Nat → Int32) : (Nat → Int32) × (Nat → Int32) × (Nat → Int32) × (Nat → Int32) :=
  (gc_fR RW c b, upd pa c (RW ((16 + b) * 10 + 7)), upd pl c (nI (b / 2)), upd (gc_fol ec lu es (gs_pst (gc_fR RW c b) c) c (2 * L)) b 2)
def gs_choose (L : Nat) (lu ec : Nat → Int32) (c : Nat) (s : (Nat → Int32) × (Nat → Int32) × (Nat → Int32) × (Nat → Int32)) : (Nat → Int32) × (Nat → Int32) × (Nat → Int32) × (Nat → Int32) :=
  match gs_best L lu ec s.1 c with
  | none => gs_self L lu ec c s.1 s.2.1 s.2.2.1 s.2.2.2
  | some b => if gs_cmp s.1 (c * 10) ((16 + b) * 10) 6 < 0 then gs_self L lu ec c s.1 s.2.1 s.2.2.1 s.2.2.2 else gs_foll L lu ec c b s.1 s.2.1 s.2.2.1 s.2.2.2
end
section
/-! the component's small methods -/
abbrev gx (N C L : Nat) (tm : Int32) (RW dr : Nat → Int32) (ti : Nat → Int64) (pa pl : Nat → Int32) (ms : Nat → Int64) (md lu ec es ed : Nat → Int32) : SX := (nI N, nI C, tm, nI L, RW, dr, ti, pa, pl, ms, md, lu, ec, es, ed)
/-- what stays as it is through a step -/
def gx_ok (N L : Nat) (lu ec : Nat → Int32) : Prop := 2 ≤ N ∧ N ≤ 8 ∧ L ≤ 16 ∧ (∀ l, lu l = 0 ∨ lu l = 1) ∧ ∀ e, e < 2 * L → ∃ j, j < N ∧ ec e = nI j
theorem x_clamp {post : Int32 → Prop} {v lo hi : Int32} (h : post (gc_cl v lo hi)) : wpX_clamp post v lo hi := by
  unfold gc_cl at h
  by_cases h1 : v < lo
  · rw [if_pos h1] at h
    exact br_f (Int32.not_le.mpr h1) h
  · rw [if_neg h1] at h
    refine br_t (Int32.not_lt.mp h1) ?_
    by_cases h2 : hi < v
    · rw [if_pos h2] at h
      exact br_f (Int32.not_le.mpr h2) h
    · rw [if_neg h2] at h
      exact br_t (Int32.not_lt.mp h2) h
theorem x_clampL {post : Int64 → Prop} {v lo hi : Int64} (h : post (gc_clL v lo hi)) : wpX_clampLong post v lo hi := by
  unfold gc_clL at h
  by_cases h1 : v < lo
  · rw [if_pos h1] at h
    exact br_f (Int64.not_le.mpr h1) h
  · rw [if_neg h1] at h
    refine br_t (Int64.not_lt.mp h1) ?_
    by_cases h2 : hi < v
    · rw [if_pos h2] at h
      exact br_f (Int64.not_le.mpr h2) h
    · rw [if_neg h2] at h
      exact br_t (Int64.not_lt.mp h2) h
theorem x_firstEnd {post : Int32 → Prop} {l : Nat} (h : post (nI (2 * l))) : wpX_firstEnd post (nI l) := by
  unfold wpX_firstEnd
  rw [ix_2m]
  exact h
theorem x_otherEnd {post : Int32 → Prop} {e : Nat} (he : e < 32) (h : post (nI (gc_ot e))) : wpX_otherEnd post (nI e) := by
  unfold wpX_otherEnd
  rw [ix_x1 he]
  exact h
theorem x_linkOf {post : Int32 → Prop} {e : Nat} (he : e < 32) (h : post (nI (e / 2))) : wpX_linkOf post (nI e) := by
  unfold wpX_linkOf
  rw [ix_d2 (by omega)]
  exact ⟨by decide, h⟩
theorem x_datasetRow {post : Int32 → Prop} {c : Nat} (h : post (nI (c * 10))) : wpX_datasetRow post (nI c) := by
  unfold wpX_datasetRow
  rw [ix_m10]
  exact h
theorem x_vectorRow {post : Int32 → Prop} {c : Nat} (h : post (nI ((8 + c) * 10))) : wpX_vectorRow post (nI c) := by
  unfold wpX_vectorRow
  rw [ix_8a, ix_m10]
  exact h
theorem x_storeRow {post : Int32 → Prop} {e : Nat} (h : post (nI ((16 + e) * 10))) : wpX_storeRow post (nI e) := by
  unfold wpX_storeRow
  rw [ix_16a, ix_m10]
  exact h
theorem x_measureRow {post : Int32 → Prop} {c : Nat} (h : post (nI (c * 9))) : wpX_measureRow post (nI c) := by
  unfold wpX_measureRow
  rw [ix_m9]
  exact h
section
variable {N C L : Nat} {tm : Int32} {RW dr pa pl md lu ec es ed : Nat → Int32} {ti ms : Nat → Int64}
theorem x_isClock_t {post : Int32 → Prop} {c : Nat} (hN : N ≤ 8) (hc : c < N) (h : post 1) : wpX_isClock post (gx N C L tm RW dr ti pa pl ms md lu ec es ed) (nI c) :=
  br_f (nI_pos (by omega)) (br_f (nI_ge hc (by omega)) h)
theorem x_isClock_f {post : Int32 → Prop} {x : Int32} (hx : x < 0 ∨ nI N ≤ x) (h : post 0) : wpX_isClock post (gx N C L tm RW dr ti pa pl ms md lu ec es ed) x := by
  by_cases q : x < 0
  · exact br_t q h
  · exact br_f q (br_t (hx.resolve_left q) h)
theorem x_isLink_t {post : Int32 → Prop} {l : Nat} (hL : L ≤ 16) (hl : l < L) (h : post 1) : wpX_isLink post (gx N C L tm RW dr ti pa pl ms md lu ec es ed) (nI l) :=
  br_f (nI_pos (by omega)) (br_f (nI_ge hl (by omega)) h)
theorem x_isLink_f {post : Int32 → Prop} {x : Int32} (hx : x < 0 ∨ nI L ≤ x) (h : post 0) : wpX_isLink post (gx N C L tm RW dr ti pa pl ms md lu ec es ed) x := by
  by_cases q : x < 0
  · exact br_t q h
  · exact br_f q (br_t (hx.resolve_left q) h)
theorem x_endOf_f {post : Int32 → Prop} {x y : Int32} (hx : x < 0 ∨ nI N ≤ x) (h : post (-1)) : wpX_endOf post (gx N C L tm RW dr ti pa pl ms md lu ec es ed) x y := by
  unfold wpX_endOf
  dsimp only
  exact x_isClock_f hx (br_t rfl h)
theorem x_endOf {post : Int32 → Prop} {c : Nat} {x : Int32} (K : gx_ok N L lu ec) (hc : c < N) (h : post (gc_en (gs_end L ec c x))) : wpX_endOf post (gx N C L tm RW dr ti pa pl ms md lu ec es ed) (nI c) x := by
  obtain ⟨_, hN, hL, _, _⟩ := K
  unfold wpX_endOf
  dsimp only
  refine x_isClock_t hN hc (br_f (by decide) ?_)
  unfold gs_end at h
  rcases pk_ix x (n := L) (by omega) with hx | hx | ⟨l, hl, rfl⟩
  · rw [if_pos (Or.inl hx)] at h
    exact x_isLink_f (Or.inl hx) (br_t rfl h)
  · rw [if_pos (Or.inr hx)] at h
    exact x_isLink_f (Or.inr hx) (br_t rfl h)
  · rw [if_neg (fun z => z.elim (nI_pos (by omega)) (nI_ge hl (by omega))), nI_clamp (by omega)] at h
    refine x_isLink_t hL hl (br_f (by decide) ?_)
    refine x_firstEnd ?_
    refine x_otherEnd (by omega) ?_
    rw [gc_ot0]
    refine ⟨vp_in_nI (by omega) (by omega), ?_⟩
    rw [nI_clamp (by omega)]
    by_cases q : ec (2 * l) = nI c
    · rw [if_pos q] at h
      exact br_t q h
    · rw [if_neg q] at h
      refine br_f q ⟨vp_in_nI (by omega) (by omega), ?_⟩
      rw [nI_clamp (by omega)]
      by_cases r : ec (2 * l + 1) = nI c
      · rw [if_pos r] at h
        exact br_t r h
      · rw [if_neg r] at h
        exact br_f r h
theorem x_isUp_t {post : Int32 → Prop} {c e : Nat} (he : e < 32) (h1 : ec e = nI c) (h2 : ¬ lu (e / 2) = 0) (h : post 1) : wpX_isUpEndOf post (gx N C L tm RW dr ti pa pl ms md lu ec es ed) (nI c) (nI e) := by
  unfold wpX_isUpEndOf
  dsimp only
  refine ⟨vp_in_nI he (by omega), ?_⟩
  rw [nI_clamp (by omega)]
  refine br_t h1 (x_linkOf he ⟨vp_in_nI (by omega) (by omega), ?_⟩)
  rw [nI_clamp (by omega)]
  exact br_f h2 h
theorem x_isUp_f {post : Int32 → Prop} {c e : Nat} (he : e < 32) (hn : ¬ (ec e = nI c ∧ ¬ lu (e / 2) = 0)) (h : post 0) : wpX_isUpEndOf post (gx N C L tm RW dr ti pa pl ms md lu ec es ed) (nI c) (nI e) := by
  unfold wpX_isUpEndOf
  dsimp only
  refine ⟨vp_in_nI he (by omega), ?_⟩
  rw [nI_clamp (by omega)]
  by_cases h1 : ec e = nI c
  · refine br_t h1 (x_linkOf he ⟨vp_in_nI (by omega) (by omega), ?_⟩)
    rw [nI_clamp (by omega)]
    exact br_t (Classical.byContradiction fun z => hn ⟨h1, z⟩) h
  · exact br_f h1 h
/-- comparison of rows -/
theorem x_cmpl {post : Int32 → Prop} {x y K : Nat} (hx : x + K ≤ 480) (hy : y + K ≤ 480) : ∀ k i, i + k = K → post (gc_cmp (fun f => RW (x + f)) (fun f => RW (y + f)) k i) → wX_compareRows_3 post (nI x) (nI y) (nI K) (nI N) (nI C) tm (nI L) RW dr ti pa pl ms md lu ec es ed (k + 1) (nI i)
  | 0, i, hi, h => br_t (nI_le (by omega) (by omega)) h
  | k + 1, i, hi, h => by
    have v1 : vp_in (nI x + nI i) 480 := by rw [nI_add]; exact vp_in_nI (by omega) (by omega)
    have v2 : vp_in (nI y + nI i) 480 := by rw [nI_add]; exact vp_in_nI (by omega) (by omega)
    have c1 : (nI x + nI i).toNatClampNeg = x + i := by rw [nI_add]; exact nI_clamp (by omega)
    have c2 : (nI y + nI i).toNatClampNeg = y + i := by rw [nI_add]; exact nI_clamp (by omega)
    rw [gc_cmp] at h
    refine br_f (nI_ge (by omega) (by omega)) ⟨v1, v2, ?_⟩
    rw [c1, c2]
    by_cases q : RW (x + i) = RW (y + i)
    · rw [if_pos q] at h
      exact br_t q (nm_r (nI_1 i) (x_cmpl hx hy k (i + 1) (by omega) h))
    · rw [if_neg q] at h
      refine br_f q ⟨v1, v2, ?_⟩
      by_cases r : RW (x + i) < RW (y + i)
      · rw [if_pos r] at h
        exact br_f (Int32.not_le.mpr r) h
      · rw [if_neg r] at h
        exact br_t (Int32.not_lt.mp r) h
theorem x_cmp {post : Int32 → Prop} {x y K : Nat} (hx : x + K ≤ 480) (hy : y + K ≤ 480) (h : post (gs_cmp RW x y K)) : wpX_compareRows post (gx N C L tm RW dr ti pa pl ms md lu ec es ed) (nI x) (nI y) (nI K) :=
  ⟨K + 1, x_cmpl hx hy K 0 (by omega) h⟩
/-- a row copied -/
theorem x_copyl {post : SX → Prop} {x y : Nat} (hx : x + 10 ≤ 480) (hy : y + 10 ≤ 480) (hd : x + 10 ≤ y ∨ y + 10 ≤ x) (h : post (gx N C L tm (gc_cp RW RW x y 10) dr ti pa pl ms md lu ec es ed)) : ∀ k i, i + k = 10 → wX_copyRow_2 post (nI x) (nI y) (nI N) (nI C) tm (nI L) (k + 1) (nI i) (gc_cp RW RW x y i) dr ti pa pl ms md lu ec es ed
  | 0, i, hi => by
    obtain rfl : i = 10 := by omega
    exact br_t (nI_le (a := 10) (b := 10) (by omega) (by omega)) h
  | k + 1, i, hi => by
    have v1 : vp_in (nI x + nI i) 480 := by rw [nI_add]; exact vp_in_nI (by omega) (by omega)
    have v2 : vp_in (nI y + nI i) 480 := by rw [nI_add]; exact vp_in_nI (by omega) (by omega)
    have e : upd (gc_cp RW RW x y i) (nI y + nI i).toNatClampNeg (gc_cp RW RW x y i (nI x + nI i).toNatClampNeg) = gc_cp RW RW x y (i + 1) := by
      rw [nI_add, nI_add, nI_clamp (by omega), nI_clamp (by omega), gc_cp_out (by omega)]
      exact gc_cpS RW RW x y i
    exact br_f (nI_ge (b := 10) (by omega) (by omega)) ⟨v1, v2, nm_r e (nm_r (nI_1 i) (x_copyl hx hy hd h k (i + 1) (by omega)))⟩
theorem x_copy {post : SX → Prop} {x y : Nat} (hx : x + 10 ≤ 480) (hy : y + 10 ≤ 480) (hd : x + 10 ≤ y ∨ y + 10 ≤ x) (h : post (gx N C L tm (gc_cp RW RW x y 10) dr ti pa pl ms md lu ec es ed)) : wpX_copyRow post (gx N C L tm RW dr ti pa pl ms md lu ec es ed) (nI x) (nI y) := by
  have := x_copyl hx hy hd h 10 0 (by omega)
  rw [gc_cp0] at this
  exact ⟨11, this⟩
/-- a store cleared -/
theorem x_clearl {post : SX → Prop} {y : Nat} (hy : y + 10 ≤ 480) (h : post (gx N C L tm (gc_cp RW gc_z 0 y 10) dr ti pa pl ms md lu ec es ed)) : ∀ k i, i + k = 10 → wX_clearStore_7 post (nI y) (nI N) (nI C) tm (nI L) (k + 1) (nI i) (gc_cp RW gc_z 0 y i) dr ti pa pl ms md lu ec es ed
  | 0, i, hi => by
    obtain rfl : i = 10 := by omega
    exact br_t (nI_le (a := 10) (b := 10) (by omega) (by omega)) h
  | k + 1, i, hi => by
    have v2 : vp_in (nI y + nI i) 480 := by rw [nI_add]; exact vp_in_nI (by omega) (by omega)
    have e : upd (gc_cp RW gc_z 0 y i) (nI y + nI i).toNatClampNeg 0 = gc_cp RW gc_z 0 y (i + 1) := by
      rw [nI_add, nI_clamp (by omega)]
      exact gc_cpS RW gc_z 0 y i
    exact br_f (nI_ge (b := 10) (by omega) (by omega)) ⟨v2, nm_r e (nm_r (nI_1 i) (x_clearl hy h k (i + 1) (by omega)))⟩
theorem x_clear {post : SX → Prop} {e : Nat} (he : e < 32) (h : post (gx N C L tm (gc_cp RW gc_z 0 ((16 + e) * 10) 10) dr ti pa pl ms md lu ec es ed)) : wpX_clearStore post (gx N C L tm RW dr ti pa pl ms md lu ec es ed) (nI e) := by
  unfold wpX_clearStore
  dsimp only
  refine x_storeRow ?_
  have := x_clearl (y := (16 + e) * 10) (by omega) h 10 0 (by omega)
  rw [gc_cp0] at this
  exact ⟨11, this⟩
end
end
section
/-! the component's step, phase by phase -/
theorem gs_end_lt {L c e : Nat} {ec : Nat → Int32} {x : Int32} (hL : L ≤ 16) (h : gs_end L ec c x = some e) : e < 2 * L := by
  unfold gs_end at h
  rcases pk_ix x (n := L) (by omega) with hx | hx | ⟨l, hl, rfl⟩
  · rw [if_pos (Or.inl hx)] at h
    exact absurd h.symm (Option.some_ne_none e)
  · rw [if_pos (Or.inr hx)] at h
    exact absurd h.symm (Option.some_ne_none e)
  · rw [if_neg (fun z => z.elim (nI_pos (by omega)) (nI_ge hl (by omega))), nI_clamp (by omega)] at h
    split at h
    · have := Option.some.inj h
      omega
    · split at h
      · have := Option.some.inj h
        omega
      · exact absurd h.symm (Option.some_ne_none e)
theorem gc_en_ne {e : Nat} (h : e < 2 ^ 31) : ¬ nI e = -1 := by
  intro z
  have := nI_pos h
  rw [z] at this
  exact this (by decide)
section
variable {N C L : Nat} {tm : Int32} {RW dr pa pl md lu ec es ed : Nat → Int32} {ti ms : Nat → Int64}
theorem x_srv {post : Int32 → Prop} {e : Nat} (he : e < 32) (h : post (if ¬ lu (e / 2) = 0 ∧ es e = 2 ∧ es (gc_ot e) = 1 then 1 else 0)) : wpX_isServed post (gx N C L tm RW dr ti pa pl ms md lu ec es ed) (nI e) := by
  have ho : gc_ot e < 32 := gc_otlt (n := 16) he
  unfold wpX_isServed
  refine x_linkOf he ⟨vp_in_nI (by omega) (by omega), ?_⟩
  rw [nI_clamp (by omega)]
  by_cases a : lu (e / 2) = 0
  · rw [if_neg (fun z => z.1 a)] at h
    exact br_t a h
  · refine br_f a ⟨vp_in_nI he (by omega), ?_⟩
    rw [nI_clamp (by omega)]
    by_cases b : es e = 2
    · refine br_t b (x_otherEnd he ⟨vp_in_nI ho (by omega), ?_⟩)
      rw [nI_clamp (by omega)]
      by_cases d : es (gc_ot e) = 1
      · rw [if_pos ⟨a, b, d⟩] at h
        exact br_t d h
      · rw [if_neg (fun z => d z.2.2)] at h
        exact br_f d h
    · rw [if_neg (fun z => b z.2.1)] at h
      exact br_f b h
theorem x_meas0 {post : SX → Prop} {c : Nat} {x : Int32} (hc : c < 8) (h : post (gx N C L tm RW dr ti pa pl ms (upd md c 0) lu ec es ed)) : wX_measure_35 post (nI c) x 0 (nI c) (nI N) (nI C) tm (nI L) RW dr ti pa pl ms md lu ec es ed := by
  have e : upd md (nI c).toNatClampNeg (vp_nar .boolean 0) = upd md c 0 := by
    rw [nI_clamp (by omega)]; rfl
  exact ⟨vp_in_nI hc (by omega), nm_r e ⟨vp_in_nI hc (by omega), br_t (by rw [nI_clamp (by omega), pk_us]) h⟩⟩
theorem x_meas1 {post : SX → Prop} {c e : Nat} (K : gx_ok N L lu ec) (hc : c < N) (he : e < 2 * L) (h : post (gx N C L tm RW dr ti pa pl (gs_ms ec ed ti ms c e) (upd md c 1) lu ec es ed)) : wX_measure_35 post (nI c) (nI e) 1 (nI c) (nI N) (nI C) tm (nI L) RW dr ti pa pl ms md lu ec es ed := by
  obtain ⟨_, hN, hL, _, hE⟩ := K
  have ho : gc_ot e < 2 * L := gc_otlt he
  obtain ⟨j, hj, ej⟩ := hE _ ho
  have e1 : upd md (nI c).toNatClampNeg (vp_nar .boolean 1) = upd md c 1 := by
    rw [nI_clamp (by omega)]; rfl
  have ve : vp_in (ec (gc_ot e)) 8 := by rw [ej]; exact vp_in_nI (by omega) (by omega)
  refine ⟨vp_in_nI (by omega) (by omega), nm_r e1 ⟨vp_in_nI (by omega) (by omega), br_f (by rw [nI_clamp (by omega), pk_us]; decide) (x_otherEnd (by omega) ?_)⟩⟩
  simp (disch := omega) only [nI_clamp]
  refine ⟨vp_in_nI (by omega) (by omega), ve, nm_e ⟨vp_in_nI (by omega) (by omega), vp_in_nI (by omega) (by omega), nm_e ⟨vp_in_nI (by omega) (by omega), vp_in_nI (by omega) (by omega), nm_e (x_measureRow ?_)⟩⟩⟩
  simp (disch := omega) only [ix_m6, ix_m8, ix_m9, ix_m10, ix_m2, ix_2m, ix_8a, ix_16a, ix_a0, ix_a1, ix_a2, ix_a3, ix_a4, ix_a5, ix_a6, ix_a7, ix_a8, ix_a9, nI_add, nI_clamp]
  exact ⟨by decide, vp_in_nI (by omega) (by omega), nm_e ⟨by decide, vp_in_nI (by omega) (by omega), nm_e ⟨vp_in_nI (by omega) (by omega), nm_e ⟨vp_in_nI (by omega) (by omega), nm_e ⟨vp_in_nI (by omega) (by omega), nm_e ⟨vp_in_nI (by omega) (by omega), nm_e ⟨vp_in_nI (by omega) (by omega), vp_in_nI (by omega) (by omega), nm_e h⟩⟩⟩⟩⟩⟩⟩
theorem x_measure {post : SX → Prop} {c : Nat} (K : gx_ok N L lu ec) (hc : c < N) (h : post (gx N C L tm RW dr ti pa pl ((gs_meas L pl lu ec es ed ti c (md, ms)).2) ((gs_meas L pl lu ec es ed ti c (md, ms)).1) lu ec es ed)) : wpX_measure post (gx N C L tm RW dr ti pa pl ms md lu ec es ed) (nI c) := by
  have hN : N ≤ 8 := K.2.1
  have hL : L ≤ 16 := K.2.2.1
  unfold wpX_measure
  refine ⟨vp_in_nI (by omega) (by omega), x_endOf K hc ?_⟩
  rw [nI_clamp (by omega)]
  unfold gs_meas at h
  cases hq : gs_end L ec c (pl c) with
  | none =>
    rw [hq] at h
    exact br_t rfl (x_meas0 (by omega) h)
  | some e =>
    rw [hq] at h
    have he := gs_end_lt hL hq
    dsimp only at h
    refine br_f (gc_en_ne (by omega)) (x_srv (by omega) ?_)
    by_cases s : ¬ lu (e / 2) = 0 ∧ es e = 2 ∧ es (gc_ot e) = 1
    · rw [if_pos s]
      rw [if_pos s] at h
      exact br_f (by decide) (x_meas1 K hc he h)
    · rw [if_neg s]
      rw [if_neg s] at h
      exact br_t rfl (x_meas0 (by omega) h)
theorem x_steer {post : SX → Prop} {c : Nat} (hc : c < 8) (h : post (gx N C L tm RW dr ((gs_steer md c (ti, ms)).1) pa pl ((gs_steer md c (ti, ms)).2) md lu ec es ed)) : wpX_steer post (gx N C L tm RW dr ti pa pl ms md lu ec es ed) (nI c) := by
  unfold gs_steer at h
  dsimp only at h
  unfold wpX_steer
  refine ⟨vp_in_nI hc (by omega), ?_⟩
  rw [nI_clamp (by omega)]
  by_cases a : md c = 0
  · rw [if_pos a] at h
    exact br_t a h
  · rw [if_neg a] at h
    refine br_f a (x_measureRow ?_)
    simp (disch := omega) only [ix_m6, ix_m8, ix_m9, ix_m10, ix_m2, ix_2m, ix_8a, ix_16a, ix_a0, ix_a1, ix_a2, ix_a3, ix_a4, ix_a5, ix_a6, ix_a7, ix_a8, ix_a9, nI_add, nI_clamp]
    refine ⟨vp_in_nI (by omega) (by omega), nm_e ?_⟩
    have f1 : 1000000 < ms (c * 9 + 0) ∨ ms (c * 9 + 0) < -1000000 → wX_steer_40 post (nI c) (ms (c * 9 + 0)) (nI N) (nI C) tm (nI L) RW dr ti pa pl ms md lu ec es ed := by
      intro z
      rw [if_pos z] at h
      unfold wX_steer_40
      rw [nI_clamp (by omega)]
      exact ⟨vp_in_nI hc (by omega), vp_in_nI hc (by omega), nm_e h⟩
    by_cases b : 1000000 < ms (c * 9 + 0)
    · exact br_t b (f1 (Or.inl b))
    · refine br_f b ?_
      by_cases d : ms (c * 9 + 0) < -1000000
      · exact br_f (Int64.not_le.mpr d) (f1 (Or.inr d))
      · rw [if_neg (fun z => z.elim b d)] at h
        exact br_t (Int64.not_lt.mp d) ⟨vp_in_nI (by omega) (by omega), by decide, x_clampL ⟨vp_in_nI (by omega) (by omega), nm_e ⟨by decide, x_clampL ⟨vp_in_nI (by omega) (by omega), nm_e h⟩⟩⟩⟩
theorem x_advance {post : SX → Prop} {c : Nat} (hc : c < 8) (h : post (gx N C L tm RW dr (gs_adv dr ms c ti) pa pl ms md lu ec es ed)) : wpX_advance post (gx N C L tm RW dr ti pa pl ms md lu ec es ed) (nI c) := by
  unfold wpX_advance
  refine ⟨vp_in_nI hc (by omega), vp_in_nI hc (by omega), x_measureRow ?_⟩
  simp (disch := omega) only [ix_m6, ix_m8, ix_m9, ix_m10, ix_m2, ix_2m, ix_8a, ix_16a, ix_a0, ix_a1, ix_a2, ix_a3, ix_a4, ix_a5, ix_a6, ix_a7, ix_a8, ix_a9, nI_add, nI_clamp]
  exact ⟨vp_in_nI (by omega) (by omega), vp_in_nI hc (by omega), nm_e h⟩
theorem x_accepts {post : Int32 → Prop} {x : Int32} {v : Nat} (hv : v + 10 ≤ 480) (h : post (if RW (v + 6) ≤ 6 ∧ ¬ RW (v + 5) = x then 1 else 0)) : wpX_accepts post (gx N C L tm RW dr ti pa pl ms md lu ec es ed) x (nI v) := by
  unfold wpX_accepts
  simp (disch := omega) only [ix_m6, ix_m8, ix_m9, ix_m10, ix_m2, ix_2m, ix_8a, ix_16a, ix_a0, ix_a1, ix_a2, ix_a3, ix_a4, ix_a5, ix_a6, ix_a7, ix_a8, ix_a9, nI_add, nI_clamp]
  refine ⟨vp_in_nI (by omega) (by omega), ?_⟩
  by_cases a : RW (v + 6) ≤ 6
  · refine br_f (Int32.not_lt.mpr a) ⟨vp_in_nI (by omega) (by omega), ?_⟩
    by_cases b : RW (v + 5) = x
    · rw [if_neg (fun z => z.2 b)] at h
      exact br_t b h
    · rw [if_pos ⟨a, b⟩] at h
      exact br_f b h
  · rw [if_neg (fun z => a z.1)] at h
    exact br_t (Int32.not_le.mp a) h
theorem x_age {post : SX → Prop} {e : Nat} (he : e < 32) (h : post (gx N C L tm (gs_age tm e RW) dr ti pa pl ms md lu ec es ed)) : wpX_ageStore post (gx N C L tm RW dr ti pa pl ms md lu ec es ed) (nI e) := by
  unfold gs_age at h
  unfold wpX_ageStore
  refine x_storeRow ?_
  simp (disch := omega) only [ix_m6, ix_m8, ix_m9, ix_m10, ix_m2, ix_2m, ix_8a, ix_16a, ix_a0, ix_a1, ix_a2, ix_a3, ix_a4, ix_a5, ix_a6, ix_a7, ix_a8, ix_a9, nI_add, nI_clamp]
  refine ⟨vp_in_nI (by omega) (by omega), ?_⟩
  by_cases a : RW ((16 + e) * 10 + 8) = 0
  · rw [if_pos a] at h
    exact br_t a h
  · rw [if_neg a] at h
    refine br_f a ⟨vp_in_nI (by omega) (by omega), vp_in_nI (by omega) (by omega), nm_e ⟨vp_in_nI (by omega) (by omega), ?_⟩⟩
    rw [pk_us]
    by_cases b : RW ((16 + e) * 10 + 9) + 1 = tm
    · rw [if_pos b] at h
      exact br_t b (x_clear he h)
    · rw [if_neg b] at h
      exact br_f b h
theorem x_listen {post : SX → Prop} {e : Nat} (K : gx_ok N L lu ec) (he : e < 2 * L) (h : post (gx N C L tm (gs_listen tm lu ec es e RW) dr ti pa pl ms md lu ec es ed)) : wpX_listen post (gx N C L tm RW dr ti pa pl ms md lu ec es ed) (nI e) := by
  obtain ⟨_, hN, hL, _, hE⟩ := K
  have ho : gc_ot e < 2 * L := gc_otlt he
  obtain ⟨j, hj, ej⟩ := hE _ ho
  unfold gs_listen at h
  unfold wpX_listen
  refine x_linkOf (by omega) ⟨vp_in_nI (by omega) (by omega), ?_⟩
  rw [nI_clamp (by omega)]
  by_cases a : lu (e / 2) = 0
  · rw [if_pos a] at h
    exact br_t a h
  · rw [if_neg a] at h
    refine br_f a (x_otherEnd (by omega) ?_)
    simp (disch := omega) only [nI_clamp]
    rw [ej, nI_clamp (by omega)] at h
    rw [ej]
    refine ⟨vp_in_nI (by omega) (by omega), x_vectorRow ⟨vp_in_nI (by omega) (by omega), ?_⟩⟩
    by_cases b : es (gc_ot e) = 1
    · refine br_t b ⟨vp_in_nI (by omega) (by omega), x_accepts (by omega) ?_⟩
      by_cases d : RW ((8 + j) * 10 + 6) ≤ 6 ∧ ¬ RW ((8 + j) * 10 + 5) = ec e
      · rw [if_pos d]
        rw [if_pos ⟨b, d⟩] at h
        exact br_f (by decide) (x_storeRow (x_copy (by omega) (by omega) (by omega) h))
      · rw [if_neg d]
        rw [if_neg (fun z => d z.2)] at h
        exact br_t rfl (x_age (by omega) h)
    · rw [if_neg (fun z => b z.1)] at h
      exact br_f b (x_age (by omega) h)
end
end
section
/-! the component's choice of a master, and its step -/
def gs_bp : Option Nat → Int32
  | none => 0
  | some j => nI ((16 + j) * 10)
section
variable {N C L : Nat} {tm : Int32} {RW dr pa pl md lu ec es ed : Nat → Int32} {ti ms : Nat → Int64}
theorem x_bestl {post : Int32 → Prop} {c : Nat} (hL : L ≤ 16) : ∀ k i b, i + k = 2 * L → gs_okb L lu ec RW c b → post (gc_en (gs_it (gs_bs lu ec RW c) k i b)) → wX_bestEnd_7 post (nI c) (nI N) (nI C) tm (nI L) RW dr ti pa pl ms md lu ec es ed (k + 1) (gc_en b) (gs_bp b) (nI i)
  | 0, i, b, hi, hb, h => br_t (by rw [ix_2m]; exact nI_le (by omega) (by omega)) h
  | k + 1, i, b, hi, hb, h => by
    have hi2 : i < 2 * L := by omega
    have hk : gs_okb L lu ec RW c (gs_bs lu ec RW c i b) := gs_bs_ok hi2 hb
    have h' : post (gc_en (gs_it (gs_bs lu ec RW c) k (i + 1) (gs_bs lu ec RW c i b))) := h
    have ih := x_bestl (post := post) hL k (i + 1) (gs_bs lu ec RW c i b) (by omega) hk h'
    refine br_f (by rw [ix_2m]; exact nI_ge (by omega) (by omega)) (x_storeRow ?_)
    unfold gs_bs at ih
    by_cases u : ec i = nI c ∧ ¬ lu (i / 2) = 0
    · refine x_isUp_t (by omega) u.1 u.2 (br_f (by decide) ?_)
      simp (disch := omega) only [ix_m6, ix_m8, ix_m9, ix_m10, ix_m2, ix_2m, ix_8a, ix_16a, ix_a0, ix_a1, ix_a2, ix_a3, ix_a4, ix_a5, ix_a6, ix_a7, ix_a8, ix_a9, nI_add, nI_clamp]
      refine ⟨vp_in_nI (by omega) (by omega), ?_⟩
      by_cases v : RW ((16 + i) * 10 + 8) = 1
      · rw [if_pos ⟨u.1, u.2, v⟩] at ih
        refine br_t v ?_
        cases b with
        | none => exact br_t rfl (nm_e ih)
        | some j =>
          dsimp only at ih
          have hj : j < 2 * L := hb.1
          refine br_f (gc_en_ne (by omega)) (x_cmp (K := 8) (by omega) (by omega) ?_)
          by_cases w : gs_cmp RW ((16 + i) * 10) ((16 + j) * 10) 8 < 0
          · rw [if_pos w] at ih
            exact br_f (Int32.not_le.mpr w) (nm_e ih)
          · rw [if_neg w] at ih
            exact br_t (Int32.not_lt.mp w) (nm_e ih)
      · rw [if_neg (fun z => v z.2.2)] at ih
        exact br_f v (nm_e ih)
    · rw [if_neg (fun z => u ⟨z.1, z.2.1⟩)] at ih
      exact x_isUp_f (by omega) u (br_t rfl (nm_r (nI_1 i) ih))
theorem x_best {post : Int32 → Prop} {c : Nat} (hL : L ≤ 16) (h : post (gc_en (gs_best L lu ec RW c))) : wpX_bestEnd post (gx N C L tm RW dr ti pa pl ms md lu ec es ed) (nI c) :=
  ⟨2 * L + 1, x_bestl hL (2 * L) 0 none (by omega) trivial h⟩
theorem x_selfl {post : SX → Prop} {c : Nat} (hL : L ≤ 16) (h : post (gx N C L tm RW dr ti pa pl ms md lu ec (gc_fol ec lu es (fun _ => 1) c (2 * L)) ed)) : ∀ k i, i + k = 2 * L → wX_followItself_33 post (nI c) (nI N) (nI C) tm (nI L) (k + 1) (nI i) RW dr ti pa pl ms md lu ec (gc_fol ec lu es (fun _ => 1) c i) ed
  | 0, i, hi => by
    obtain rfl : i = 2 * L := by omega
    exact br_t (by rw [ix_2m]; exact nI_le (by omega) (by omega)) h
  | k + 1, i, hi => by
    have ih := x_selfl (post := post) hL h k (i + 1) (by omega)
    refine br_f (by rw [ix_2m]; exact nI_ge (by omega) (by omega)) ?_
    by_cases u : ec i = nI c ∧ ¬ lu (i / 2) = 0
    · have e : upd (gc_fol ec lu es (fun _ => 1) c i) (nI i).toNatClampNeg 1 = gc_fol ec lu es (fun _ => 1) c (i + 1) := by
        rw [nI_clamp (by omega)]; exact gc_folT (p := fun _ => 1) u.1 u.2
      exact x_isUp_t (by omega) u.1 u.2 (br_f (by decide) ⟨vp_in_nI (by omega) (by omega), nm_r e (nm_r (nI_1 i) ih)⟩)
    · rw [← gc_folF u] at ih
      exact x_isUp_f (by omega) u (br_t rfl (nm_r (nI_1 i) ih))
theorem x_self {post : SX → Prop} {c : Nat} (hL : L ≤ 16) (hc : c < 8) (h : post (gx N C L tm ((gs_self L lu ec c RW pa pl es).1) dr ti ((gs_self L lu ec c RW pa pl es).2.1) ((gs_self L lu ec c RW pa pl es).2.2.1) ms md lu ec ((gs_self L lu ec c RW pa pl es).2.2.2) ed)) : wpX_followItself post (gx N C L tm RW dr ti pa pl ms md lu ec es ed) (nI c) := by
  have e1 : upd pa (nI c).toNatClampNeg (-1) = upd pa c (-1) := by rw [nI_clamp (by omega)]
  have e2 : upd pl (nI c).toNatClampNeg (-1) = upd pl c (-1) := by rw [nI_clamp (by omega)]
  have l := x_selfl (post := post) (c := c) (RW := gc_cp RW RW (c * 10) ((8 + c) * 10) 10) (pa := upd pa c (-1)) (pl := upd pl c (-1)) hL h (2 * L) 0 (by omega)
  rw [gc_fol0] at l
  unfold wpX_followItself
  exact x_datasetRow (x_vectorRow (x_copy (by omega) (by omega) (by omega) ⟨vp_in_nI hc (by omega), nm_r e1 ⟨vp_in_nI hc (by omega), nm_r e2 ⟨_, l⟩⟩⟩))
theorem x_folll {post : SX → Prop} {c b : Nat} (hL : L ≤ 16) (hc : c < 8) (hb : b < 32) (h : post (gx N C L tm RW dr ti pa pl ms md lu ec (upd (gc_fol ec lu es (gs_pst RW c) c (2 * L)) b 2) ed)) : ∀ k i, i + k = 2 * L → wX_followEnd_82 post (nI c) (nI b) (nI ((8 + c) * 10)) (nI N) (nI C) tm (nI L) (k + 1) (nI i) RW dr ti pa pl ms md lu ec (gc_fol ec lu es (gs_pst RW c) c i) ed
  | 0, i, hi => by
    obtain rfl : i = 2 * L := by omega
    have e : upd (gc_fol ec lu es (gs_pst RW c) c (2 * L)) (nI b).toNatClampNeg 2 = upd (gc_fol ec lu es (gs_pst RW c) c (2 * L)) b 2 := by rw [nI_clamp (by omega)]
    exact br_t (by rw [ix_2m]; exact nI_le (by omega) (by omega)) ⟨vp_in_nI hb (by omega), nm_r e h⟩
  | k + 1, i, hi => by
    have ih := x_folll (post := post) hL hc hb h k (i + 1) (by omega)
    refine br_f (by rw [ix_2m]; exact nI_ge (by omega) (by omega)) ?_
    by_cases u : ec i = nI c ∧ ¬ lu (i / 2) = 0
    · have e := gc_folT (es := es) (p := gs_pst RW c) u.1 u.2
      refine x_isUp_t (by omega) u.1 u.2 (br_f (by decide) (x_storeRow ?_))
      simp (disch := omega) only [ix_m6, ix_m8, ix_m9, ix_m10, ix_m2, ix_2m, ix_8a, ix_16a, ix_a0, ix_a1, ix_a2, ix_a3, ix_a4, ix_a5, ix_a6, ix_a7, ix_a8, ix_a9, nI_add, nI_clamp]
      refine ⟨vp_in_nI (by omega) (by omega), ?_⟩
      have f1 : gs_pst RW c i = 1 → upd (gc_fol ec lu es (gs_pst RW c) c i) (nI i).toNatClampNeg 1 = gc_fol ec lu es (gs_pst RW c) c (i + 1) := by
        intro z
        rw [z] at e
        rw [nI_clamp (by omega)]; exact e
      have f3 : gs_pst RW c i = 3 → upd (gc_fol ec lu es (gs_pst RW c) c i) (nI i).toNatClampNeg 3 = gc_fol ec lu es (gs_pst RW c) c (i + 1) := by
        intro z
        rw [z] at e
        rw [nI_clamp (by omega)]; exact e
      by_cases v : RW ((16 + i) * 10 + 8) = 1
      · refine br_t v (x_cmp (K := 8) (by omega) (by omega) ?_)
        by_cases w : gs_cmp RW ((16 + i) * 10) ((8 + c) * 10) 8 < 0
        · exact br_f (Int32.not_le.mpr w) (br_f (by decide) ⟨vp_in_nI (by omega) (by omega), nm_r (f3 (if_pos ⟨v, w⟩)) (nm_r (nI_1 i) ih)⟩)
        · exact br_t (Int32.not_lt.mp w) (br_t rfl ⟨vp_in_nI (by omega) (by omega), nm_r (f1 (if_neg (fun z => w z.2))) (nm_r (nI_1 i) ih)⟩)
      · exact br_f v (br_t rfl ⟨vp_in_nI (by omega) (by omega), nm_r (f1 (if_neg (fun z => v z.1))) (nm_r (nI_1 i) ih)⟩)
    · rw [← gc_folF u] at ih
      exact x_isUp_f (by omega) u (br_t rfl (nm_r (nI_1 i) ih))
theorem x_foll {post : SX → Prop} {c b : Nat} (hL : L ≤ 16) (hc : c < 8) (hb : b < 32) (h : post (gx N C L tm ((gs_foll L lu ec c b RW pa pl es).1) dr ti ((gs_foll L lu ec c b RW pa pl es).2.1) ((gs_foll L lu ec c b RW pa pl es).2.2.1) ms md lu ec ((gs_foll L lu ec c b RW pa pl es).2.2.2) ed)) : wpX_followEnd post (gx N C L tm RW dr ti pa pl ms md lu ec es ed) (nI c) (nI b) := by
  have l := x_folll (post := post) (RW := gc_fR RW c b) (pa := upd pa c (RW ((16 + b) * 10 + 7))) (pl := upd pl c (nI (b / 2))) hL hc hb h (2 * L) 0 (by omega)
  rw [gc_fol0] at l
  have g6 : gc_cp RW RW ((16 + b) * 10) ((8 + c) * 10) 10 ((8 + c) * 10 + 6) = RW ((16 + b) * 10 + 6) := gc_cp_in (by omega)
  have g7 : gc_fR RW c b ((16 + b) * 10 + 7) = RW ((16 + b) * 10 + 7) := gc_fRout (by omega)
  unfold wpX_followEnd
  refine x_storeRow (x_vectorRow (x_copy (by omega) (by omega) (by omega) ?_))
  simp (disch := omega) only [ix_m6, ix_m8, ix_m9, ix_m10, ix_m2, ix_2m, ix_8a, ix_16a, ix_a0, ix_a1, ix_a2, ix_a3, ix_a4, ix_a5, ix_a6, ix_a7, ix_a8, ix_a9, nI_add, nI_clamp]
  refine ⟨vp_in_nI (by omega) (by omega), vp_in_nI (by omega) (by omega), nm_r (by rw [g6]) ⟨vp_in_nI (by omega) (by omega), nm_e ⟨vp_in_nI (by omega) (by omega), nm_r (e' := gc_fR RW c b) rfl ⟨vp_in_nI (by omega) (by omega), vp_in_nI (by omega) (by omega), nm_r (by rw [g7]) (x_linkOf hb ⟨vp_in_nI (by omega) (by omega), nm_e ⟨_, l⟩⟩)⟩⟩⟩⟩
theorem x_choose {post : SX → Prop} {c : Nat} (hL : L ≤ 16) (hc : c < 8) (h : post (gx N C L tm ((gs_choose L lu ec c (RW, pa, pl, es)).1) dr ti ((gs_choose L lu ec c (RW, pa, pl, es)).2.1) ((gs_choose L lu ec c (RW, pa, pl, es)).2.2.1) ms md lu ec ((gs_choose L lu ec c (RW, pa, pl, es)).2.2.2) ed)) : wpX_chooseMaster post (gx N C L tm RW dr ti pa pl ms md lu ec es ed) (nI c) := by
  have ok : gs_okb L lu ec RW c (gs_best L lu ec RW c) := gs_best_ok
  unfold gs_choose at h
  unfold wpX_chooseMaster
  refine x_best hL ?_
  cases hq : gs_best L lu ec RW c with
  | none =>
    rw [hq] at h
    exact br_t rfl (x_self hL hc h)
  | some b =>
    rw [hq] at h ok
    dsimp only at h
    have hb : b < 2 * L := ok.1
    refine br_f (gc_en_ne (by omega)) (x_datasetRow (x_storeRow (x_cmp (K := 6) (by omega) (by omega) ?_)))
    by_cases w : gs_cmp RW (c * 10) ((16 + b) * 10) 6 < 0
    · rw [if_pos w] at h
      exact br_f (Int32.not_le.mpr w) (x_self hL hc h)
    · rw [if_neg w] at h
      exact br_t (Int32.not_lt.mp w) (x_foll hL hc (by omega) h)
end
end
section
/-! the component's step as a whole -/
def gs_stX (N C L : Nat) (tm : Int32) (RW dr : Nat → Int32) (ti : Nat → Int64) (pa pl : Nat → Int32) (ms : Nat → Int64) (md lu ec es ed : Nat → Int32) : SX :=
  let s1 := gs_it (gs_meas L pl lu ec es ed ti) N 0 (md, ms)
  let s2 := gs_it (gs_steer s1.1) N 0 (ti, s1.2)
  let t3 := gs_it (gs_adv dr s2.2) N 0 s2.1
  let r4 := gs_it (gs_listen tm lu ec es) (2 * L) 0 RW
  let s5 := gs_it (gs_choose L lu ec) N 0 (r4, pa, pl, es)
  gx N C L tm s5.1 dr t3 s5.2.1 s5.2.2.1 s2.2 s1.1 lu ec s5.2.2.2 ed
section
variable {N C L : Nat} {tm : Int32} {RW dr pa pl md lu ec es ed : Nat → Int32} {ti ms : Nat → Int64}
theorem x_st5 {post : SX → Prop} (K : gx_ok N L lu ec) : ∀ k i RW pa pl es, i + k = N → post (gx N C L tm ((gs_it (gs_choose L lu ec) k i (RW, pa, pl, es)).1) dr ti ((gs_it (gs_choose L lu ec) k i (RW, pa, pl, es)).2.1) ((gs_it (gs_choose L lu ec) k i (RW, pa, pl, es)).2.2.1) ms md lu ec ((gs_it (gs_choose L lu ec) k i (RW, pa, pl, es)).2.2.2) ed) → wX_step_88 post (k + 1) (nI i) (nI N) (nI C) tm (nI L) RW dr ti pa pl ms md lu ec es ed
  | 0, i, RW, pa, pl, es, hi, h => br_t (nI_le (by omega) (by have := K.2.1; omega)) h
  | k + 1, i, RW, pa, pl, es, hi, h => by
    have hN := K.2.1
    exact br_f (nI_ge (by omega) (by omega)) (x_choose K.2.2.1 (by omega) (nm_r (nI_1 i) (x_st5 K k (i + 1) _ _ _ _ (by omega) h)))
theorem x_st4 {post : SX → Prop} (K : gx_ok N L lu ec) : ∀ k i RW, i + k = 2 * L → (∃ n, wX_step_88 post n 0 (nI N) (nI C) tm (nI L) (gs_it (gs_listen tm lu ec es) k i RW) dr ti pa pl ms md lu ec es ed) → wX_step_65 post (k + 1) (nI i) (nI N) (nI C) tm (nI L) RW dr ti pa pl ms md lu ec es ed
  | 0, i, RW, hi, h => br_t (by rw [ix_2m]; exact nI_le (by omega) (by have := K.2.2.1; omega)) h
  | k + 1, i, RW, hi, h => by
    have hL := K.2.2.1
    exact br_f (by rw [ix_2m]; exact nI_ge (by omega) (by omega)) (x_listen K (by omega) (nm_r (nI_1 i) (x_st4 K k (i + 1) _ (by omega) h)))
theorem x_st3 {post : SX → Prop} (K : gx_ok N L lu ec) : ∀ k i ti, i + k = N → (∃ n, wX_step_65 post n 0 (nI N) (nI C) tm (nI L) RW dr (gs_it (gs_adv dr ms) k i ti) pa pl ms md lu ec es ed) → wX_step_44 post (k + 1) (nI i) (nI N) (nI C) tm (nI L) RW dr ti pa pl ms md lu ec es ed
  | 0, i, ti, hi, h => br_t (nI_le (by omega) (by have := K.2.1; omega)) h
  | k + 1, i, ti, hi, h => by
    have hN := K.2.1
    exact br_f (nI_ge (by omega) (by omega)) (x_advance (by omega) (nm_r (nI_1 i) (x_st3 K k (i + 1) _ (by omega) h)))
theorem x_st2 {post : SX → Prop} (K : gx_ok N L lu ec) : ∀ k i ti ms, i + k = N → (∃ n, wX_step_44 post n 0 (nI N) (nI C) tm (nI L) RW dr ((gs_it (gs_steer md) k i (ti, ms)).1) pa pl ((gs_it (gs_steer md) k i (ti, ms)).2) md lu ec es ed) → wX_step_23 post (k + 1) (nI i) (nI N) (nI C) tm (nI L) RW dr ti pa pl ms md lu ec es ed
  | 0, i, ti, ms, hi, h => br_t (nI_le (by omega) (by have := K.2.1; omega)) h
  | k + 1, i, ti, ms, hi, h => by
    have hN := K.2.1
    exact br_f (nI_ge (by omega) (by omega)) (x_steer (by omega) (nm_r (nI_1 i) (x_st2 K k (i + 1) _ _ (by omega) h)))
theorem x_st1 {post : SX → Prop} (K : gx_ok N L lu ec) : ∀ k i md ms, i + k = N → (∃ n, wX_step_23 post n 0 (nI N) (nI C) tm (nI L) RW dr ti pa pl ((gs_it (gs_meas L pl lu ec es ed ti) k i (md, ms)).2) ((gs_it (gs_meas L pl lu ec es ed ti) k i (md, ms)).1) lu ec es ed) → wX_step_2 post (k + 1) (nI i) (nI N) (nI C) tm (nI L) RW dr ti pa pl ms md lu ec es ed
  | 0, i, md, ms, hi, h => br_t (nI_le (by omega) (by have := K.2.1; omega)) h
  | k + 1, i, md, ms, hi, h => by
    have hN := K.2.1
    exact br_f (nI_ge (by omega) (by omega)) (x_measure K (by omega) (nm_r (nI_1 i) (x_st1 K k (i + 1) _ _ (by omega) h)))
theorem x_step {post : SX → Prop} (K : gx_ok N L lu ec) (h : post (gs_stX N C L tm RW dr ti pa pl ms md lu ec es ed)) : wpX_step post (gx N C L tm RW dr ti pa pl ms md lu ec es ed) :=
  ⟨_, x_st1 K N 0 md ms (by omega) ⟨_, x_st2 K N 0 _ _ (by omega) ⟨_, x_st3 K N 0 _ (by omega) ⟨_, x_st4 K (2 * L) 0 RW (by omega) ⟨_, x_st5 K N 0 _ _ _ _ (by omega) h⟩⟩⟩⟩⟩
end
end
section
/-! the reference's small methods -/
abbrev gy (N C L : Nat) (tm : Int32) (ds vc qa ql dr : Nat → Int32) (ti aj ig off dl t1 t2 t3 t4 ct : Nat → Int64) (md la lb da db lu es st sv sa : Nat → Int32) : SY := (nI N, nI C, tm, nI L, ds, vc, qa, ql, dr, ti, aj, ig, off, dl, t1, t2, t3, t4, ct, md, la, lb, da, db, lu, es, st, sv, sa)
section
variable {N C L : Nat} {tm : Int32} {RW ds vc qa ql dr md la lb da db lu es st sv sa ec ed : Nat → Int32} {ti aj ig off dl t1 t2 t3 t4 ct : Nat → Int64}
theorem y_clamp {post : Int32 → Prop} {v lo hi : Int32} (h : post (gc_cl v lo hi)) : wpY_clampI post (gy N C L tm ds vc qa ql dr ti aj ig off dl t1 t2 t3 t4 ct md la lb da db lu es st sv sa) v lo hi := by
  unfold gc_cl at h
  by_cases h1 : v < lo
  · rw [if_pos h1] at h
    exact br_f (Int32.not_le.mpr h1) h
  · rw [if_neg h1] at h
    refine br_t (Int32.not_lt.mp h1) ?_
    by_cases h2 : hi < v
    · rw [if_pos h2] at h
      exact br_f (Int32.not_le.mpr h2) h
    · rw [if_neg h2] at h
      exact br_t (Int32.not_lt.mp h2) h
theorem y_clampL {post : Int64 → Prop} {v lo hi : Int64} (h : post (gc_clL v lo hi)) : wpY_clampL post (gy N C L tm ds vc qa ql dr ti aj ig off dl t1 t2 t3 t4 ct md la lb da db lu es st sv sa) v lo hi := by
  unfold gc_clL at h
  by_cases h1 : v < lo
  · rw [if_pos h1] at h
    exact br_f (Int64.not_le.mpr h1) h
  · rw [if_neg h1] at h
    refine br_t (Int64.not_lt.mp h1) ?_
    by_cases h2 : hi < v
    · rw [if_pos h2] at h
      exact br_f (Int64.not_le.mpr h2) h
    · rw [if_neg h2] at h
      exact br_t (Int64.not_lt.mp h2) h
theorem y_bad_f {post : Int32 → Prop} {c : Nat} (hN : N ≤ 8) (hc : c < N) (h : post 0) : wpY_bad post (gy N C L tm ds vc qa ql dr ti aj ig off dl t1 t2 t3 t4 ct md la lb da db lu es st sv sa) (nI c) :=
  br_f (nI_pos (by omega)) (br_t (nI_lt hc (by omega)) h)
theorem y_bad_t {post : Int32 → Prop} {x : Int32} (hx : x < 0 ∨ nI N ≤ x) (h : post 1) : wpY_bad post (gy N C L tm ds vc qa ql dr ti aj ig off dl t1 t2 t3 t4 ct md la lb da db lu es st sv sa) x := by
  by_cases q : x < 0
  · exact br_t q h
  · exact br_f q (br_f (Int32.not_lt.mpr (hx.resolve_left q)) h)
theorem y_clockAt {post : Int32 → Prop} {e : Nat} (hL : L ≤ 16) (he : e < 2 * L) (HE : gc_E N L ec la lb) (h : post (ec e)) : wpY_clockAt post (gy N C L tm ds vc qa ql dr ti aj ig off dl t1 t2 t3 t4 ct md la lb da db lu es st sv sa) (nI e) := by
  obtain ⟨g1, g2, _, _⟩ := HE (e / 2) (by omega)
  unfold wpY_clockAt
  dsimp only
  rw [ix_n1 (by omega), ix_s1 (by omega), nI_clamp (by omega)]
  rcases (by omega : e % 2 = 0 ∨ e % 2 = 1) with q | q
  · rw [show 2 * (e / 2) = e by omega] at g1
    rw [g1] at h
    exact br_t (by rw [q]; rfl) ⟨vp_in_nI (by omega) (by omega), h⟩
  · rw [show 2 * (e / 2) + 1 = e by omega] at g2
    rw [g2] at h
    exact br_f (by rw [q]; decide) ⟨vp_in_nI (by omega) (by omega), h⟩
theorem y_fld2 {post : Int32 → Prop} {e f : Nat} (he : e < 32) (hf : f < 8) (HS : gc_S RW st sv sa) (h : post (RW ((16 + e) * 10 + f))) : wpY_fld post (gy N C L tm ds vc qa ql dr ti aj ig off dl t1 t2 t3 t4 ct md la lb da db lu es st sv sa) 2 (nI e) (nI f) := by
  rw [(HS e he).1 f hf] at h
  unfold wpY_fld
  simp (disch := omega) only [ix_m6, ix_m8, ix_m9, ix_m10, ix_m2, ix_2m, ix_8a, ix_16a, ix_a0, ix_a1, ix_a2, ix_a3, ix_a4, ix_a5, ix_a6, ix_a7, ix_a8, ix_a9, nI_add, nI_clamp]
  exact br_f (by decide) (br_f (by decide) ⟨vp_in_nI (by omega) (by omega), h⟩)
theorem y_fld1 {post : Int32 → Prop} {c f : Nat} (hN : N ≤ 8) (hc : c < N) (hf : f < 8) (HV : gc_V N RW vc) (h : post (RW ((8 + c) * 10 + f))) : wpY_fld post (gy N C L tm ds vc qa ql dr ti aj ig off dl t1 t2 t3 t4 ct md la lb da db lu es st sv sa) 1 (nI c) (nI f) := by
  rw [(HV c hc).1 f hf] at h
  unfold wpY_fld
  simp (disch := omega) only [ix_m6, ix_m8, ix_m9, ix_m10, ix_m2, ix_2m, ix_8a, ix_16a, ix_a0, ix_a1, ix_a2, ix_a3, ix_a4, ix_a5, ix_a6, ix_a7, ix_a8, ix_a9, nI_add, nI_clamp]
  exact br_f (by decide) (br_t trivial ⟨vp_in_nI (by omega) (by omega), h⟩)
theorem y_fld0 {post : Int32 → Prop} {c f : Nat} (hN : N ≤ 8) (hc : c < N) (hf : f < 6) (HD : gc_D N RW ds) (h : post (RW (c * 10 + f))) : wpY_fld post (gy N C L tm ds vc qa ql dr ti aj ig off dl t1 t2 t3 t4 ct md la lb da db lu es st sv sa) 0 (nI c) (nI f) := by
  rw [(HD c hc).1 f hf] at h
  unfold wpY_fld
  simp (disch := omega) only [ix_m6, ix_m8, ix_m9, ix_m10, ix_m2, ix_2m, ix_8a, ix_16a, ix_a0, ix_a1, ix_a2, ix_a3, ix_a4, ix_a5, ix_a6, ix_a7, ix_a8, ix_a9, nI_add, nI_clamp]
  exact br_t trivial (br_f (nI_ge (b := 6) hf (by omega)) ⟨vp_in_nI (by omega) (by omega), h⟩)
theorem y_cmpl {post : Int32 → Prop} {x y K : Nat} {ka ia kb ib : Int32} (hK : K ≤ 8) (hA : ∀ f, f < K → ∀ post : Int32 → Prop, post (RW (x + f)) → wpY_fld post (gy N C L tm ds vc qa ql dr ti aj ig off dl t1 t2 t3 t4 ct md la lb da db lu es st sv sa) ka ia (nI f)) (hB : ∀ f, f < K → ∀ post : Int32 → Prop, post (RW (y + f)) → wpY_fld post (gy N C L tm ds vc qa ql dr ti aj ig off dl t1 t2 t3 t4 ct md la lb da db lu es st sv sa) kb ib (nI f)) : ∀ k i, i + k = K → post (gc_cmp (fun f => RW (x + f)) (fun f => RW (y + f)) k i) → wY_cmp_3 post ka ia kb ib (nI K) (nI N) (nI C) tm (nI L) ds vc qa ql dr ti aj ig off dl t1 t2 t3 t4 ct md la lb da db lu es st sv sa (k + 1) (nI i)
  | 0, i, hi, h => br_t (nI_le (by omega) (by omega)) h
  | k + 1, i, hi, h => by
    rw [gc_cmp] at h
    refine br_f (nI_ge (by omega) (by omega)) (hA i (by omega) _ (hB i (by omega) _ ?_))
    by_cases q : RW (x + i) = RW (y + i)
    · rw [if_pos q] at h
      exact br_t (by rw [q]; exact Int32.le_refl _) (br_t (by rw [q]; exact Int32.le_refl _) (nm_r (nI_1 i) (y_cmpl hK hA hB k (i + 1) (by omega) h)))
    · rw [if_neg q] at h
      by_cases r : RW (x + i) < RW (y + i)
      · rw [if_pos r] at h
        exact br_f (Int32.not_le.mpr r) h
      · rw [if_neg r] at h
        exact br_t (Int32.not_lt.mp r) (br_f (fun z => q (Int32.le_antisymm z (Int32.not_lt.mp r))) h)
theorem y_cmp {post : Int32 → Prop} {x y K : Nat} {ka ia kb ib : Int32} (hK : K ≤ 8) (hA : ∀ f, f < K → ∀ post : Int32 → Prop, post (RW (x + f)) → wpY_fld post (gy N C L tm ds vc qa ql dr ti aj ig off dl t1 t2 t3 t4 ct md la lb da db lu es st sv sa) ka ia (nI f)) (hB : ∀ f, f < K → ∀ post : Int32 → Prop, post (RW (y + f)) → wpY_fld post (gy N C L tm ds vc qa ql dr ti aj ig off dl t1 t2 t3 t4 ct md la lb da db lu es st sv sa) kb ib (nI f)) (h : post (gs_cmp RW x y K)) : wpY_cmp post (gy N C L tm ds vc qa ql dr ti aj ig off dl t1 t2 t3 t4 ct md la lb da db lu es st sv sa) ka ia kb ib (nI K) :=
  ⟨K + 1, y_cmpl hK hA hB K 0 (by omega) h⟩
theorem y_clearl {post : SY → Prop} {e : Nat} (he : e < 32) (h : post (gy N C L tm ds vc qa ql dr ti aj ig off dl t1 t2 t3 t4 ct md la lb da db lu es (gc_cp st gc_z 0 (e * 8) 8) sv sa)) : ∀ k i, i + k = 8 → wY_clearStore_16 post (nI e) (nI N) (nI C) tm (nI L) (k + 1) (nI i) ds vc qa ql dr ti aj ig off dl t1 t2 t3 t4 ct md la lb da db lu es (gc_cp st gc_z 0 (e * 8) i) sv sa
  | 0, i, hi => by
    obtain rfl : i = 8 := by omega
    exact br_t (nI_le (a := 8) (b := 8) (by omega) (by omega)) h
  | k + 1, i, hi => by
    have v2 : vp_in (nI e * 8 + nI i) 256 := by rw [ix_m8, nI_add]; exact vp_in_nI (by omega) (by omega)
    have q : upd (gc_cp st gc_z 0 (e * 8) i) (nI e * 8 + nI i).toNatClampNeg 0 = gc_cp st gc_z 0 (e * 8) (i + 1) := by
      rw [ix_m8, nI_add, nI_clamp (by omega)]
      exact gc_cpS st gc_z 0 (e * 8) i
    exact br_f (nI_ge (b := 8) (by omega) (by omega)) ⟨v2, nm_r q (nm_r (nI_1 i) (y_clearl he h k (i + 1) (by omega)))⟩
theorem y_clear {post : SY → Prop} {e : Nat} (he : e < 32) (h : post (gy N C L tm ds vc qa ql dr ti aj ig off dl t1 t2 t3 t4 ct md la lb da db lu es (gc_cp st gc_z 0 (e * 8) 8) (upd sv e 0) (upd sa e 0))) : wpY_clearStore post (gy N C L tm ds vc qa ql dr ti aj ig off dl t1 t2 t3 t4 ct md la lb da db lu es st sv sa) (nI e) := by
  have l := y_clearl (sv := upd sv e 0) (sa := upd sa e 0) he h 8 0 (by omega)
  rw [gc_cp0] at l
  unfold wpY_clearStore
  rw [nI_clamp (by omega)]
  exact ⟨vp_in_nI he (by omega), nm_e ⟨vp_in_nI he (by omega), nm_e ⟨_, l⟩⟩⟩
theorem y_copyl {post : SY → Prop} {e c : Nat} (he : e < 32) (hc : c < 8) (h : post (gy N C L tm ds vc qa ql dr ti aj ig off dl t1 t2 t3 t4 ct md la lb da db lu es (gc_cp st vc (c * 8) (e * 8) 8) (upd sv e 1) (upd sa e 0))) : ∀ k i, i + k = 8 → wY_copyV_2 post (nI e) (nI c) (nI N) (nI C) tm (nI L) (k + 1) (nI i) ds vc qa ql dr ti aj ig off dl t1 t2 t3 t4 ct md la lb da db lu es (gc_cp st vc (c * 8) (e * 8) i) sv sa
  | 0, i, hi => by
    obtain rfl : i = 8 := by omega
    have q1 : upd sv (nI e).toNatClampNeg 1 = upd sv e 1 := by rw [nI_clamp (by omega)]
    have q2 : upd sa (nI e).toNatClampNeg 0 = upd sa e 0 := by rw [nI_clamp (by omega)]
    exact br_t (nI_le (a := 8) (b := 8) (by omega) (by omega)) ⟨vp_in_nI he (by omega), nm_r q1 ⟨vp_in_nI he (by omega), nm_r q2 h⟩⟩
  | k + 1, i, hi => by
    have v1 : vp_in (nI c * 8 + nI i) 64 := by rw [ix_m8, nI_add]; exact vp_in_nI (by omega) (by omega)
    have v2 : vp_in (nI e * 8 + nI i) 256 := by rw [ix_m8, nI_add]; exact vp_in_nI (by omega) (by omega)
    have q : upd (gc_cp st vc (c * 8) (e * 8) i) (nI e * 8 + nI i).toNatClampNeg (vc (nI c * 8 + nI i).toNatClampNeg) = gc_cp st vc (c * 8) (e * 8) (i + 1) := by
      rw [ix_m8, ix_m8, nI_add, nI_add, nI_clamp (by omega), nI_clamp (by omega)]
      exact gc_cpS st vc (c * 8) (e * 8) i
    exact br_f (nI_ge (b := 8) (by omega) (by omega)) ⟨v1, v2, nm_r q (nm_r (nI_1 i) (y_copyl he hc h k (i + 1) (by omega)))⟩
theorem y_copyV {post : SY → Prop} {e c : Nat} (he : e < 32) (hc : c < 8) (h : post (gy N C L tm ds vc qa ql dr ti aj ig off dl t1 t2 t3 t4 ct md la lb da db lu es (gc_cp st vc (c * 8) (e * 8) 8) (upd sv e 1) (upd sa e 0))) : wpY_copyV post (gy N C L tm ds vc qa ql dr ti aj ig off dl t1 t2 t3 t4 ct md la lb da db lu es st sv sa) (nI e) (nI c) := by
  have l := y_copyl he hc h 8 0 (by omega)
  rw [gc_cp0] at l
  exact ⟨_, l⟩
theorem y_resetl {post : SY → Prop} {c : Nat} (hc : c < 8) (h : post (gy N C L tm ds (upd (upd (gc_cp vc ds (c * 6) (c * 8) 6) (c * 8 + 6) 0) (c * 8 + 7) (nI c)) qa ql dr ti aj ig off dl t1 t2 t3 t4 ct md la lb da db lu es st sv sa)) : ∀ k i, i + k = 6 → wY_resetV_2 post (nI c) (nI N) (nI C) tm (nI L) (k + 1) (nI i) ds (gc_cp vc ds (c * 6) (c * 8) i) qa ql dr ti aj ig off dl t1 t2 t3 t4 ct md la lb da db lu es st sv sa
  | 0, i, hi => by
    obtain rfl : i = 6 := by omega
    refine br_t (nI_le (a := 6) (b := 6) (by omega) (by omega)) ?_
    simp (disch := omega) only [ix_m6, ix_m8, ix_m9, ix_m10, ix_m2, ix_2m, ix_8a, ix_16a, ix_a0, ix_a1, ix_a2, ix_a3, ix_a4, ix_a5, ix_a6, ix_a7, ix_a8, ix_a9, nI_add, nI_clamp]
    exact ⟨vp_in_nI (by omega) (by omega), nm_e ⟨vp_in_nI (by omega) (by omega), nm_e h⟩⟩
  | k + 1, i, hi => by
    have v1 : vp_in (nI c * 6 + nI i) 48 := by rw [ix_m6, nI_add]; exact vp_in_nI (by omega) (by omega)
    have v2 : vp_in (nI c * 8 + nI i) 64 := by rw [ix_m8, nI_add]; exact vp_in_nI (by omega) (by omega)
    have q : upd (gc_cp vc ds (c * 6) (c * 8) i) (nI c * 8 + nI i).toNatClampNeg (ds (nI c * 6 + nI i).toNatClampNeg) = gc_cp vc ds (c * 6) (c * 8) (i + 1) := by
      rw [ix_m8, ix_m6, nI_add, nI_add, nI_clamp (by omega), nI_clamp (by omega)]
      exact gc_cpS vc ds (c * 6) (c * 8) i
    exact br_f (nI_ge (b := 6) (by omega) (by omega)) ⟨v1, v2, nm_r q (nm_r (nI_1 i) (y_resetl hc h k (i + 1) (by omega)))⟩
theorem y_resetV {post : SY → Prop} {c : Nat} (hc : c < 8) (h : post (gy N C L tm ds (upd (upd (gc_cp vc ds (c * 6) (c * 8) 6) (c * 8 + 6) 0) (c * 8 + 7) (nI c)) qa ql dr ti aj ig off dl t1 t2 t3 t4 ct md la lb da db lu es st sv sa)) : wpY_resetV post (gy N C L tm ds vc qa ql dr ti aj ig off dl t1 t2 t3 t4 ct md la lb da db lu es st sv sa) (nI c) := by
  have l := y_resetl hc h 6 0 (by omega)
  rw [gc_cp0] at l
  exact ⟨_, l⟩
end
end
section
/-! the reference's step against the component's pictures: phases 1 to 3 -/
theorem gc_uu (a : Nat → Int32) (k : Nat) (x y : Int32) : upd (upd a k x) k y = upd a k y := by
  funext j
  by_cases h : j = k
  · subst h; rw [pk_us, pk_us]
  · rw [pk_un h, pk_un h, pk_un h]
theorem gs_msM {ec ed : Nat → Int32} {ti ms off dl t1 t2 t3 t4 aj ig ct : Nat → Int64} {c e j : Nat} (hc : c < 8) (hj : j < 2 ^ 31) (ej : ec (gc_ot e) = nI j) (H : gc_M ms off dl t1 t2 t3 t4 aj ig ct) :
    gc_M (gs_ms ec ed ti ms c e)
      (vp_updL off c (((ti c + (ed (gc_ot e)).toInt64 - ti j) - (ti j + (ed (gc_ot e)).toInt64 + (ed e).toInt64 - (ti c + (ed (gc_ot e)).toInt64))) / 2))
      (vp_updL dl c (((ti c + (ed (gc_ot e)).toInt64 - ti j) + (ti j + (ed (gc_ot e)).toInt64 + (ed e).toInt64 - (ti c + (ed (gc_ot e)).toInt64))) / 2))
      (vp_updL t1 c (ti j)) (vp_updL t2 c (ti c + (ed (gc_ot e)).toInt64)) (vp_updL t3 c (ti c + (ed (gc_ot e)).toInt64)) (vp_updL t4 c (ti j + (ed (gc_ot e)).toInt64 + (ed e).toInt64)) aj ig (vp_updL ct c (ct c + 1)) := by
  unfold gs_ms
  rw [ej, nI_clamp hj]
  dsimp only
  have H6 := gc_M5 (v := ti j + (ed (gc_ot e)).toInt64 + (ed e).toInt64) hc (gc_M4 (v := ti c + (ed (gc_ot e)).toInt64) hc (gc_M3 (v := ti c + (ed (gc_ot e)).toInt64) hc (gc_M2 (v := ti j) hc (gc_M1 (v := (((ti c + (ed (gc_ot e)).toInt64 - ti j) + (ti j + (ed (gc_ot e)).toInt64 + (ed e).toInt64 - (ti c + (ed (gc_ot e)).toInt64))) / 2)) hc (gc_M0 (v := (((ti c + (ed (gc_ot e)).toInt64 - ti j) - (ti j + (ed (gc_ot e)).toInt64 + (ed e).toInt64 - (ti c + (ed (gc_ot e)).toInt64))) / 2)) hc H)))))
  have e8 := (H6 c hc).2.2.2.2.2.2.2.2
  rw [e8]
  exact gc_M8 hc H6
section
variable {N C L : Nat} {tm : Int32} {RW ds vc pa pl qa ql dr md la lb da db lu es st sv sa ec ed : Nat → Int32} {ti ms aj ig off dl t1 t2 t3 t4 ct : Nat → Int64}
theorem y_m160 {post : SY → Prop} {J2 : _} {c j : Nat} {x5 z0 : Int64} (hc : c < 8) (hj : j < 8)
    (h : J2 (nI (c + 1)) ds vc qa ql dr ti aj ig (vp_updL off c (((ti c + x5 - ti j) - (ti j + x5 + z0 - (ti c + x5))) / 2)) (vp_updL dl c (((ti c + x5 - ti j) + (ti j + x5 + z0 - (ti c + x5))) / 2)) (vp_updL t1 c (ti j)) (vp_updL t2 c (ti c + x5)) (vp_updL t3 c (ti c + x5)) (vp_updL t4 c (ti j + x5 + z0)) (vp_updL ct c (ct c + 1)) (upd md c 1) la lb da db lu es st sv sa) : wY_step_160 post J2 (nI c) (nI j) x5 z0 (nI N) (nI C) tm (nI L) ds vc qa ql dr ti aj ig off dl t1 t2 t3 t4 ct md la lb da db lu es st sv sa := by
  have v : vp_in (nI c) 8 := vp_in_nI hc (by omega)
  have w : vp_in (nI j) 8 := vp_in_nI hj (by omega)
  unfold wY_step_160
  simp (disch := omega) only [nI_clamp]
  exact ⟨w, nm_e ⟨v, nm_e ⟨w, nm_e ⟨v, nm_e ⟨v, nm_e ⟨v, nm_e ⟨v, nm_e ⟨by decide, v, nm_e ⟨by decide, v, nm_e ⟨v, v, nm_e ⟨v, nm_e (nm_r (nI_1 c) h)⟩⟩⟩⟩⟩⟩⟩⟩⟩⟩⟩
theorem y_side {post : Int32 → Prop} {l : Nat} {x : Int32} (hl : l < 16) (h : post (if la l = x then 0 else if lb l = x then 1 else -1)) : wpY_side post (gy N C L tm ds vc qa ql dr ti aj ig off dl t1 t2 t3 t4 ct md la lb da db lu es st sv sa) x (nI l) := by
  unfold wpY_side
  rw [nI_clamp (by omega)]
  refine ⟨vp_in_nI hl (by omega), ?_⟩
  by_cases a : la l = x
  · rw [if_pos a] at h
    exact br_t a h
  · rw [if_neg a] at h
    refine br_f a ⟨vp_in_nI hl (by omega), ?_⟩
    by_cases b : lb l = x
    · rw [if_pos b] at h
      exact br_t b h
    · rw [if_neg b] at h
      exact br_f b h
/-- phase 1, one clock -/
theorem y_m1 {c : Nat} (K : gx_ok N L lu ec) (hc : c < N) (HE : gc_E N L ec la lb) (HW : gc_W L ed da db) (HP : gc_P N pl ql) (H : gc_M ms off dl t1 t2 t3 t4 aj ig ct) :
    ∃ off' dl' t1' t2' t3' t4' ct', gc_M (gs_meas L pl lu ec es ed ti c (md, ms)).2 off' dl' t1' t2' t3' t4' aj ig ct' ∧
      ∀ (post : SY → Prop) n, wY_step_2 post (nI N) (nI C) tm (nI L) n (nI (c + 1)) ds vc qa ql dr ti aj ig off' dl' t1' t2' t3' t4' ct' ((gs_meas L pl lu ec es ed ti c (md, ms)).1) la lb da db lu es st sv sa → wY_step_2 post (nI N) (nI C) tm (nI L) (n + 1) (nI c) ds vc qa ql dr ti aj ig off dl t1 t2 t3 t4 ct md la lb da db lu es st sv sa := by
  have hN : N ≤ 8 := K.2.1
  have hL : L ≤ 16 := K.2.2.1
  have v : vp_in (nI c) 8 := vp_in_nI (by omega) (by omega)
  have e0 : upd md (nI c).toNatClampNeg (vp_nar .boolean 0) = upd md c 0 := by
    rw [nI_clamp (by omega)]; rfl
  have eq : ql (nI c).toNatClampNeg = pl c := by
    rw [nI_clamp (by omega)]; exact (HP c hc).symm
  have g : ¬ nI N ≤ nI c := nI_ge hc (by omega)
  by_cases hx : pl c < 0
  · have q : gs_meas L pl lu ec es ed ti c (md, ms) = (upd md c 0, ms) := by
      unfold gs_meas gs_end
      rw [if_pos (Or.inl hx)]
    rw [q]
    exact ⟨off, dl, t1, t2, t3, t4, ct, H, fun post n h => br_f g ⟨v, nm_r e0 ⟨v, nm_r eq (br_t hx (nm_r (nI_1 c) h))⟩⟩⟩
  · by_cases hy : nI L ≤ pl c
    · have q : gs_meas L pl lu ec es ed ti c (md, ms) = (upd md c 0, ms) := by
        unfold gs_meas gs_end
        rw [if_pos (Or.inr hy)]
      rw [q]
      exact ⟨off, dl, t1, t2, t3, t4, ct, H, fun post n h => br_f g ⟨v, nm_r e0 ⟨v, nm_r eq (br_f hx (br_t hy (nm_r (nI_1 c) h)))⟩⟩⟩
    · obtain ⟨l, hl, el⟩ : ∃ l, l < L ∧ pl c = nI l := by
        rcases pk_ix (pl c) (n := L) (by omega) with h | h | h
        · exact absurd h hx
        · exact absurd h hy
        · exact h
      obtain ⟨g1, g2, ⟨ja, hja, eja⟩, ⟨jb, hjb, ejb⟩⟩ := HE l hl
      obtain ⟨w1, w2⟩ := HW l hl
      have vl : vp_in (nI l) 16 := vp_in_nI (by omega) (by omega)
      have E : gs_end L ec c (pl c) = if ec (2 * l) = nI c then some (2 * l) else if ec (2 * l + 1) = nI c then some (2 * l + 1) else none := by
        unfold gs_end
        rw [if_neg (fun z => z.elim hx hy), el, nI_clamp (by omega)]
      rw [el] at hx hy eq
      by_cases hu : lu l = 0
      · have q : gs_meas L pl lu ec es ed ti c (md, ms) = (upd md c 0, ms) := by
          unfold gs_meas
          rw [E]
          by_cases a : ec (2 * l) = nI c
          · rw [if_pos a]
            dsimp only
            rw [if_neg (fun z => z.1 (by rw [show 2 * l / 2 = l by omega]; exact hu))]
          · rw [if_neg a]
            by_cases b : ec (2 * l + 1) = nI c
            · rw [if_pos b]
              dsimp only
              rw [if_neg (fun z => z.1 (by rw [show (2 * l + 1) / 2 = l by omega]; exact hu))]
            · rw [if_neg b]
        rw [q]
        exact ⟨off, dl, t1, t2, t3, t4, ct, H, fun post n h => br_f g ⟨v, nm_r e0 ⟨v, nm_r eq (br_f hx (br_f hy ⟨vl, br_t (by rw [nI_clamp (by omega)]; exact hu) (nm_r (nI_1 c) h)⟩))⟩⟩⟩
      · have hu' : ¬ lu (nI l).toNatClampNeg = 0 := by rw [nI_clamp (by omega)]; exact hu
        by_cases a : la l = nI c
        · have a' : ec (2 * l) = nI c := by rw [g1]; exact a
          by_cases cd : es (2 * l) = 2 ∧ es (2 * l + 1) = 1
          · have q : gs_meas L pl lu ec es ed ti c (md, ms) = (upd md c 1, gs_ms ec ed ti ms c (2 * l)) := by
              unfold gs_meas
              rw [E, if_pos a']
              dsimp only
              rw [gc_ot0, show 2 * l / 2 = l by omega, if_pos ⟨hu, cd⟩]
            have M := gs_msM (ec := ec) (ed := ed) (ti := ti) (e := 2 * l) (c := c) (j := jb) (by omega) (by omega) (by rw [gc_ot0, g2]; exact ejb) H
            rw [gc_ot0, w2, w1] at M
            rw [q]
            refine ⟨_, _, _, _, _, _, _, M, fun post n h => br_f g ⟨v, nm_r e0 ⟨v, nm_r eq (br_f hx (br_f hy ⟨vl, br_f hu' (y_side (by omega) ?_)⟩))⟩⟩⟩
            rw [if_pos a]
            simp (disch := omega) only [ix_m6, ix_m8, ix_m9, ix_m10, ix_m2, ix_2m, ix_8a, ix_16a, ix_a0, ix_a1, ix_a2, ix_a3, ix_a4, ix_a5, ix_a6, ix_a7, ix_a8, ix_a9, nI_add, nI_clamp, Nat.mul_comm l 2, Nat.add_zero, Int32.sub_zero, nI_pred]
            refine br_t (by decide) ⟨vp_in_nI (by omega) (by omega), br_t cd.1 ⟨vp_in_nI (by omega) (by omega), br_t cd.2 (br_t (by trivial) ⟨vl, br_t rfl ⟨vl, br_t rfl ⟨vl, ?_⟩⟩⟩)⟩⟩
            rw [nI_clamp (by omega), ejb]
            refine y_m160 (by omega) (by omega) ?_
            rw [gc_uu]
            exact h
          · have q : gs_meas L pl lu ec es ed ti c (md, ms) = (upd md c 0, ms) := by
              unfold gs_meas
              rw [E, if_pos a']
              dsimp only
              rw [gc_ot0, if_neg (fun z => cd z.2)]
            rw [q]
            refine ⟨off, dl, t1, t2, t3, t4, ct, H, fun post n h => br_f g ⟨v, nm_r e0 ⟨v, nm_r eq (br_f hx (br_f hy ⟨vl, br_f hu' (y_side (by omega) ?_)⟩))⟩⟩⟩
            rw [if_pos a]
            simp (disch := omega) only [ix_m6, ix_m8, ix_m9, ix_m10, ix_m2, ix_2m, ix_8a, ix_16a, ix_a0, ix_a1, ix_a2, ix_a3, ix_a4, ix_a5, ix_a6, ix_a7, ix_a8, ix_a9, nI_add, nI_clamp, Nat.mul_comm l 2, Nat.add_zero, Int32.sub_zero, nI_pred]
            refine br_t (by decide) ⟨vp_in_nI (by omega) (by omega), ?_⟩
            by_cases d : es (2 * l) = 2
            · exact br_t d ⟨vp_in_nI (by omega) (by omega), br_f (fun z => cd ⟨d, z⟩) (nm_e h)⟩
            · exact br_f d (nm_e h)
        · have a' : ¬ ec (2 * l) = nI c := by rw [g1]; exact a
          by_cases b : lb l = nI c
          · have b' : ec (2 * l + 1) = nI c := by rw [g2]; exact b
            by_cases cd : es (2 * l + 1) = 2 ∧ es (2 * l) = 1
            · have q : gs_meas L pl lu ec es ed ti c (md, ms) = (upd md c 1, gs_ms ec ed ti ms c (2 * l + 1)) := by
                unfold gs_meas
                rw [E, if_neg a', if_pos b']
                dsimp only
                rw [gc_ot1, show (2 * l + 1) / 2 = l by omega, if_pos ⟨hu, cd⟩]
              have M := gs_msM (ec := ec) (ed := ed) (ti := ti) (e := 2 * l + 1) (c := c) (j := ja) (by omega) (by omega) (by rw [gc_ot1, g1]; exact eja) H
              rw [gc_ot1, w2, w1] at M
              rw [q]
              refine ⟨_, _, _, _, _, _, _, M, fun post n h => br_f g ⟨v, nm_r e0 ⟨v, nm_r eq (br_f hx (br_f hy ⟨vl, br_f hu' (y_side (by omega) ?_)⟩))⟩⟩⟩
              rw [if_neg a, if_pos b]
              simp (disch := omega) only [ix_m6, ix_m8, ix_m9, ix_m10, ix_m2, ix_2m, ix_8a, ix_16a, ix_a0, ix_a1, ix_a2, ix_a3, ix_a4, ix_a5, ix_a6, ix_a7, ix_a8, ix_a9, nI_add, nI_clamp, Nat.mul_comm l 2, nI_pred]
              refine br_t (by decide) ⟨vp_in_nI (by omega) (by omega), br_t cd.1 ⟨vp_in_nI (by omega) (by omega), br_t cd.2 (br_f (by decide) ⟨vl, br_f (by decide) ⟨vl, br_f (by decide) ⟨vl, ?_⟩⟩⟩)⟩⟩
              rw [nI_clamp (by omega), eja]
              refine y_m160 (by omega) (by omega) ?_
              rw [gc_uu]
              exact h
            · have q : gs_meas L pl lu ec es ed ti c (md, ms) = (upd md c 0, ms) := by
                unfold gs_meas
                rw [E, if_neg a', if_pos b']
                dsimp only
                rw [gc_ot1, if_neg (fun z => cd z.2)]
              rw [q]
              refine ⟨off, dl, t1, t2, t3, t4, ct, H, fun post n h => br_f g ⟨v, nm_r e0 ⟨v, nm_r eq (br_f hx (br_f hy ⟨vl, br_f hu' (y_side (by omega) ?_)⟩))⟩⟩⟩
              rw [if_neg a, if_pos b]
              simp (disch := omega) only [ix_m6, ix_m8, ix_m9, ix_m10, ix_m2, ix_2m, ix_8a, ix_16a, ix_a0, ix_a1, ix_a2, ix_a3, ix_a4, ix_a5, ix_a6, ix_a7, ix_a8, ix_a9, nI_add, nI_clamp, Nat.mul_comm l 2, nI_pred]
              refine br_t (by decide) ⟨vp_in_nI (by omega) (by omega), ?_⟩
              by_cases d : es (2 * l + 1) = 2
              · exact br_t d ⟨vp_in_nI (by omega) (by omega), br_f (fun z => cd ⟨d, z⟩) (nm_e h)⟩
              · exact br_f d (nm_e h)
          · have b' : ¬ ec (2 * l + 1) = nI c := by rw [g2]; exact b
            have q : gs_meas L pl lu ec es ed ti c (md, ms) = (upd md c 0, ms) := by
              unfold gs_meas
              rw [E, if_neg a', if_neg b']
            rw [q]
            refine ⟨off, dl, t1, t2, t3, t4, ct, H, fun post n h => br_f g ⟨v, nm_r e0 ⟨v, nm_r eq (br_f hx (br_f hy ⟨vl, br_f hu' (y_side (by omega) ?_)⟩))⟩⟩⟩
            rw [if_neg a, if_neg b]
            exact br_f (by decide) (nm_r (nI_1 c) h)
/-- phase 1 -/
theorem y_st1 (K : gx_ok N L lu ec) (HE : gc_E N L ec la lb) (HW : gc_W L ed da db) (HP : gc_P N pl ql) : ∀ k i md ms off dl t1 t2 t3 t4 ct, i + k = N → gc_M ms off dl t1 t2 t3 t4 aj ig ct →
    ∃ off' dl' t1' t2' t3' t4' ct', gc_M (gs_it (gs_meas L pl lu ec es ed ti) k i (md, ms)).2 off' dl' t1' t2' t3' t4' aj ig ct' ∧
      ∀ (post : SY → Prop), (∃ n, wY_step_304 post (nI N) (nI C) tm (nI L) n 0 ds vc qa ql dr ti aj ig off' dl' t1' t2' t3' t4' ct' ((gs_it (gs_meas L pl lu ec es ed ti) k i (md, ms)).1) la lb da db lu es st sv sa) → wY_step_2 post (nI N) (nI C) tm (nI L) (k + 1) (nI i) ds vc qa ql dr ti aj ig off dl t1 t2 t3 t4 ct md la lb da db lu es st sv sa
  | 0, i, md, ms, off, dl, t1, t2, t3, t4, ct, hi, H => ⟨off, dl, t1, t2, t3, t4, ct, H, fun post h => br_t (nI_le (by omega) (by have := K.2.1; omega)) h⟩
  | k + 1, i, md, ms, off, dl, t1, t2, t3, t4, ct, hi, H => by
    obtain ⟨o1, d1, a1, a2, a3, a4, c1, H1, w1⟩ := y_m1 (C := C) (tm := tm) (ds := ds) (vc := vc) (qa := qa) (dr := dr) (st := st) (sv := sv) (sa := sa) (ti := ti) (es := es) (md := md) (c := i) K (by omega) HE HW HP H
    obtain ⟨o2, d2, b1, b2, b3, b4, c2, H2, w2⟩ := y_st1 K HE HW HP k (i + 1) _ _ o1 d1 a1 a2 a3 a4 c1 (by omega) H1
    exact ⟨o2, d2, b1, b2, b3, b4, c2, H2, fun post h => w1 post (k + 1) (w2 post h)⟩
/-- phase 2 -/
theorem y_st2 (K : gx_ok N L lu ec) : ∀ k i ti ms aj ig, i + k = N → gc_M ms off dl t1 t2 t3 t4 aj ig ct →
    ∃ aj' ig', gc_M (gs_it (gs_steer md) k i (ti, ms)).2 off dl t1 t2 t3 t4 aj' ig' ct ∧
      ∀ (post : SY → Prop), (∃ n, wY_step_428 post (nI N) (nI C) tm (nI L) n 0 ds vc qa ql dr ((gs_it (gs_steer md) k i (ti, ms)).1) aj' ig' off dl t1 t2 t3 t4 ct md la lb da db lu es st sv sa) → wY_step_304 post (nI N) (nI C) tm (nI L) (k + 1) (nI i) ds vc qa ql dr ti aj ig off dl t1 t2 t3 t4 ct md la lb da db lu es st sv sa
  | 0, i, ti, ms, aj, ig, hi, H => ⟨aj, ig, H, fun post h => br_t (nI_le (by omega) (by have := K.2.1; omega)) h⟩
  | k + 1, i, ti, ms, aj, ig, hi, H => by
    have hN : N ≤ 8 := K.2.1
    have v : vp_in (nI i) 8 := vp_in_nI (by omega) (by omega)
    have g : ¬ nI N ≤ nI i := nI_ge (by omega) (by omega)
    have o : off (nI i).toNatClampNeg = ms (i * 9 + 0) := by
      rw [nI_clamp (by omega)]; exact (H i (by omega)).1.symm
    have o7 : ig i = ms (i * 9 + 7) := (H i (by omega)).2.2.2.2.2.2.2.1.symm
    by_cases a : md i = 0
    · have q : gs_steer md i (ti, ms) = (ti, ms) := by
        unfold gs_steer
        rw [if_pos a]
      obtain ⟨aj', ig', H', w⟩ := y_st2 K k (i + 1) ti ms aj ig (by omega) H
      have q2 : gs_it (gs_steer md) (k + 1) i (ti, ms) = gs_it (gs_steer md) k (i + 1) (ti, ms) := congrArg (gs_it (gs_steer md) k (i + 1)) q
      rw [q2]
      exact ⟨aj', ig', H', fun post h => br_f g ⟨v, br_t (by rw [nI_clamp (by omega)]; exact a) (nm_r (nI_1 i) (w post h))⟩⟩
    · have a' : ¬ md (nI i).toNatClampNeg = 0 := by rw [nI_clamp (by omega)]; exact a
      by_cases b : 1000000 < ms (i * 9 + 0) ∨ ms (i * 9 + 0) < -1000000
      · have q : gs_steer md i (ti, ms) = (vp_updL ti i (ti i - ms (i * 9 + 0)), ms) := by
          unfold gs_steer
          rw [if_neg a, if_pos b]
        obtain ⟨aj', ig', H', w⟩ := y_st2 K k (i + 1) (vp_updL ti i (ti i - ms (i * 9 + 0))) ms aj ig (by omega) H
        have q2 : gs_it (gs_steer md) (k + 1) i (ti, ms) = gs_it (gs_steer md) k (i + 1) (vp_updL ti i (ti i - ms (i * 9 + 0)), ms) := congrArg (gs_it (gs_steer md) k (i + 1)) q
        rw [q2]
        refine ⟨aj', ig', H', fun post h => br_f g ⟨v, br_f a' ⟨v, nm_r o ?_⟩⟩⟩
        have f : wY_step_347 post (wY_step_304 post (nI N) (nI C) tm (nI L) (k + 1)) (nI i) (ms (i * 9 + 0)) (nI N) (nI C) tm (nI L) ds vc qa ql dr ti aj ig off dl t1 t2 t3 t4 ct md la lb da db lu es st sv sa := by
          unfold wY_step_347
          rw [nI_clamp (by omega)]
          exact ⟨v, v, nm_e (nm_r (nI_1 i) (w post h))⟩
        by_cases b1 : 1000000 < ms (i * 9 + 0)
        · exact br_t b1 f
        · exact br_f b1 (br_f (Int64.not_le.mpr (b.resolve_left b1)) f)
      · have q : gs_steer md i (ti, ms) = (ti, vp_updL (vp_updL ms (i * 9 + 7) (gc_clL (ms (i * 9 + 7) - ms (i * 9 + 0) / 8) (-500000) 500000)) (i * 9 + 6) (gc_clL (gc_clL (ms (i * 9 + 7) - ms (i * 9 + 0) / 8) (-500000) 500000 - ms (i * 9 + 0) / 2) (-500000) 500000)) := by
          unfold gs_steer
          rw [if_neg a, if_neg b]
        obtain ⟨aj', ig', H', w⟩ := y_st2 K k (i + 1) ti _ _ _ (by omega) (gc_M6 (v := gc_clL (gc_clL (ms (i * 9 + 7) - ms (i * 9 + 0) / 8) (-500000) 500000 - ms (i * 9 + 0) / 2) (-500000) 500000) (c := i) (by omega) (gc_M7 (v := gc_clL (ms (i * 9 + 7) - ms (i * 9 + 0) / 8) (-500000) 500000) (c := i) (by omega) H))
        have q2 := congrArg (gs_it (gs_steer md) k (i + 1)) q
        have q3 : gs_it (gs_steer md) (k + 1) i (ti, ms) = gs_it (gs_steer md) k (i + 1) (gs_steer md i (ti, ms)) := rfl
        rw [q3, q2]
        refine ⟨aj', ig', H', fun post h => br_f g ⟨v, br_f a' ⟨v, nm_r o (br_f (fun z => b (Or.inl z)) (br_t (Int64.not_lt.mp (fun z => b (Or.inr z))) ⟨v, by decide, ?_⟩))⟩⟩⟩
        rw [nI_clamp (by omega), o7]
        refine y_clampL ⟨v, nm_e ⟨v, by decide, y_clampL ?_⟩⟩
        rw [pk_uLs]
        exact ⟨v, nm_e (nm_r (nI_1 i) (w post h))⟩
/-- phase 3 -/
theorem y_st3 (K : gx_ok N L lu ec) (H : gc_M ms off dl t1 t2 t3 t4 aj ig ct) {post : SY → Prop} : ∀ k i ti, i + k = N → (∃ n, wY_step_475 post n 0 (nI N) (nI C) tm (nI L) ds vc qa ql dr (gs_it (gs_adv dr ms) k i ti) aj ig off dl t1 t2 t3 t4 ct md la lb da db lu es st sv sa) → wY_step_428 post (nI N) (nI C) tm (nI L) (k + 1) (nI i) ds vc qa ql dr ti aj ig off dl t1 t2 t3 t4 ct md la lb da db lu es st sv sa
  | 0, i, ti, hi, h => br_t (nI_le (by omega) (by have := K.2.1; omega)) h
  | k + 1, i, ti, hi, h => by
    have hN : N ≤ 8 := K.2.1
    have v : vp_in (nI i) 8 := vp_in_nI (by omega) (by omega)
    have q : vp_updL ti (nI i).toNatClampNeg ((((ti (nI i).toNatClampNeg) + 1000000000) + ((dr (nI i).toNatClampNeg).toInt64)) + (aj (nI i).toNatClampNeg)) = gs_adv dr ms i ti := by
      rw [nI_clamp (by omega), ← (H i (by omega)).2.2.2.2.2.2.1]
      rfl
    exact br_f (nI_ge (by omega) (by omega)) ⟨v, v, v, v, nm_r q (nm_r (nI_1 i) (y_st3 K H k (i + 1) _ (by omega) h))⟩
end
end
section
/-! the reference's step against the component's pictures: phase 4 -/
theorem gs_age_lo {tm : Int32} {e j : Nat} {RW : Nat → Int32} (h : j < 160) : gs_age tm e RW j = RW j := by
  unfold gs_age
  split
  · rfl
  · split
    · rw [gc_cp_out (by omega), pk_un (by omega)]
    · rw [pk_un (by omega)]
theorem gs_listen_lo {tm : Int32} {lu ec es RW : Nat → Int32} {e j : Nat} (h : j < 160) : gs_listen tm lu ec es e RW j = RW j := by
  unfold gs_listen
  split
  · rfl
  · split
    · rw [gc_cp_out (by omega)]
    · exact gs_age_lo h
theorem gc_ots {l s : Nat} (hs : s < 2) : gc_ot (2 * l + s) = 2 * l + 1 - s := by
  unfold gc_ot
  split <;> omega
section
variable {N C L : Nat} {tm : Int32} {RW ds vc pa pl qa ql dr md la lb da db lu es st sv sa ec ed : Nat → Int32} {ti ms aj ig off dl t1 t2 t3 t4 ct : Nat → Int64}
/-- what stands behind a message that is not taken -/
theorem y_591 {e : Nat} (he : e < 32) (HS : gc_S RW st sv sa) :
    ∃ st' sv' sa', gc_S (gs_age tm e RW) st' sv' sa' ∧ ∀ (post : SY → Prop) J475 J497 (x1 : Int32) (s : Nat), J497 (nI (s + 1)) (nI N) (nI C) tm (nI L) ds vc qa ql dr ti aj ig off dl t1 t2 t3 t4 ct md la lb da db lu es st' sv' sa' → wY_step_591 post J475 J497 x1 (nI s) (nI e) 0 (nI N) (nI C) tm (nI L) ds vc qa ql dr ti aj ig off dl t1 t2 t3 t4 ct md la lb da db lu es st sv sa := by
  have v : vp_in (nI e) 32 := vp_in_nI he (by omega)
  obtain ⟨h1, h2, h3, h4⟩ := HS e he
  by_cases a : RW ((16 + e) * 10 + 8) = 0
  · have q : gs_age tm e RW = RW := by unfold gs_age; rw [if_pos a]
    rw [q]
    refine ⟨st, sv, sa, HS, fun post J4 J5 x1 s h => br_t rfl ⟨v, br_f ?_ (nm_r (nI_1 s) h)⟩⟩
    rw [nI_clamp (by omega), ← h2, a]; decide
  · have b : sv e = 1 := by
      rcases h4 with z | z
      · exact absurd (h2.trans z) a
      · exact z
    have b' : sv (nI e).toNatClampNeg = 1 := by rw [nI_clamp (by omega)]; exact b
    have S1 : gc_S (upd RW ((16 + e) * 10 + 9) (RW ((16 + e) * 10 + 9) + 1)) st sv (upd sa e (sa e + 1)) := by
      rw [h3]; exact gc_Sage _ he HS
    by_cases d : RW ((16 + e) * 10 + 9) + 1 = tm
    · have q : gs_age tm e RW = gc_cp (upd RW ((16 + e) * 10 + 9) (RW ((16 + e) * 10 + 9) + 1)) gc_z 0 ((16 + e) * 10) 10 := by unfold gs_age; rw [if_neg a, if_pos d]
      rw [q]
      refine ⟨_, _, _, gc_Sclr he S1, fun post J4 J5 x1 s h => br_t rfl ⟨v, br_t b' ⟨v, v, nm_r (e' := upd sa e (sa e + 1)) (by rw [nI_clamp (by omega)]) ⟨v, br_t ?_ (y_clear he (nm_r (nI_1 s) h))⟩⟩⟩⟩
      rw [nI_clamp (by omega), pk_us, ← h3]; exact d
    · have q : gs_age tm e RW = upd RW ((16 + e) * 10 + 9) (RW ((16 + e) * 10 + 9) + 1) := by unfold gs_age; rw [if_neg a, if_neg d]
      rw [q]
      refine ⟨_, _, _, S1, fun post J4 J5 x1 s h => br_t rfl ⟨v, br_t b' ⟨v, v, nm_r (e' := upd sa e (sa e + 1)) (by rw [nI_clamp (by omega)]) ⟨v, br_f ?_ (nm_r (nI_1 s) h)⟩⟩⟩⟩
      rw [nI_clamp (by omega), pk_us, ← h3]; exact d
/-- one end -/
theorem y_l4 {l s : Nat} (K : gx_ok N L lu ec) (hl : l < L) (hs : s < 2) (hu : ¬ lu l = 0) (HE : gc_E N L ec la lb) (HV : gc_V N RW vc) (HS : gc_S RW st sv sa) :
    ∃ st' sv' sa', gc_S (gs_listen tm lu ec es (2 * l + s) RW) st' sv' sa' ∧ ∀ (post : SY → Prop) J475 n, wY_step_497 post J475 (nI l) n (nI (s + 1)) (nI N) (nI C) tm (nI L) ds vc qa ql dr ti aj ig off dl t1 t2 t3 t4 ct md la lb da db lu es st' sv' sa' → wY_step_497 post J475 (nI l) (n + 1) (nI s) (nI N) (nI C) tm (nI L) ds vc qa ql dr ti aj ig off dl t1 t2 t3 t4 ct md la lb da db lu es st sv sa := by
  obtain ⟨_, hN, hL, _, hE⟩ := K
  have ho : gc_ot (2 * l + s) < 2 * L := gc_otlt (by omega)
  obtain ⟨j, hj, ej⟩ := hE _ ho
  have e1 : nI l * 2 + nI s = nI (2 * l + s) := by rw [ix_m2, nI_add, Nat.mul_comm]
  have e2 : nI l * 2 + 1 - nI s = nI (gc_ot (2 * l + s)) := by
    rw [ix_m2, ix_a1, pk_sub (by omega), gc_ots hs, Nat.mul_comm]
  have g : ¬ (2 : Int32) ≤ nI s := nI_ge (b := 2) hs (by omega)
  have vo : vp_in (nI (gc_ot (2 * l + s))) 32 := vp_in_nI (by omega) (by omega)
  have co : es (nI (gc_ot (2 * l + s))).toNatClampNeg = es (gc_ot (2 * l + s)) := by rw [nI_clamp (by omega)]
  have v6 : vp_in (nI j * 8 + 6) 64 := by rw [ix_m8, ix_a6]; exact vp_in_nI (by omega) (by omega)
  have v5 : vp_in (nI j * 8 + 5) 64 := by rw [ix_m8, ix_a5]; exact vp_in_nI (by omega) (by omega)
  have c6 : vc (nI j * 8 + 6).toNatClampNeg = RW ((8 + j) * 10 + 6) := by
    rw [ix_m8, ix_a6, nI_clamp (by omega)]; exact ((HV j hj).1 6 (by omega)).symm
  have c5 : vc (nI j * 8 + 5).toNatClampNeg = RW ((8 + j) * 10 + 5) := by
    rw [ix_m8, ix_a5, nI_clamp (by omega)]; exact ((HV j hj).1 5 (by omega)).symm
  have hl2 : (2 * l + s) / 2 = l := by omega
  by_cases cd : es (gc_ot (2 * l + s)) = 1 ∧ RW ((8 + j) * 10 + 6) ≤ 6 ∧ ¬ RW ((8 + j) * 10 + 5) = ec (2 * l + s)
  · have q : gs_listen tm lu ec es (2 * l + s) RW = gc_cp RW RW ((8 + j) * 10) ((16 + (2 * l + s)) * 10) 10 := by
      unfold gs_listen
      rw [hl2, if_neg hu, ej, nI_clamp (by omega), if_pos cd]
    rw [q]
    refine ⟨_, _, _, gc_Scpy (e := 2 * l + s) (by omega) hj HV HS, fun post J4 n h => br_f g (nm_r e1 (nm_r e2 (y_clockAt hL (by omega) HE (y_clockAt hL ho HE ?_))))⟩
    rw [ej, co, c6, c5]
    exact ⟨vo, br_t cd.1 ⟨v6, br_f (Int32.not_lt.mpr cd.2.1) ⟨v5, br_f cd.2.2 (y_copyV (by omega) (by omega) (br_f (by decide) (nm_r (nI_1 s) h)))⟩⟩⟩
  · have q : gs_listen tm lu ec es (2 * l + s) RW = gs_age tm (2 * l + s) RW := by
      unfold gs_listen
      rw [hl2, if_neg hu, ej, nI_clamp (by omega), if_neg cd]
    rw [q]
    obtain ⟨st', sv', sa', S', w⟩ := y_591 (N := N) (C := C) (L := L) (tm := tm) (ds := ds) (vc := vc) (qa := qa) (ql := ql) (dr := dr) (md := md) (la := la) (lb := lb) (da := da) (db := db) (lu := lu) (es := es) (ti := ti) (aj := aj) (ig := ig) (off := off) (dl := dl) (t1 := t1) (t2 := t2) (t3 := t3) (t4 := t4) (ct := ct) (e := 2 * l + s) (by omega) HS
    refine ⟨st', sv', sa', S', fun post J4 n h => br_f g (nm_r e1 (nm_r e2 (y_clockAt hL (by omega) HE (y_clockAt hL ho HE ?_))))⟩
    rw [ej, co, c6, c5]
    have f := w post J4 (wY_step_497 post J4 (nI l) n) (nI l) s h
    by_cases a : es (gc_ot (2 * l + s)) = 1
    · by_cases b : RW ((8 + j) * 10 + 6) ≤ 6
      · by_cases d : RW ((8 + j) * 10 + 5) = ec (2 * l + s)
        · exact ⟨vo, br_t a ⟨v6, br_f (Int32.not_lt.mpr b) ⟨v5, br_t d f⟩⟩⟩
        · exact absurd ⟨a, b, d⟩ cd
      · exact ⟨vo, br_t a ⟨v6, br_t (Int32.not_le.mp b) f⟩⟩
    · exact ⟨vo, br_f a f⟩
/-- phase 4 -/
theorem y_st4 (K : gx_ok N L lu ec) (HE : gc_E N L ec la lb) : ∀ k l RW st sv sa, l + k = L → gc_V N RW vc → gc_S RW st sv sa →
    ∃ st' sv' sa', gc_S (gs_it (gs_listen tm lu ec es) (2 * k) (2 * l) RW) st' sv' sa' ∧ ∀ (post : SY → Prop), (∃ n, wY_step_652 post n 0 (nI N) (nI C) tm (nI L) ds vc qa ql dr ti aj ig off dl t1 t2 t3 t4 ct md la lb da db lu es st' sv' sa') → wY_step_475 post (k + 1) (nI l) (nI N) (nI C) tm (nI L) ds vc qa ql dr ti aj ig off dl t1 t2 t3 t4 ct md la lb da db lu es st sv sa
  | 0, l, RW, st, sv, sa, hl, HV, HS => ⟨st, sv, sa, HS, fun post h => br_t (nI_le (by omega) (by have := K.2.2.1; omega)) h⟩
  | k + 1, l, RW, st, sv, sa, hl, HV, HS => by
    have hN := K.2.1
    have hL := K.2.2.1
    have g : ¬ nI L ≤ nI l := nI_ge (by omega) (by omega)
    have v : vp_in (nI l) 16 := vp_in_nI (by omega) (by omega)
    have q : gs_it (gs_listen tm lu ec es) (2 * (k + 1)) (2 * l) RW = gs_it (gs_listen tm lu ec es) (2 * k) (2 * (l + 1)) (gs_listen tm lu ec es (2 * l + 1) (gs_listen tm lu ec es (2 * l + 0) RW)) := rfl
    rw [q]
    by_cases hu : lu l = 0
    · have a0 : gs_listen tm lu ec es (2 * l + 0) RW = RW := by
        unfold gs_listen
        rw [show (2 * l + 0) / 2 = l by omega, if_pos hu]
      have a1 : gs_listen tm lu ec es (2 * l + 1) RW = RW := by
        unfold gs_listen
        rw [show (2 * l + 1) / 2 = l by omega, if_pos hu]
      rw [a0, a1]
      obtain ⟨st', sv', sa', S', w⟩ := y_st4 K HE k (l + 1) RW st sv sa (by omega) HV HS
      exact ⟨st', sv', sa', S', fun post h => br_f g ⟨v, br_t (by rw [nI_clamp (by omega)]; exact hu) (nm_r (nI_1 l) (w post h))⟩⟩
    · obtain ⟨s1, v1, g1, S1, w1⟩ := y_l4 (N := N) (C := C) (tm := tm) (ds := ds) (qa := qa) (ql := ql) (dr := dr) (md := md) (da := da) (db := db) (es := es) (ti := ti) (aj := aj) (ig := ig) (off := off) (dl := dl) (t1 := t1) (t2 := t2) (t3 := t3) (t4 := t4) (ct := ct) (l := l) (s := 0) K (by omega) (by omega) hu HE HV HS
      have HV1 : gc_V N (gs_listen tm lu ec es (2 * l + 0) RW) vc := gc_Vfr hN (fun j _ hj => gs_listen_lo hj) HV
      obtain ⟨s2, v2, g2, S2, w2⟩ := y_l4 (N := N) (C := C) (tm := tm) (ds := ds) (qa := qa) (ql := ql) (dr := dr) (md := md) (da := da) (db := db) (es := es) (ti := ti) (aj := aj) (ig := ig) (off := off) (dl := dl) (t1 := t1) (t2 := t2) (t3 := t3) (t4 := t4) (ct := ct) (l := l) (s := 1) K (by omega) (by omega) hu HE HV1 S1
      have HV2 : gc_V N (gs_listen tm lu ec es (2 * l + 1) (gs_listen tm lu ec es (2 * l + 0) RW)) vc := gc_Vfr hN (fun j _ hj => gs_listen_lo hj) HV1
      obtain ⟨st', sv', sa', S', w⟩ := y_st4 K HE k (l + 1) _ s2 v2 g2 (by omega) HV2 S2
      exact ⟨st', sv', sa', S', fun post h => br_f g ⟨v, br_f (by rw [nI_clamp (by omega)]; exact hu) ⟨3, w1 post _ 2 (w2 post _ 1 (br_t (nI_le (a := 2) (b := 2) (by omega) (by omega)) (nm_r (nI_1 l) (w post h))))⟩⟩⟩
end
end
section
/-! the reference's choice of a master -/
section
variable {N C L : Nat} {tm : Int32} {RW ds vc pa pl qa ql dr md la lb da db lu es st sv sa ec ed : Nat → Int32} {ti ms aj ig off dl t1 t2 t3 t4 ct : Nat → Int64}
theorem y_selfl {post : SY → Prop} {c : Nat} (hL : L ≤ 16) (HE : gc_E N L ec la lb) (h : post (gy N C L tm ds vc qa ql dr ti aj ig off dl t1 t2 t3 t4 ct md la lb da db lu (gc_fol ec lu es (fun _ => 1) c (2 * L)) st sv sa)) : ∀ k i, i + k = 2 * L → wY_bmc_110 post (nI c) (nI N) (nI C) tm (nI L) (k + 1) (nI i) ds vc qa ql dr ti aj ig off dl t1 t2 t3 t4 ct md la lb da db lu (gc_fol ec lu es (fun _ => 1) c i) st sv sa
  | 0, i, hi => by
    obtain rfl : i = 2 * L := by omega
    exact br_t (by rw [ix_m2]; exact nI_le (by omega) (by omega)) h
  | k + 1, i, hi => by
    have ih := y_selfl (post := post) hL HE h k (i + 1) (by omega)
    have sh : nI i >>> ((1 : Int32) &&& 31) = nI (i / 2) := ix_s1 (by omega)
    have v : vp_in (nI i >>> ((1 : Int32) &&& 31)) 16 := by rw [sh]; exact vp_in_nI (by omega) (by omega)
    have cl : lu (nI i >>> ((1 : Int32) &&& 31)).toNatClampNeg = lu (i / 2) := by rw [sh, nI_clamp (by omega)]
    refine br_f (by rw [ix_m2]; exact nI_ge (by omega) (by omega)) ⟨v, ?_⟩
    rw [cl]
    by_cases a : lu (i / 2) = 0
    · rw [← gc_folF (i := i) (fun z => z.2 a)] at ih
      exact br_t a (nm_r (nI_1 i) ih)
    · refine br_f a (y_clockAt hL (by omega) HE ?_)
      by_cases b : ec i = nI c
      · have e : upd (gc_fol ec lu es (fun _ => 1) c i) (nI i).toNatClampNeg 1 = gc_fol ec lu es (fun _ => 1) c (i + 1) := by
          rw [nI_clamp (by omega)]; exact gc_folT (p := fun _ => 1) b a
        exact br_t b ⟨vp_in_nI (by omega) (by omega), nm_r e (nm_r (nI_1 i) ih)⟩
      · rw [← gc_folF (i := i) (fun z => b z.1)] at ih
        exact br_f b (nm_r (nI_1 i) ih)
theorem y_self {post : SY → Prop} {c : Nat} (hL : L ≤ 16) (hc : c < 8) (HE : gc_E N L ec la lb) (h : post (gy N C L tm ds (upd (upd (gc_cp vc ds (c * 6) (c * 8) 6) (c * 8 + 6) 0) (c * 8 + 7) (nI c)) (upd qa c (-1)) (upd ql c (-1)) dr ti aj ig off dl t1 t2 t3 t4 ct md la lb da db lu (gc_fol ec lu es (fun _ => 1) c (2 * L)) st sv sa)) : wY_bmc_89 post (nI c) (nI N) (nI C) tm (nI L) ds vc qa ql dr ti aj ig off dl t1 t2 t3 t4 ct md la lb da db lu es st sv sa := by
  have e1 : upd qa (nI c).toNatClampNeg (-1) = upd qa c (-1) := by rw [nI_clamp (by omega)]
  have e2 : upd ql (nI c).toNatClampNeg (-1) = upd ql c (-1) := by rw [nI_clamp (by omega)]
  have l := y_selfl (post := post) (c := c) (vc := upd (upd (gc_cp vc ds (c * 6) (c * 8) 6) (c * 8 + 6) 0) (c * 8 + 7) (nI c)) (qa := upd qa c (-1)) (ql := upd ql c (-1)) hL HE h (2 * L) 0 (by omega)
  rw [gc_fol0] at l
  unfold wY_bmc_89
  exact y_resetV hc ⟨vp_in_nI hc (by omega), nm_r e1 ⟨vp_in_nI hc (by omega), nm_r e2 ⟨_, l⟩⟩⟩
/-- the states of the ends of a clock that follows b -/
def gs_qst (RW : Nat → Int32) (c b e : Nat) : Int32 := if e = b then 2 else gs_pst RW c e
theorem y_folll {post : SY → Prop} {c b : Nat} (hN : N ≤ 8) (hL : L ≤ 16) (hc : c < N) (hb : b < 32) (HE : gc_E N L ec la lb) (HV : gc_V N RW vc) (HS : gc_S RW st sv sa) (h : post (gy N C L tm ds vc qa ql dr ti aj ig off dl t1 t2 t3 t4 ct md la lb da db lu (gc_fol ec lu es (gs_qst RW c b) c (2 * L)) st sv sa)) : ∀ k i, i + k = 2 * L → wY_bmc_258 post (nI c) (nI b) (nI N) (nI C) tm (nI L) (k + 1) (nI i) ds vc qa ql dr ti aj ig off dl t1 t2 t3 t4 ct md la lb da db lu (gc_fol ec lu es (gs_qst RW c b) c i) st sv sa
  | 0, i, hi => by
    obtain rfl : i = 2 * L := by omega
    exact br_t (by rw [ix_m2]; exact nI_le (by omega) (by omega)) h
  | k + 1, i, hi => by
    have ih := y_folll (post := post) hN hL hc hb HE HV HS h k (i + 1) (by omega)
    have sh : nI i >>> ((1 : Int32) &&& 31) = nI (i / 2) := ix_s1 (by omega)
    have v : vp_in (nI i >>> ((1 : Int32) &&& 31)) 16 := by rw [sh]; exact vp_in_nI (by omega) (by omega)
    have vi : vp_in (nI i) 32 := vp_in_nI (by omega) (by omega)
    have cl : lu (nI i >>> ((1 : Int32) &&& 31)).toNatClampNeg = lu (i / 2) := by rw [sh, nI_clamp (by omega)]
    refine br_f (by rw [ix_m2]; exact nI_ge (by omega) (by omega)) ⟨v, ?_⟩
    rw [cl]
    by_cases a : lu (i / 2) = 0
    · rw [← gc_folF (i := i) (fun z => z.2 a)] at ih
      exact br_t a (nm_r (nI_1 i) ih)
    · refine br_f a (y_clockAt hL (by omega) HE ?_)
      by_cases d : ec i = nI c
      · refine br_t d ?_
        have e := gc_folT (es := es) (p := gs_qst RW c b) d a
        have f : ∀ x, gs_qst RW c b i = x → upd (gc_fol ec lu es (gs_qst RW c b) c i) (nI i).toNatClampNeg x = gc_fol ec lu es (gs_qst RW c b) c (i + 1) := by
          intro x z
          rw [z] at e
          rw [nI_clamp (by omega)]; exact e
        by_cases ib : i = b
        · exact br_t (by rw [ib]) ⟨vi, nm_r (f 2 (if_pos ib)) (nm_r (nI_1 i) ih)⟩
        · refine br_f (fun z => ib ((nI_eq (by omega) (by omega)).mp z)) ⟨vi, ?_⟩
          have hsv := (HS i (by omega)).2.1
          rw [nI_clamp (by omega)] at f
          rw [nI_clamp (by omega)]
          by_cases s1 : sv i = 1
          · refine br_t s1 (y_cmp (K := 8) (x := (16 + i) * 10) (y := (8 + c) * 10) (by omega) (fun g hg post h => y_fld2 (by omega) hg HS h) (fun g hg post h => y_fld1 hN hc hg HV h) ?_)
            by_cases w : gs_cmp RW ((16 + i) * 10) ((8 + c) * 10) 8 < 0
            · exact br_f (Int32.not_le.mpr w) ⟨vi, nm_r (f 3 ((if_neg ib).trans (if_pos ⟨hsv.trans s1, w⟩))) (nm_r (nI_1 i) ih)⟩
            · exact br_t (Int32.not_lt.mp w) ⟨vi, nm_r (f 1 ((if_neg ib).trans (if_neg (fun z => w z.2)))) (nm_r (nI_1 i) ih)⟩
          · exact br_f s1 ⟨vi, nm_r (f 1 ((if_neg ib).trans (if_neg (fun z => s1 (hsv.symm.trans z.1))))) (nm_r (nI_1 i) ih)⟩
      · rw [← gc_folF (i := i) (fun z => d z.1)] at ih
        exact br_f d (nm_r (nI_1 i) ih)
theorem y_copy6 {post : SY → Prop} {c b : Nat} (hc : c < 8) (hb : b < 32) (h : ∃ n, wY_bmc_258 post (nI c) (nI b) (nI N) (nI C) tm (nI L) n 0 ds (gc_fV vc st c b) (upd qa c (st (b * 8 + 7))) (upd ql c (nI (b / 2))) dr ti aj ig off dl t1 t2 t3 t4 ct md la lb da db lu es st sv sa) : ∀ k i, i + k = 6 → wY_bmc_156 post (nI c) (nI b) (nI N) (nI C) tm (nI L) (k + 1) (nI i) ds (gc_cp vc st (b * 8) (c * 8) i) qa ql dr ti aj ig off dl t1 t2 t3 t4 ct md la lb da db lu es st sv sa
  | 0, i, hi => by
    obtain rfl : i = 6 := by omega
    refine br_t (nI_le (a := 6) (b := 6) (by omega) (by omega)) ?_
    have sh : nI b >>> ((1 : Int32) &&& 31) = nI (b / 2) := ix_s1 (by omega)
    rw [sh]
    simp (disch := omega) only [ix_m6, ix_m8, ix_m9, ix_m10, ix_m2, ix_2m, ix_8a, ix_16a, ix_a0, ix_a1, ix_a2, ix_a3, ix_a4, ix_a5, ix_a6, ix_a7, ix_a8, ix_a9, nI_add, nI_clamp]
    exact ⟨vp_in_nI (by omega) (by omega), vp_in_nI (by omega) (by omega), nm_e ⟨vp_in_nI (by omega) (by omega), nm_e ⟨vp_in_nI (by omega) (by omega), vp_in_nI (by omega) (by omega), nm_e ⟨vp_in_nI (by omega) (by omega), nm_e h⟩⟩⟩⟩
  | k + 1, i, hi => by
    have v1 : vp_in (nI b * 8 + nI i) 256 := by rw [ix_m8, nI_add]; exact vp_in_nI (by omega) (by omega)
    have v2 : vp_in (nI c * 8 + nI i) 64 := by rw [ix_m8, nI_add]; exact vp_in_nI (by omega) (by omega)
    have q : upd (gc_cp vc st (b * 8) (c * 8) i) (nI c * 8 + nI i).toNatClampNeg (st (nI b * 8 + nI i).toNatClampNeg) = gc_cp vc st (b * 8) (c * 8) (i + 1) := by
      rw [ix_m8, ix_m8, nI_add, nI_add, nI_clamp (by omega), nI_clamp (by omega)]
      exact gc_cpS vc st (b * 8) (c * 8) i
    exact br_f (nI_ge (b := 6) (by omega) (by omega)) ⟨v1, v2, nm_r q (nm_r (nI_1 i) (y_copy6 hc hb h k (i + 1) (by omega)))⟩
theorem y_bestl {post : SY → Prop} {c : Nat} (hN : N ≤ 8) (hL : L ≤ 16) (hc : c < N) (HE : gc_E N L ec la lb) (HD : gc_D N RW ds) (HS : gc_S RW st sv sa) : ∀ k i b, i + k = 2 * L → gs_okb L lu ec RW c b →
    (gs_it (gs_bs lu ec RW c) k i b = none → wY_bmc_89 post (nI c) (nI N) (nI C) tm (nI L) ds vc qa ql dr ti aj ig off dl t1 t2 t3 t4 ct md la lb da db lu es st sv sa) →
    (∀ e, gs_it (gs_bs lu ec RW c) k i b = some e → e < 2 * L → (gs_cmp RW (c * 10) ((16 + e) * 10) 6 < 0 → wY_bmc_89 post (nI c) (nI N) (nI C) tm (nI L) ds vc qa ql dr ti aj ig off dl t1 t2 t3 t4 ct md la lb da db lu es st sv sa) ∧ (¬ gs_cmp RW (c * 10) ((16 + e) * 10) 6 < 0 → ∃ n, wY_bmc_156 post (nI c) (nI e) (nI N) (nI C) tm (nI L) n 0 ds vc qa ql dr ti aj ig off dl t1 t2 t3 t4 ct md la lb da db lu es st sv sa)) →
    wY_bmc_4 post (nI c) (nI N) (nI C) tm (nI L) ds vc qa ql dr ti aj ig off dl t1 t2 t3 t4 ct md la lb da db lu es st sv sa (k + 1) (gc_en b) (nI i)
  | 0, i, none, hi, hb, h0, h1 => br_t (by rw [ix_m2]; exact nI_le (by omega) (by omega)) (br_t (by decide) (h0 rfl))
  | 0, i, some e, hi, hb, h0, h1 => by
    have he : e < 2 * L := hb.1
    refine br_t (by rw [ix_m2]; exact nI_le (by omega) (by omega)) (br_f (nI_pos (by omega)) ?_)
    refine y_cmp (K := 6) (x := c * 10) (y := (16 + e) * 10) (by omega) (fun g hg post h => y_fld0 hN hc hg HD h) (fun g hg post h => y_fld2 (by omega) (by omega) HS h) ?_
    by_cases w : gs_cmp RW (c * 10) ((16 + e) * 10) 6 < 0
    · exact br_f (Int32.not_le.mpr w) ((h1 e rfl he).1 w)
    · exact br_t (Int32.not_lt.mp w) ((h1 e rfl he).2 w)
  | k + 1, i, b, hi, hb, h0, h1 => by
    have hi2 : i < 2 * L := by omega
    have hk : gs_okb L lu ec RW c (gs_bs lu ec RW c i b) := gs_bs_ok hi2 hb
    have ih := y_bestl (post := post) hN hL hc HE HD HS k (i + 1) (gs_bs lu ec RW c i b) (by omega) hk h0 h1
    have sh : nI i >>> ((1 : Int32) &&& 31) = nI (i / 2) := ix_s1 (by omega)
    have v : vp_in (nI i >>> ((1 : Int32) &&& 31)) 16 := by rw [sh]; exact vp_in_nI (by omega) (by omega)
    have vi : vp_in (nI i) 32 := vp_in_nI (by omega) (by omega)
    have cl : lu (nI i >>> ((1 : Int32) &&& 31)).toNatClampNeg = lu (i / 2) := by rw [sh, nI_clamp (by omega)]
    have hsv := (HS i (by omega)).2.1
    unfold gs_bs at ih
    refine br_f (by rw [ix_m2]; exact nI_ge (by omega) (by omega)) ⟨v, ?_⟩
    rw [cl]
    by_cases a : lu (i / 2) = 0
    · rw [if_neg (fun z => z.2.1 a)] at ih
      exact br_t a (nm_r (nI_1 i) ih)
    · refine br_f a (y_clockAt hL (by omega) HE ?_)
      by_cases d : ec i = nI c
      · refine br_t d ⟨vi, ?_⟩
        rw [nI_clamp (by omega)]
        by_cases s1 : sv i = 1
        · rw [if_pos ⟨d, a, hsv.trans s1⟩] at ih
          refine br_t s1 ?_
          cases b with
          | none => exact br_t (by decide) (nm_r (nI_1 i) ih)
          | some j =>
            dsimp only at ih
            have hj : j < 2 * L := hb.1
            refine br_f (nI_pos (by omega)) (y_cmp (K := 8) (x := (16 + i) * 10) (y := (16 + j) * 10) (by omega) (fun g hg post h => y_fld2 (by omega) hg HS h) (fun g hg post h => y_fld2 (by omega) hg HS h) ?_)
            by_cases w : gs_cmp RW ((16 + i) * 10) ((16 + j) * 10) 8 < 0
            · rw [if_pos w] at ih
              exact br_f (Int32.not_le.mpr w) (nm_r (nI_1 i) ih)
            · rw [if_neg w] at ih
              exact br_t (Int32.not_lt.mp w) (nm_r (nI_1 i) ih)
        · rw [if_neg (fun z => s1 (hsv.symm.trans z.2.2))] at ih
          exact br_f s1 (nm_r (nI_1 i) ih)
      · rw [if_neg (fun z => d z.1)] at ih
        exact br_f d (nm_r (nI_1 i) ih)
/-- the choice of one clock -/
theorem y_bmc {c : Nat} (hN : N ≤ 8) (hL : L ≤ 16) (hc : c < N) (HE : gc_E N L ec la lb) (HD : gc_D N RW ds) (HV : gc_V N RW vc) (HS : gc_S RW st sv sa) (HA : gc_P N pa qa) (HP : gc_P N pl ql) :
    ∃ vc' qa' ql', gc_D N (gs_choose L lu ec c (RW, pa, pl, es)).1 ds ∧ gc_V N (gs_choose L lu ec c (RW, pa, pl, es)).1 vc' ∧ gc_S (gs_choose L lu ec c (RW, pa, pl, es)).1 st sv sa ∧ gc_P N (gs_choose L lu ec c (RW, pa, pl, es)).2.1 qa' ∧ gc_P N (gs_choose L lu ec c (RW, pa, pl, es)).2.2.1 ql' ∧
      ∀ (post : SY → Prop), post (gy N C L tm ds vc' qa' ql' dr ti aj ig off dl t1 t2 t3 t4 ct md la lb da db lu ((gs_choose L lu ec c (RW, pa, pl, es)).2.2.2) st sv sa) → wpY_bmc post (gy N C L tm ds vc qa ql dr ti aj ig off dl t1 t2 t3 t4 ct md la lb da db lu es st sv sa) (nI c) := by
  have ok : gs_okb L lu ec RW c (gs_best L lu ec RW c) := gs_best_ok
  have pu : ∀ (a b : Nat → Int32) (x : Int32), gc_P N a b → gc_P N (upd a c x) (upd b c x) := by
    intro a b x h i hi
    by_cases q : i = c
    · subst q; rw [pk_us, pk_us]
    · rw [pk_un q, pk_un q]; exact h i hi
  have self : gs_choose L lu ec c (RW, pa, pl, es) = gs_self L lu ec c RW pa pl es → (∀ (post : SY → Prop), wY_bmc_89 post (nI c) (nI N) (nI C) tm (nI L) ds vc qa ql dr ti aj ig off dl t1 t2 t3 t4 ct md la lb da db lu es st sv sa → wpY_bmc post (gy N C L tm ds vc qa ql dr ti aj ig off dl t1 t2 t3 t4 ct md la lb da db lu es st sv sa) (nI c)) → _ := fun q w =>
    (⟨_, _, _, (by rw [q]; exact gc_Dfr hN (fun j hj => gc_cp_out (by omega)) HD), (by rw [q]; exact gc_Vown hN hc HD HV), (by rw [q]; exact gc_Sfr (fun j hj => gc_cp_out (by omega)) HS), (by rw [q]; exact pu _ _ _ HA), (by rw [q]; exact pu _ _ _ HP), (fun post h => w post (y_self hL (by omega) HE (by rw [q] at h; exact h)))⟩ :
    ∃ vc' qa' ql', gc_D N (gs_choose L lu ec c (RW, pa, pl, es)).1 ds ∧ gc_V N (gs_choose L lu ec c (RW, pa, pl, es)).1 vc' ∧ gc_S (gs_choose L lu ec c (RW, pa, pl, es)).1 st sv sa ∧ gc_P N (gs_choose L lu ec c (RW, pa, pl, es)).2.1 qa' ∧ gc_P N (gs_choose L lu ec c (RW, pa, pl, es)).2.2.1 ql' ∧
      ∀ (post : SY → Prop), post (gy N C L tm ds vc' qa' ql' dr ti aj ig off dl t1 t2 t3 t4 ct md la lb da db lu ((gs_choose L lu ec c (RW, pa, pl, es)).2.2.2) st sv sa) → wpY_bmc post (gy N C L tm ds vc qa ql dr ti aj ig off dl t1 t2 t3 t4 ct md la lb da db lu es st sv sa) (nI c))
  cases hq : gs_best L lu ec RW c with
  | none =>
    refine self ?_ ?_
    · unfold gs_choose
      rw [hq]
    · intro post h
      exact ⟨_, y_bestl hN hL hc HE HD HS (2 * L) 0 none (by omega) trivial (fun _ => h) (fun e he _ => absurd (hq.symm.trans he).symm (Option.some_ne_none e))⟩
  | some b =>
    rw [hq] at ok
    obtain ⟨hb, ob1, ob2, ob3⟩ := ok
    by_cases w : gs_cmp RW (c * 10) ((16 + b) * 10) 6 < 0
    · refine self ?_ ?_
      · unfold gs_choose
        rw [hq]
        exact if_pos w
      · intro post h
        exact ⟨_, y_bestl hN hL hc HE HD HS (2 * L) 0 none (by omega) trivial (fun z => absurd (hq.symm.trans z) (Option.some_ne_none b)) (fun e he _ => ⟨fun _ => h, fun z => absurd w (by obtain rfl := Option.some.inj (hq.symm.trans he); exact z)⟩)⟩
    · have q : gs_choose L lu ec c (RW, pa, pl, es) = gs_foll L lu ec c b RW pa pl es := by
        unfold gs_choose
        rw [hq]
        exact if_neg w
      have hsv := (HS b (by omega)).2.1
      have HD' : gc_D N (gc_fR RW c b) ds := gc_Dfr hN (fun j hj => gc_fRout (by omega)) HD
      have HV' : gc_V N (gc_fR RW c b) (gc_fV vc st c b) := gc_Vfol hN hc (by omega) HS (hsv.symm.trans ob3) HV
      have HS' : gc_S (gc_fR RW c b) st sv sa := gc_Sfr (fun j hj => gc_fRout (by omega)) HS
      have e7 : RW ((16 + b) * 10 + 7) = st (b * 8 + 7) := (HS b (by omega)).1 7 (by omega)
      have eb : upd (gc_fol ec lu es (gs_pst (gc_fR RW c b) c) c (2 * L)) b 2 = gc_fol ec lu es (gs_qst (gc_fR RW c b) c b) c (2 * L) := gc_folB hb ob1 ob2 (if_pos rfl) (fun e he => if_neg he)
      rw [q]
      refine ⟨gc_fV vc st c b, upd qa c (st (b * 8 + 7)), upd ql c (nI (b / 2)), HD', HV', HS', ?_, pu _ _ _ HP, fun post h => ?_⟩
      · have := pu _ _ (RW ((16 + b) * 10 + 7)) HA
        rw [← e7]; exact this
      · have h' : post (gy N C L tm ds (gc_fV vc st c b) (upd qa c (st (b * 8 + 7))) (upd ql c (nI (b / 2))) dr ti aj ig off dl t1 t2 t3 t4 ct md la lb da db lu (gc_fol ec lu es (gs_qst (gc_fR RW c b) c b) c (2 * L)) st sv sa) := by rw [← eb]; exact h
        have l := y_folll (b := b) hN hL hc (by omega) HE HV' HS' h' (2 * L) 0 (by omega)
        rw [gc_fol0] at l
        have l6 := y_copy6 (c := c) (b := b) (by omega) (by omega) ⟨_, l⟩ 6 0 (by omega)
        rw [gc_cp0] at l6
        exact ⟨_, y_bestl hN hL hc HE HD HS (2 * L) 0 none (by omega) trivial (fun z => absurd (hq.symm.trans z) (Option.some_ne_none b)) (fun e he _ => ⟨fun z => absurd z (by obtain rfl := Option.some.inj (hq.symm.trans he); exact w), fun _ => by obtain rfl := Option.some.inj (hq.symm.trans he); exact ⟨_, l6⟩⟩)⟩
/-- phase 5 -/
theorem y_st5 (K : gx_ok N L lu ec) (HE : gc_E N L ec la lb) : ∀ k i RW pa pl es vc qa ql, i + k = N → gc_D N RW ds → gc_V N RW vc → gc_S RW st sv sa → gc_P N pa qa → gc_P N pl ql →
    ∃ vc' qa' ql', gc_D N (gs_it (gs_choose L lu ec) k i (RW, pa, pl, es)).1 ds ∧ gc_V N (gs_it (gs_choose L lu ec) k i (RW, pa, pl, es)).1 vc' ∧ gc_S (gs_it (gs_choose L lu ec) k i (RW, pa, pl, es)).1 st sv sa ∧ gc_P N (gs_it (gs_choose L lu ec) k i (RW, pa, pl, es)).2.1 qa' ∧ gc_P N (gs_it (gs_choose L lu ec) k i (RW, pa, pl, es)).2.2.1 ql' ∧
      ∀ (post : SY → Prop), post (gy N C L tm ds vc' qa' ql' dr ti aj ig off dl t1 t2 t3 t4 ct md la lb da db lu ((gs_it (gs_choose L lu ec) k i (RW, pa, pl, es)).2.2.2) st sv sa) → wY_step_652 post (k + 1) (nI i) (nI N) (nI C) tm (nI L) ds vc qa ql dr ti aj ig off dl t1 t2 t3 t4 ct md la lb da db lu es st sv sa
  | 0, i, RW, pa, pl, es, vc, qa, ql, hi, HD, HV, HS, HA, HP => ⟨vc, qa, ql, HD, HV, HS, HA, HP, fun post h => br_t (nI_le (by omega) (by have := K.2.1; omega)) h⟩
  | k + 1, i, RW, pa, pl, es, vc, qa, ql, hi, HD, HV, HS, HA, HP => by
    have hN := K.2.1
    obtain ⟨v1, a1, l1, D1, V1, S1, A1, P1, w1⟩ := y_bmc (C := C) (tm := tm) (dr := dr) (md := md) (da := da) (db := db) (lu := lu) (es := es) (ti := ti) (aj := aj) (ig := ig) (off := off) (dl := dl) (t1 := t1) (t2 := t2) (t3 := t3) (t4 := t4) (ct := ct) (c := i) hN K.2.2.1 (by omega) HE HD HV HS HA HP
    obtain ⟨v2, a2, l2, D2, V2, S2, A2, P2, w2⟩ := y_st5 K HE k (i + 1) _ _ _ (gs_choose L lu ec i (RW, pa, pl, es)).2.2.2 v1 a1 l1 (by omega) D1 V1 S1 A1 P1
    exact ⟨v2, a2, l2, D2, V2, S2, A2, P2, fun post h => br_f (nI_ge (by omega) (by omega)) (w1 _ (nm_r (nI_1 i) (w2 post h)))⟩
end
end
section
/-! the relation, and a step of both sides -/
def gr_R (N : Nat) (C : Nat) (L : Nat) (RW : Nat → Int32) (pa : Nat → Int32) (pl : Nat → Int32) (ms : Nat → Int64) (lu : Nat → Int32) (ec : Nat → Int32) (ed : Nat → Int32) (ds : Nat → Int32) (vc : Nat → Int32) (qa : Nat → Int32) (ql : Nat → Int32) (aj : Nat → Int64) (ig : Nat → Int64) (off : Nat → Int64) (dl : Nat → Int64) (t1 : Nat → Int64) (t2 : Nat → Int64) (t3 : Nat → Int64) (t4 : Nat → Int64) (ct : Nat → Int64) (la : Nat → Int32) (lb : Nat → Int32) (da : Nat → Int32) (db : Nat → Int32) (st : Nat → Int32) (sv : Nat → Int32) (sa : Nat → Int32) : Prop :=
  gx_ok N L lu ec ∧ L ≤ C ∧ C ≤ 16 ∧ gc_D N RW ds ∧ gc_V N RW vc ∧ gc_S RW st sv sa ∧ gc_M ms off dl t1 t2 t3 t4 aj ig ct ∧ gc_E N L ec la lb ∧ gc_W L ed da db ∧ gc_P N pa qa ∧ gc_P N pl ql
def i_Rel (_ : Nat) (u : SX) (v : SY) : Prop :=
  ∃ (N : Nat) (C : Nat) (L : Nat) (tm : Int32) (RW : Nat → Int32) (dr : Nat → Int32) (ti : Nat → Int64) (pa : Nat → Int32) (pl : Nat → Int32) (ms : Nat → Int64) (md : Nat → Int32) (lu : Nat → Int32) (ec : Nat → Int32) (es : Nat → Int32) (ed : Nat → Int32) (ds : Nat → Int32) (vc : Nat → Int32) (qa : Nat → Int32) (ql : Nat → Int32) (aj : Nat → Int64) (ig : Nat → Int64) (off : Nat → Int64) (dl : Nat → Int64) (t1 : Nat → Int64) (t2 : Nat → Int64) (t3 : Nat → Int64) (t4 : Nat → Int64) (ct : Nat → Int64) (la : Nat → Int32) (lb : Nat → Int32) (da : Nat → Int32) (db : Nat → Int32) (st : Nat → Int32) (sv : Nat → Int32) (sa : Nat → Int32), u = (gx N C L tm RW dr ti pa pl ms md lu ec es ed) ∧ v = (gy N C L tm ds vc qa ql dr ti aj ig off dl t1 t2 t3 t4 ct md la lb da db lu es st sv sa) ∧ gr_R N C L RW pa pl ms lu ec ed ds vc qa ql aj ig off dl t1 t2 t3 t4 ct la lb da db st sv sa
theorem i_up {k : Nat} {u : SX} {v : SY} (h : i_Rel k u v) : i_Rel (k + 5) u v := h
theorem gr_mk {k : Nat} {N : Nat} {C : Nat} {L : Nat} {tm : Int32} {RW : Nat → Int32} {dr : Nat → Int32} {ti : Nat → Int64} {pa : Nat → Int32} {pl : Nat → Int32} {ms : Nat → Int64} {md : Nat → Int32} {lu : Nat → Int32} {ec : Nat → Int32} {es : Nat → Int32} {ed : Nat → Int32} {ds : Nat → Int32} {vc : Nat → Int32} {qa : Nat → Int32} {ql : Nat → Int32} {aj : Nat → Int64} {ig : Nat → Int64} {off : Nat → Int64} {dl : Nat → Int64} {t1 : Nat → Int64} {t2 : Nat → Int64} {t3 : Nat → Int64} {t4 : Nat → Int64} {ct : Nat → Int64} {la : Nat → Int32} {lb : Nat → Int32} {da : Nat → Int32} {db : Nat → Int32} {st : Nat → Int32} {sv : Nat → Int32} {sa : Nat → Int32} (R : gr_R N C L RW pa pl ms lu ec ed ds vc qa ql aj ig off dl t1 t2 t3 t4 ct la lb da db st sv sa) : i_Rel k (gx N C L tm RW dr ti pa pl ms md lu ec es ed) (gy N C L tm ds vc qa ql dr ti aj ig off dl t1 t2 t3 t4 ct md la lb da db lu es st sv sa) :=
  ⟨N, C, L, tm, RW, dr, ti, pa, pl, ms, md, lu, ec, es, ed, ds, vc, qa, ql, aj, ig, off, dl, t1, t2, t3, t4, ct, la, lb, da, db, st, sv, sa, rfl, rfl, R⟩
theorem gr_in {x : Int32} {n : Nat} (hn : n < 2 ^ 31) (h : ¬ (x < 0 ∨ nI n ≤ x)) : ∃ j, j < n ∧ x = nI j := by
  rcases pk_ix x hn with q | q | q
  · exact absurd (Or.inl q) h
  · exact absurd (Or.inr q) h
  · exact q
theorem gr_step {u : SX} {v : SY} (I : i_Rel 0 u v) : ∃ u' v', i_Rel 0 u' v' ∧ (∀ post : SX → Prop, post u' → wpX_step post u) ∧ (∀ post : SY → Prop, post v' → wpY_step post v) := by
  obtain ⟨N, C, L, tm, RW, dr, ti, pa, pl, ms, md, lu, ec, es, ed, ds, vc, qa, ql, aj, ig, off, dl, t1, t2, t3, t4, ct, la, lb, da, db, st, sv, sa, rfl, rfl, R⟩ := I
  obtain ⟨K, hLC, hC, HD, HV, HS, HM, HE, HW, HA, HP⟩ := R
  have hN : N ≤ 8 := K.2.1
  obtain ⟨o1, d1, a1, a2, a3, a4, c1, M1, w1⟩ := y_st1 (C := C) (tm := tm) (ds := ds) (vc := vc) (qa := qa) (dr := dr) (es := es) (ti := ti) (st := st) (sv := sv) (sa := sa) K HE HW HP N 0 md ms off dl t1 t2 t3 t4 ct (by omega) HM
  obtain ⟨aj', ig', M2, w2⟩ := y_st2 (C := C) (tm := tm) (ds := ds) (vc := vc) (qa := qa) (ql := ql) (dr := dr) (md := (gs_it (gs_meas L pl lu ec es ed ti) N 0 (md, ms)).1) (la := la) (lb := lb) (da := da) (db := db) (es := es) (st := st) (sv := sv) (sa := sa) K N 0 ti _ aj ig (by omega) M1
  obtain ⟨st', sv', sa', S4, w4⟩ := y_st4 (C := C) (tm := tm) (ds := ds) (vc := vc) (qa := qa) (ql := ql) (dr := dr) (md := (gs_it (gs_meas L pl lu ec es ed ti) N 0 (md, ms)).1) (da := da) (db := db) (es := es) (ti := gs_it (gs_adv dr (gs_it (gs_steer (gs_it (gs_meas L pl lu ec es ed ti) N 0 (md, ms)).1) N 0 (ti, (gs_it (gs_meas L pl lu ec es ed ti) N 0 (md, ms)).2)).2) N 0 (gs_it (gs_steer (gs_it (gs_meas L pl lu ec es ed ti) N 0 (md, ms)).1) N 0 (ti, (gs_it (gs_meas L pl lu ec es ed ti) N 0 (md, ms)).2)).1) (aj := aj') (ig := ig') (off := o1) (dl := d1) (t1 := a1) (t2 := a2) (t3 := a3) (t4 := a4) (ct := c1) K HE L 0 RW st sv sa (by omega) HV HS
  have lo : ∀ j, j < 160 → gs_it (gs_listen tm lu ec es) (2 * L) 0 RW j = RW j :=
    gs_it_ok (gs_listen tm lu ec es) (fun R => ∀ j, j < 160 → R j = RW j) (2 * L) (fun i s _ h j hj => (gs_listen_lo hj).trans (h j hj)) (2 * L) 0 RW (by omega) (fun _ _ => rfl)
  have D4 := gc_Dfr hN (fun j hj => lo j (by omega)) HD
  have V4 := gc_Vfr hN (fun j _ hj => lo j hj) HV
  obtain ⟨vc', qa', ql', D5, V5, S5, A5, P5, w5⟩ := y_st5 (C := C) (tm := tm) (dr := dr) (md := (gs_it (gs_meas L pl lu ec es ed ti) N 0 (md, ms)).1) (da := da) (db := db) (ti := gs_it (gs_adv dr (gs_it (gs_steer (gs_it (gs_meas L pl lu ec es ed ti) N 0 (md, ms)).1) N 0 (ti, (gs_it (gs_meas L pl lu ec es ed ti) N 0 (md, ms)).2)).2) N 0 (gs_it (gs_steer (gs_it (gs_meas L pl lu ec es ed ti) N 0 (md, ms)).1) N 0 (ti, (gs_it (gs_meas L pl lu ec es ed ti) N 0 (md, ms)).2)).1) (aj := aj') (ig := ig') (off := o1) (dl := d1) (t1 := a1) (t2 := a2) (t3 := a3) (t4 := a4) (ct := c1) K HE N 0 _ pa pl es vc qa ql (by omega) D4 V4 S4 HA HP
  exact ⟨gs_stX N C L tm RW dr ti pa pl ms md lu ec es ed, _, gr_mk ⟨K, hLC, hC, D5, V5, S5, M2, HE, HW, A5, P5⟩, fun post h => x_step K h, fun post h => ⟨_, w1 post ⟨_, w2 post ⟨_, y_st3 K M2 N 0 _ (by omega) ⟨_, w4 post ⟨_, w5 post h⟩⟩⟩⟩⟩⟩
def gr_rx (post : Int32 → SX → Prop) (x2 : Int32) (n : Nat) (x3 : Int32) (u : SX) : Prop := match u with
  | (f1, f2, f3, f4, b1, b2, b3, b4, b5, b6, b7, b8, b9, b10, b11) => wX_run_10 post x2 n x3 f1 f2 f3 f4 b1 b2 b3 b4 b5 b6 b7 b8 b9 b10 b11
def gr_ry (post : Int32 → SY → Prop) (x2 : Int32) (n : Nat) (x3 : Int32) (v : SY) : Prop := match v with
  | (f1, f2, f3, f4, b1, b2, b3, b4, b5, b6, b7, b8, b9, b10, b11, b12, b13, b14, b15, b16, b17, b18, b19, b20, b21, b22, b23, b24, b25) => wY_run_11 post x2 n x3 f1 f2 f3 f4 b1 b2 b3 b4 b5 b6 b7 b8 b9 b10 b11 b12 b13 b14 b15 b16 b17 b18 b19 b20 b21 b22 b23 b24 b25
theorem gr_runs {K : Nat} (hK : K ≤ 64) : ∀ k i u v, i + k = K → i_Rel 0 u v → ∃ u' v', i_Rel 0 u' v' ∧ (∀ post : Int32 → SX → Prop, post (nI K) u' → gr_rx post (nI K) (k + 1) (nI i) u) ∧ (∀ post : Int32 → SY → Prop, post (nI K) v' → gr_ry post (nI K) (k + 1) (nI i) v)
  | 0, i, u, v, hi, I => by
    have I0 := I
    obtain ⟨N, C, L, tm, RW, dr, ti, pa, pl, ms, md, lu, ec, es, ed, ds, vc, qa, ql, aj, ig, off, dl, t1, t2, t3, t4, ct, la, lb, da, db, st, sv, sa, rfl, rfl, R⟩ := I
    exact ⟨_, _, I0, fun post h => br_t (nI_le (by omega) (by omega)) h, fun post h => br_t (nI_le (by omega) (by omega)) h⟩
  | k + 1, i, u, v, hi, I => by
    obtain ⟨u1, v1, I1, wx, wy⟩ := gr_step I
    obtain ⟨u2, v2, I2, wx2, wy2⟩ := gr_runs hK k (i + 1) u1 v1 (by omega) I1
    obtain ⟨N, C, L, tm, RW, dr, ti, pa, pl, ms, md, lu, ec, es, ed, ds, vc, qa, ql, aj, ig, off, dl, t1, t2, t3, t4, ct, la, lb, da, db, st, sv, sa, rfl, rfl, R⟩ := I
    obtain ⟨N1, C1, L1, tm, RW, dr, ti, pa, pl, ms, md, lu, ec, es, ed, ds, vc, qa, ql, aj, ig, off, dl, t1, t2, t3, t4, ct, la, lb, da, db, st, sv, sa, rfl, rfl, R1⟩ := I1
    exact ⟨u2, v2, I2, fun post h => br_f (nI_ge (by omega) (by omega)) (wx _ (nm_r (nI_1 i) (wx2 post h))), fun post h => br_f (nI_ge (by omega) (by omega)) (wy _ (nm_r (nI_1 i) (wy2 post h)))⟩
theorem gr_cl {v lo hi : Int32} {a b : Nat} (hlo : lo = nI a) (hhi : hi = nI b) (hab : a ≤ b) (hb : b < 2 ^ 31) : ∃ j, a ≤ j ∧ j ≤ b ∧ gc_cl v lo hi = nI j := by
  subst hlo hhi
  unfold gc_cl
  by_cases h1 : v < nI a
  · exact ⟨a, Nat.le_refl a, hab, if_pos h1⟩
  · rw [if_neg h1]
    by_cases h2 : nI b < v
    · exact ⟨b, hab, Nat.le_refl b, if_pos h2⟩
    · rw [if_neg h2]
      have hv : ¬ v < 0 := fun z => h1 (Int32.lt_of_lt_of_le z (nI_pos' (by omega)))
      obtain ⟨j, hj, rfl⟩ := nI_of hv
      refine ⟨j, ?_, ?_, rfl⟩
      · rw [nI_ltI hj (by omega)] at h1; omega
      · rw [nI_ltI hb hj] at h2; omega
theorem i_vc_run {k : Nat} {u : SX} {v : SY} (I : i_Rel k u v) (hk : k + 5 ≤ 2563) (v1 : Int32) : wpX_run (fun r u' => wpY_run (fun r' v' => r' = r ∧ i_Rel (k + 5) u' v') v v1) u v1 := by
  obtain ⟨K, _, hK, e⟩ := gr_cl (v := v1) (lo := 0) (hi := 64) (a := 0) (b := 64) rfl rfl (by omega) (by omega)
  obtain ⟨u', v', I', wx, wy⟩ := gr_runs hK K 0 u v (by omega) I
  obtain ⟨N, C, L, tm, RW, dr, ti, pa, pl, ms, md, lu, ec, es, ed, ds, vc, qa, ql, aj, ig, off, dl, t1, t2, t3, t4, ct, la, lb, da, db, st, sv, sa, rfl, rfl, R⟩ := I
  unfold wpX_run
  refine x_clamp ?_
  rw [e]
  refine ⟨_, wx _ ?_⟩
  unfold wpY_run
  refine y_clamp ?_
  rw [e]
  exact ⟨_, wy _ ⟨rfl, I'⟩⟩
end
section
/-! the setters and the getters -/
theorem gr_fr {N : Nat} {RW ds vc st sv sa : Nat → Int32} {c f : Nat} {x : Int32} (hN : N ≤ 8) (hc : c < N) (hf : f < 6) (H : gc_D N RW ds ∧ gc_V N RW vc ∧ gc_S RW st sv sa) : gc_D N (upd RW (c * 10 + f) x) (upd ds (c * 6 + f) x) ∧ gc_V N (upd RW (c * 10 + f) x) vc ∧ gc_S (upd RW (c * 10 + f) x) st sv sa :=
  ⟨gc_Dset x hc hf H.1, gc_Vfr hN (fun j h1 _ => pk_un (by omega)) H.2.1, gc_Sfr (fun j h1 => pk_un (by omega)) H.2.2⟩
theorem i_vc_setPriority {k : Nat} {u : SX} {v : SY} (I : i_Rel k u v) (hk : k + 5 ≤ 2563) (v1 : Int32) (v2 : Int32) (v3 : Int32) : wpX_setPriority (fun r u' => wpY_setPriority (fun r' v' => r' = r ∧ i_Rel (k + 5) u' v') v v1 v2 v3) u v1 v2 v3 := by
  obtain ⟨N, C, L, tm, RW, dr, ti, pa, pl, ms, md, lu, ec, es, ed, ds, vc, qa, ql, aj, ig, off, dl, t1, t2, t3, t4, ct, la, lb, da, db, st, sv, sa, rfl, rfl, R⟩ := I
  have I' := gr_mk (k := k + 5) (tm := tm) (dr := dr) (ti := ti) (md := md) (es := es) R
  obtain ⟨K, hLC, hC, HD, HV, HS, HM, HE, HW, HA, HP⟩ := R
  have hN : N ≤ 8 := K.2.1
  have hL : L ≤ 16 := K.2.2.1
  unfold wpX_setPriority
  by_cases b : v1 < 0 ∨ nI N ≤ v1
  · refine x_isClock_f b (br_t rfl ?_)
    unfold wpY_setPriority
    exact y_bad_t b (br_f (by decide) ⟨rfl, I'⟩)
  · obtain ⟨c, hc, rfl⟩ := gr_in (by omega) b
    obtain ⟨D', V', S'⟩ := gr_fr (f := 4) (x := gc_cl v3 0 255) hN hc (by omega) (gr_fr (f := 0) (x := gc_cl v2 0 255) hN hc (by omega) ⟨HD, HV, HS⟩)
    refine x_isClock_t hN hc (br_f (by decide) (x_datasetRow (x_clamp ?_)))
    simp (disch := omega) only [ix_m6, ix_m8, ix_m9, ix_m10, ix_m2, ix_2m, ix_8a, ix_16a, ix_a0, ix_a1, ix_a2, ix_a3, ix_a4, ix_a5, ix_a6, ix_a7, ix_a8, ix_a9, nI_add, nI_clamp]
    refine ⟨vp_in_nI (by omega) (by omega), nm_e (x_clamp ⟨vp_in_nI (by omega) (by omega), nm_e ?_⟩)⟩
    unfold wpY_setPriority
    refine y_bad_f hN hc (br_t rfl (y_clamp ?_))
    simp (disch := omega) only [ix_m6, ix_m8, ix_m9, ix_m10, ix_m2, ix_2m, ix_8a, ix_16a, ix_a0, ix_a1, ix_a2, ix_a3, ix_a4, ix_a5, ix_a6, ix_a7, ix_a8, ix_a9, nI_add, nI_clamp]
    exact ⟨vp_in_nI (by omega) (by omega), nm_e (y_clamp ⟨vp_in_nI (by omega) (by omega), nm_e ⟨by trivial, gr_mk ⟨K, hLC, hC, D', V', S', HM, HE, HW, HA, HP⟩⟩⟩)⟩
theorem i_vc_setQuality {k : Nat} {u : SX} {v : SY} (I : i_Rel k u v) (hk : k + 5 ≤ 2563) (v1 : Int32) (v2 : Int32) (v3 : Int32) (v4 : Int32) : wpX_setQuality (fun r u' => wpY_setQuality (fun r' v' => r' = r ∧ i_Rel (k + 5) u' v') v v1 v2 v3 v4) u v1 v2 v3 v4 := by
  obtain ⟨N, C, L, tm, RW, dr, ti, pa, pl, ms, md, lu, ec, es, ed, ds, vc, qa, ql, aj, ig, off, dl, t1, t2, t3, t4, ct, la, lb, da, db, st, sv, sa, rfl, rfl, R⟩ := I
  have I' := gr_mk (k := k + 5) (tm := tm) (dr := dr) (ti := ti) (md := md) (es := es) R
  obtain ⟨K, hLC, hC, HD, HV, HS, HM, HE, HW, HA, HP⟩ := R
  have hN : N ≤ 8 := K.2.1
  have hL : L ≤ 16 := K.2.2.1
  unfold wpX_setQuality
  by_cases b : v1 < 0 ∨ nI N ≤ v1
  · refine x_isClock_f b (br_t rfl ?_)
    unfold wpY_setQuality
    exact y_bad_t b (br_f (by decide) ⟨rfl, I'⟩)
  · obtain ⟨c, hc, rfl⟩ := gr_in (by omega) b
    obtain ⟨D', V', S'⟩ := gr_fr (f := 3) (x := gc_cl v4 0 65535) hN hc (by omega) (gr_fr (f := 2) (x := gc_cl v3 0 255) hN hc (by omega) (gr_fr (f := 1) (x := gc_cl v2 0 255) hN hc (by omega) ⟨HD, HV, HS⟩))
    refine x_isClock_t hN hc (br_f (by decide) (x_datasetRow (x_clamp ?_)))
    simp (disch := omega) only [ix_m6, ix_m8, ix_m9, ix_m10, ix_m2, ix_2m, ix_8a, ix_16a, ix_a0, ix_a1, ix_a2, ix_a3, ix_a4, ix_a5, ix_a6, ix_a7, ix_a8, ix_a9, nI_add, nI_clamp]
    refine ⟨vp_in_nI (by omega) (by omega), nm_e (x_clamp ⟨vp_in_nI (by omega) (by omega), nm_e (x_clamp ⟨vp_in_nI (by omega) (by omega), nm_e ?_⟩)⟩)⟩
    unfold wpY_setQuality
    refine y_bad_f hN hc (br_t rfl (y_clamp ?_))
    simp (disch := omega) only [ix_m6, ix_m8, ix_m9, ix_m10, ix_m2, ix_2m, ix_8a, ix_16a, ix_a0, ix_a1, ix_a2, ix_a3, ix_a4, ix_a5, ix_a6, ix_a7, ix_a8, ix_a9, nI_add, nI_clamp]
    exact ⟨vp_in_nI (by omega) (by omega), nm_e (y_clamp ⟨vp_in_nI (by omega) (by omega), nm_e (y_clamp ⟨vp_in_nI (by omega) (by omega), nm_e ⟨by trivial, gr_mk ⟨K, hLC, hC, D', V', S', HM, HE, HW, HA, HP⟩⟩⟩)⟩)⟩
theorem i_vc_setDrift {k : Nat} {u : SX} {v : SY} (I : i_Rel k u v) (hk : k + 5 ≤ 2563) (v1 : Int32) (v2 : Int32) : wpX_setDrift (fun r u' => wpY_setDrift (fun r' v' => r' = r ∧ i_Rel (k + 5) u' v') v v1 v2) u v1 v2 := by
  obtain ⟨N, C, L, tm, RW, dr, ti, pa, pl, ms, md, lu, ec, es, ed, ds, vc, qa, ql, aj, ig, off, dl, t1, t2, t3, t4, ct, la, lb, da, db, st, sv, sa, rfl, rfl, R⟩ := I
  have I' := gr_mk (k := k + 5) (tm := tm) (dr := dr) (ti := ti) (md := md) (es := es) R
  obtain ⟨K, hLC, hC, HD, HV, HS, HM, HE, HW, HA, HP⟩ := R
  have hN : N ≤ 8 := K.2.1
  have hL : L ≤ 16 := K.2.2.1
  unfold wpX_setDrift
  by_cases b : v1 < 0 ∨ nI N ≤ v1
  · refine x_isClock_f b (br_t rfl ?_)
    unfold wpY_setDrift
    exact y_bad_t b (br_f (by decide) ⟨rfl, I'⟩)
  · obtain ⟨c, hc, rfl⟩ := gr_in (by omega) b
    refine x_isClock_t hN hc (br_f (by decide) (x_clamp ⟨vp_in_nI (by omega) (by omega), nm_e ?_⟩))
    unfold wpY_setDrift
    exact y_bad_f hN hc (br_t rfl (y_clamp ⟨vp_in_nI (by omega) (by omega), nm_e ⟨rfl, gr_mk ⟨K, hLC, hC, HD, HV, HS, HM, HE, HW, HA, HP⟩⟩⟩))
theorem i_vc_setTime {k : Nat} {u : SX} {v : SY} (I : i_Rel k u v) (hk : k + 5 ≤ 2563) (v1 : Int32) (a1 : Int64) : wpX_setTime (fun r u' => wpY_setTime (fun r' v' => r' = r ∧ i_Rel (k + 5) u' v') v v1 a1) u v1 a1 := by
  obtain ⟨N, C, L, tm, RW, dr, ti, pa, pl, ms, md, lu, ec, es, ed, ds, vc, qa, ql, aj, ig, off, dl, t1, t2, t3, t4, ct, la, lb, da, db, st, sv, sa, rfl, rfl, R⟩ := I
  have I' := gr_mk (k := k + 5) (tm := tm) (dr := dr) (ti := ti) (md := md) (es := es) R
  obtain ⟨K, hLC, hC, HD, HV, HS, HM, HE, HW, HA, HP⟩ := R
  have hN : N ≤ 8 := K.2.1
  have hL : L ≤ 16 := K.2.2.1
  unfold wpX_setTime
  by_cases b : v1 < 0 ∨ nI N ≤ v1
  · refine x_isClock_f b (br_t rfl ?_)
    unfold wpY_setTime
    exact y_bad_t b (br_f (by decide) ⟨rfl, I'⟩)
  · obtain ⟨c, hc, rfl⟩ := gr_in (by omega) b
    refine x_isClock_t hN hc (br_f (by decide) (x_clampL ⟨vp_in_nI (by omega) (by omega), nm_e ?_⟩))
    unfold wpY_setTime
    exact y_bad_f hN hc (br_t rfl (y_clampL ⟨vp_in_nI (by omega) (by omega), nm_e ⟨rfl, gr_mk ⟨K, hLC, hC, HD, HV, HS, HM, HE, HW, HA, HP⟩⟩⟩))
theorem i_vc_getGrandmaster {k : Nat} {u : SX} {v : SY} (I : i_Rel k u v) (hk : k + 5 ≤ 2563) (v1 : Int32) : wpX_getGrandmaster (fun r => wpY_getGrandmaster (fun r' => r' = r ∧ i_Rel (k + 5) u v) v v1) u v1 := by
  obtain ⟨N, C, L, tm, RW, dr, ti, pa, pl, ms, md, lu, ec, es, ed, ds, vc, qa, ql, aj, ig, off, dl, t1, t2, t3, t4, ct, la, lb, da, db, st, sv, sa, rfl, rfl, R⟩ := I
  have I' := gr_mk (k := k + 5) (tm := tm) (dr := dr) (ti := ti) (md := md) (es := es) R
  obtain ⟨K, hLC, hC, HD, HV, HS, HM, HE, HW, HA, HP⟩ := R
  have hN : N ≤ 8 := K.2.1
  have hL : L ≤ 16 := K.2.2.1
  unfold wpX_getGrandmaster
  by_cases b : v1 < 0 ∨ nI N ≤ v1
  · refine x_isClock_f b (br_t rfl ?_)
    unfold wpY_getGrandmaster
    exact y_bad_t b (br_f (by decide) ⟨rfl, I'⟩)
  · obtain ⟨c, hc, rfl⟩ := gr_in (by omega) b
    refine x_isClock_t hN hc (br_f (by decide) (x_vectorRow ?_))
    simp (disch := omega) only [ix_m6, ix_m8, ix_m9, ix_m10, ix_m2, ix_2m, ix_8a, ix_16a, ix_a0, ix_a1, ix_a2, ix_a3, ix_a4, ix_a5, ix_a6, ix_a7, ix_a8, ix_a9, nI_add, nI_clamp]
    refine ⟨vp_in_nI (by omega) (by omega), ?_⟩
    unfold wpY_getGrandmaster
    refine y_bad_f hN hc (br_t rfl ?_)
    simp (disch := omega) only [ix_m6, ix_m8, ix_m9, ix_m10, ix_m2, ix_2m, ix_8a, ix_16a, ix_a0, ix_a1, ix_a2, ix_a3, ix_a4, ix_a5, ix_a6, ix_a7, ix_a8, ix_a9, nI_add, nI_clamp]
    exact ⟨vp_in_nI (by omega) (by omega), ((HV c hc).1 5 (by omega)).symm, I'⟩
theorem i_vc_getStepsRemoved {k : Nat} {u : SX} {v : SY} (I : i_Rel k u v) (hk : k + 5 ≤ 2563) (v1 : Int32) : wpX_getStepsRemoved (fun r => wpY_getStepsRemoved (fun r' => r' = r ∧ i_Rel (k + 5) u v) v v1) u v1 := by
  obtain ⟨N, C, L, tm, RW, dr, ti, pa, pl, ms, md, lu, ec, es, ed, ds, vc, qa, ql, aj, ig, off, dl, t1, t2, t3, t4, ct, la, lb, da, db, st, sv, sa, rfl, rfl, R⟩ := I
  have I' := gr_mk (k := k + 5) (tm := tm) (dr := dr) (ti := ti) (md := md) (es := es) R
  obtain ⟨K, hLC, hC, HD, HV, HS, HM, HE, HW, HA, HP⟩ := R
  have hN : N ≤ 8 := K.2.1
  have hL : L ≤ 16 := K.2.2.1
  unfold wpX_getStepsRemoved
  by_cases b : v1 < 0 ∨ nI N ≤ v1
  · refine x_isClock_f b (br_t rfl ?_)
    unfold wpY_getStepsRemoved
    exact y_bad_t b (br_f (by decide) ⟨rfl, I'⟩)
  · obtain ⟨c, hc, rfl⟩ := gr_in (by omega) b
    refine x_isClock_t hN hc (br_f (by decide) (x_vectorRow ?_))
    simp (disch := omega) only [ix_m6, ix_m8, ix_m9, ix_m10, ix_m2, ix_2m, ix_8a, ix_16a, ix_a0, ix_a1, ix_a2, ix_a3, ix_a4, ix_a5, ix_a6, ix_a7, ix_a8, ix_a9, nI_add, nI_clamp]
    refine ⟨vp_in_nI (by omega) (by omega), ?_⟩
    unfold wpY_getStepsRemoved
    refine y_bad_f hN hc (br_t rfl ?_)
    simp (disch := omega) only [ix_m6, ix_m8, ix_m9, ix_m10, ix_m2, ix_2m, ix_8a, ix_16a, ix_a0, ix_a1, ix_a2, ix_a3, ix_a4, ix_a5, ix_a6, ix_a7, ix_a8, ix_a9, nI_add, nI_clamp]
    exact ⟨vp_in_nI (by omega) (by omega), ((HV c hc).1 6 (by omega)).symm, I'⟩
theorem i_vc_getParent {k : Nat} {u : SX} {v : SY} (I : i_Rel k u v) (hk : k + 5 ≤ 2563) (v1 : Int32) : wpX_getParent (fun r => wpY_getParent (fun r' => r' = r ∧ i_Rel (k + 5) u v) v v1) u v1 := by
  obtain ⟨N, C, L, tm, RW, dr, ti, pa, pl, ms, md, lu, ec, es, ed, ds, vc, qa, ql, aj, ig, off, dl, t1, t2, t3, t4, ct, la, lb, da, db, st, sv, sa, rfl, rfl, R⟩ := I
  have I' := gr_mk (k := k + 5) (tm := tm) (dr := dr) (ti := ti) (md := md) (es := es) R
  obtain ⟨K, hLC, hC, HD, HV, HS, HM, HE, HW, HA, HP⟩ := R
  have hN : N ≤ 8 := K.2.1
  have hL : L ≤ 16 := K.2.2.1
  unfold wpX_getParent
  by_cases b : v1 < 0 ∨ nI N ≤ v1
  · refine x_isClock_f b (br_t rfl ?_)
    unfold wpY_getParent
    exact y_bad_t b (br_f (by decide) ⟨rfl, I'⟩)
  · obtain ⟨c, hc, rfl⟩ := gr_in (by omega) b
    refine x_isClock_t hN hc (br_f (by decide) ⟨vp_in_nI (by omega) (by omega), ?_⟩)
    unfold wpY_getParent
    refine y_bad_f hN hc (br_t rfl ⟨vp_in_nI (by omega) (by omega), ?_, I'⟩)
    rw [nI_clamp (by omega)]
    exact (HA c hc).symm
theorem i_vc_getTime {k : Nat} {u : SX} {v : SY} (I : i_Rel k u v) (hk : k + 5 ≤ 2563) (v1 : Int32) : wpX_getTime (fun r => wpY_getTime (fun r' => r' = r ∧ i_Rel (k + 5) u v) v v1) u v1 := by
  obtain ⟨N, C, L, tm, RW, dr, ti, pa, pl, ms, md, lu, ec, es, ed, ds, vc, qa, ql, aj, ig, off, dl, t1, t2, t3, t4, ct, la, lb, da, db, st, sv, sa, rfl, rfl, R⟩ := I
  have I' := gr_mk (k := k + 5) (tm := tm) (dr := dr) (ti := ti) (md := md) (es := es) R
  obtain ⟨K, hLC, hC, HD, HV, HS, HM, HE, HW, HA, HP⟩ := R
  have hN : N ≤ 8 := K.2.1
  have hL : L ≤ 16 := K.2.2.1
  unfold wpX_getTime
  by_cases b : v1 < 0 ∨ nI N ≤ v1
  · refine x_isClock_f b (br_t rfl ?_)
    unfold wpY_getTime
    exact y_bad_t b (br_f (by decide) ⟨rfl, I'⟩)
  · obtain ⟨c, hc, rfl⟩ := gr_in (by omega) b
    refine x_isClock_t hN hc (br_f (by decide) ⟨vp_in_nI (by omega) (by omega), ?_⟩)
    unfold wpY_getTime
    exact y_bad_f hN hc (br_t rfl ⟨vp_in_nI (by omega) (by omega), rfl, I'⟩)
theorem i_vc_compareDatasets {k : Nat} {u : SX} {v : SY} (I : i_Rel k u v) (hk : k + 5 ≤ 2563) (v1 : Int32) (v2 : Int32) : wpX_compareDatasets (fun r => wpY_compareDatasets (fun r' => r' = r ∧ i_Rel (k + 5) u v) v v1 v2) u v1 v2 := by
  obtain ⟨N, C, L, tm, RW, dr, ti, pa, pl, ms, md, lu, ec, es, ed, ds, vc, qa, ql, aj, ig, off, dl, t1, t2, t3, t4, ct, la, lb, da, db, st, sv, sa, rfl, rfl, R⟩ := I
  have I' := gr_mk (k := k + 5) (tm := tm) (dr := dr) (ti := ti) (md := md) (es := es) R
  obtain ⟨K, hLC, hC, HD, HV, HS, HM, HE, HW, HA, HP⟩ := R
  have hN : N ≤ 8 := K.2.1
  have hL : L ≤ 16 := K.2.2.1
  unfold wpX_compareDatasets
  by_cases b : v1 < 0 ∨ nI N ≤ v1
  · refine x_isClock_f b (br_t rfl ?_)
    unfold wpY_compareDatasets
    exact y_bad_t b (br_f (by decide) ⟨rfl, I'⟩)
  · obtain ⟨c, hc, rfl⟩ := gr_in (by omega) b
    by_cases d : v2 < 0 ∨ nI N ≤ v2
    · refine x_isClock_t hN hc (br_f (by decide) (x_isClock_f d (br_t rfl ?_)))
      unfold wpY_compareDatasets
      exact y_bad_f hN hc (br_t rfl (y_bad_t d (br_f (by decide) ⟨rfl, I'⟩)))
    · obtain ⟨c2, hc2, rfl⟩ := gr_in (by omega) d
      refine x_isClock_t hN hc (br_f (by decide) (x_isClock_t hN hc2 (br_f (by decide) (x_datasetRow (x_datasetRow (x_cmp (K := 6) (by omega) (by omega) ?_))))))
      unfold wpY_compareDatasets
      refine y_bad_f hN hc (br_t rfl (y_bad_f hN hc2 (br_t rfl ?_)))
      by_cases e : c = c2
      · subst e
        exact br_t rfl ⟨(gc_cmp_self _ _ _).symm, I'⟩
      · exact br_f (fun z => e ((nI_eq (by omega) (by omega)).mp z)) (y_cmp (K := 6) (x := c * 10) (y := c2 * 10) (by omega) (fun g hg post h => y_fld0 hN hc hg HD h) (fun g hg post h => y_fld0 hN hc2 hg HD h) ⟨rfl, I'⟩)
section
variable {N C L : Nat} {tm : Int32} {RW ds vc pa pl qa ql dr md la lb da db lu es st sv sa ec ed : Nat → Int32} {ti ms aj ig off dl t1 t2 t3 t4 ct : Nat → Int64}
theorem gr_end {c l : Nat} (hL : L ≤ 16) (hl : l < L) (HE : gc_E N L ec la lb) : gs_end L ec c (nI l) = if la l = nI c then some (2 * l) else if lb l = nI c then some (2 * l + 1) else none := by
  obtain ⟨g1, g2, _, _⟩ := HE l hl
  unfold gs_end
  rw [if_neg (fun z => z.elim (nI_pos (by omega)) (nI_ge hl (by omega))), nI_clamp (by omega), g1, g2]
theorem y_port {post : Int32 → Prop} {c l : Nat} (hN : N ≤ 8) (hL : L ≤ 16) (hc : c < N) (hl : l < L) (h : post (if la l = nI c then es (2 * l) else if lb l = nI c then es (2 * l + 1) else -1)) : wpY_getPortState post (gy N C L tm ds vc qa ql dr ti aj ig off dl t1 t2 t3 t4 ct md la lb da db lu es st sv sa) (nI c) (nI l) := by
  unfold wpY_getPortState
  refine y_bad_f hN hc (br_t rfl (br_f (nI_pos (by omega)) (br_t (nI_lt hl (by omega)) (y_side (by omega) ?_))))
  by_cases a : la l = nI c
  · rw [if_pos a] at h ⊢
    simp (disch := omega) only [ix_m6, ix_m8, ix_m9, ix_m10, ix_m2, ix_2m, ix_8a, ix_16a, ix_a0, ix_a1, ix_a2, ix_a3, ix_a4, ix_a5, ix_a6, ix_a7, ix_a8, ix_a9, nI_add, nI_clamp, Nat.mul_comm l 2, Nat.add_zero]
    exact br_t (by decide) ⟨vp_in_nI (by omega) (by omega), h⟩
  · rw [if_neg a] at h ⊢
    by_cases b : lb l = nI c
    · rw [if_pos b] at h ⊢
      simp (disch := omega) only [ix_m6, ix_m8, ix_m9, ix_m10, ix_m2, ix_2m, ix_8a, ix_16a, ix_a0, ix_a1, ix_a2, ix_a3, ix_a4, ix_a5, ix_a6, ix_a7, ix_a8, ix_a9, nI_add, nI_clamp, Nat.mul_comm l 2]
      exact br_t (by decide) ⟨vp_in_nI (by omega) (by omega), h⟩
    · rw [if_neg b] at h ⊢
      exact br_f (by decide) h
end
theorem i_vc_getPortState {k : Nat} {u : SX} {v : SY} (I : i_Rel k u v) (hk : k + 5 ≤ 2563) (v1 : Int32) (v2 : Int32) : wpX_getPortState (fun r => wpY_getPortState (fun r' => r' = r ∧ i_Rel (k + 5) u v) v v1 v2) u v1 v2 := by
  obtain ⟨N, C, L, tm, RW, dr, ti, pa, pl, ms, md, lu, ec, es, ed, ds, vc, qa, ql, aj, ig, off, dl, t1, t2, t3, t4, ct, la, lb, da, db, st, sv, sa, rfl, rfl, R⟩ := I
  have I' := gr_mk (k := k + 5) (tm := tm) (dr := dr) (ti := ti) (md := md) (es := es) R
  obtain ⟨K, hLC, hC, HD, HV, HS, HM, HE, HW, HA, HP⟩ := R
  have hN : N ≤ 8 := K.2.1
  have hL : L ≤ 16 := K.2.2.1
  unfold wpX_getPortState
  by_cases b : v1 < 0 ∨ nI N ≤ v1
  · refine x_endOf_f b (br_t rfl ?_)
    unfold wpY_getPortState
    exact y_bad_t b (br_f (by decide) ⟨rfl, I'⟩)
  · obtain ⟨c, hc, rfl⟩ := gr_in (by omega) b
    refine x_endOf K hc ?_
    by_cases d : v2 < 0 ∨ nI L ≤ v2
    · rw [show gs_end L ec c v2 = none from if_pos d]
      refine br_t rfl ?_
      unfold wpY_getPortState
      refine y_bad_f hN hc (br_t rfl ?_)
      by_cases d1 : v2 < 0
      · exact br_t d1 ⟨rfl, I'⟩
      · exact br_f d1 (br_f (Int32.not_lt.mpr (d.resolve_left d1)) ⟨rfl, I'⟩)
    · obtain ⟨l, hl, rfl⟩ := gr_in (by omega) d
      rw [gr_end hL hl HE]
      by_cases e1 : la l = nI c
      · rw [if_pos e1]
        refine br_f (gc_en_ne (by omega)) ⟨vp_in_nI (by omega) (by omega), y_port hN hL hc hl ?_⟩
        rw [if_pos e1, show gc_en (some (2 * l)) = nI (2 * l) from rfl, nI_clamp (by omega)]
        exact ⟨rfl, I'⟩
      · rw [if_neg e1]
        by_cases e2 : lb l = nI c
        · rw [if_pos e2]
          refine br_f (gc_en_ne (by omega)) ⟨vp_in_nI (by omega) (by omega), y_port hN hL hc hl ?_⟩
          rw [if_neg e1, if_pos e2, show gc_en (some (2 * l + 1)) = nI (2 * l + 1) from rfl, nI_clamp (by omega)]
          exact ⟨rfl, I'⟩
        · rw [if_neg e2]
          refine br_t rfl (y_port hN hL hc hl ?_)
          rw [if_neg e1, if_neg e2]
          exact ⟨rfl, I'⟩
theorem i_vc_getMeasure {k : Nat} {u : SX} {v : SY} (I : i_Rel k u v) (hk : k + 5 ≤ 2563) (v1 : Int32) (v2 : Int32) : wpX_getMeasure (fun r => wpY_getMeasure (fun r' => r' = r ∧ i_Rel (k + 5) u v) v v1 v2) u v1 v2 := by
  obtain ⟨N, C, L, tm, RW, dr, ti, pa, pl, ms, md, lu, ec, es, ed, ds, vc, qa, ql, aj, ig, off, dl, t1, t2, t3, t4, ct, la, lb, da, db, st, sv, sa, rfl, rfl, R⟩ := I
  have I' := gr_mk (k := k + 5) (tm := tm) (dr := dr) (ti := ti) (md := md) (es := es) R
  obtain ⟨K, hLC, hC, HD, HV, HS, HM, HE, HW, HA, HP⟩ := R
  have hN : N ≤ 8 := K.2.1
  have hL : L ≤ 16 := K.2.2.1
  unfold wpX_getMeasure
  by_cases b : v1 < 0 ∨ nI N ≤ v1
  · refine x_isClock_f b (br_t rfl ?_)
    unfold wpY_getMeasure
    exact y_bad_t b (br_f (by decide) ⟨rfl, I'⟩)
  · obtain ⟨c, hc, rfl⟩ := gr_in (by omega) b
    have v : vp_in (nI c) 8 := vp_in_nI (by omega) (by omega)
    have cl : (nI c).toNatClampNeg = c := nI_clamp (by omega)
    obtain ⟨h0, h1, h2, h3, h4, h5, h6, h7, h8⟩ := HM c (by omega)
    refine x_isClock_t hN hc (br_f (by decide) ?_)
    by_cases d : v2 < 0 ∨ nI 9 ≤ v2
    · have nz : ∀ w, w < 9 → ¬ v2 = nI w := fun w hw => ix_no (by omega) d hw
      have yy : ∀ post : Int64 → Prop, post 0 → wpY_getMeasure post (gy N C L tm ds vc qa ql dr ti aj ig off dl t1 t2 t3 t4 ct md la lb da db lu es st sv sa) (nI c) v2 := by
        intro post h
        unfold wpY_getMeasure
        exact y_bad_f hN hc (br_t rfl (br_f (nz 0 (by omega)) (br_f (nz 1 (by omega)) (br_f (nz 2 (by omega)) (br_f (nz 3 (by omega)) (br_f (nz 4 (by omega)) (br_f (nz 5 (by omega)) (br_f (nz 6 (by omega)) (br_f (nz 7 (by omega)) (br_f (nz 8 (by omega)) h))))))))))
      by_cases d1 : v2 < 0
      · exact br_t d1 (yy _ ⟨rfl, I'⟩)
      · exact br_f d1 (br_f (Int32.not_lt.mpr (d.resolve_left d1)) (yy _ ⟨rfl, I'⟩))
    · obtain ⟨w, hw, rfl⟩ := gr_in (by omega) d
      have ne : ∀ w', w' < 9 → w ≠ w' → ¬ nI w = nI w' := fun w' h z e => z ((nI_eq (by omega) (by omega)).mp e)
      refine br_f (nI_pos (by omega)) (br_t (nI_lt (b := 9) hw (by omega)) (x_measureRow ?_))
      rw [nI_add, nI_clamp (by omega)]
      refine ⟨vp_in_nI (by omega) (by omega), ?_⟩
      unfold wpY_getMeasure
      refine y_bad_f hN hc (br_t rfl ?_)
      rw [cl]
      rcases (by omega : w = 0 ∨ w = 1 ∨ w = 2 ∨ w = 3 ∨ w = 4 ∨ w = 5 ∨ w = 6 ∨ w = 7 ∨ w = 8) with rfl | rfl | rfl | rfl | rfl | rfl | rfl | rfl | rfl
      · exact br_t rfl ⟨v, h0.symm, I'⟩
      · exact br_f (ne 0 (by omega) (by omega)) (br_t rfl ⟨v, h1.symm, I'⟩)
      · exact br_f (ne 0 (by omega) (by omega)) (br_f (ne 1 (by omega) (by omega)) (br_t rfl ⟨v, h2.symm, I'⟩))
      · exact br_f (ne 0 (by omega) (by omega)) (br_f (ne 1 (by omega) (by omega)) (br_f (ne 2 (by omega) (by omega)) (br_t rfl ⟨v, h3.symm, I'⟩)))
      · exact br_f (ne 0 (by omega) (by omega)) (br_f (ne 1 (by omega) (by omega)) (br_f (ne 2 (by omega) (by omega)) (br_f (ne 3 (by omega) (by omega)) (br_t rfl ⟨v, h4.symm, I'⟩))))
      · exact br_f (ne 0 (by omega) (by omega)) (br_f (ne 1 (by omega) (by omega)) (br_f (ne 2 (by omega) (by omega)) (br_f (ne 3 (by omega) (by omega)) (br_f (ne 4 (by omega) (by omega)) (br_t rfl ⟨v, h5.symm, I'⟩)))))
      · exact br_f (ne 0 (by omega) (by omega)) (br_f (ne 1 (by omega) (by omega)) (br_f (ne 2 (by omega) (by omega)) (br_f (ne 3 (by omega) (by omega)) (br_f (ne 4 (by omega) (by omega)) (br_f (ne 5 (by omega) (by omega)) (br_t rfl ⟨v, h6.symm, I'⟩))))))
      · exact br_f (ne 0 (by omega) (by omega)) (br_f (ne 1 (by omega) (by omega)) (br_f (ne 2 (by omega) (by omega)) (br_f (ne 3 (by omega) (by omega)) (br_f (ne 4 (by omega) (by omega)) (br_f (ne 5 (by omega) (by omega)) (br_f (ne 6 (by omega) (by omega)) (br_t rfl ⟨v, h7.symm, I'⟩)))))))
      · exact br_f (ne 0 (by omega) (by omega)) (br_f (ne 1 (by omega) (by omega)) (br_f (ne 2 (by omega) (by omega)) (br_f (ne 3 (by omega) (by omega)) (br_f (ne 4 (by omega) (by omega)) (br_f (ne 5 (by omega) (by omega)) (br_f (ne 6 (by omega) (by omega)) (br_f (ne 7 (by omega) (by omega)) (br_t rfl ⟨v, h8.symm, I'⟩))))))))
end
section
/-! getAnnounce, setLinkUp, addLink -/
def gr_col (w : Nat) : Nat := [8, 5, 6, 9, 7, 0, 1, 2, 3, 4].getD w 0
theorem gr_col_lt : ∀ w, w < 10 → w ≠ 0 → w ≠ 3 → gr_col w < 8 := by decide
theorem gr_col_10 : ∀ w, w < 10 → gr_col w < 10 := by decide
theorem gr_ten {w : Nat} (h : w < 10) : w = 0 ∨ w = 1 ∨ w = 2 ∨ w = 3 ∨ w = 4 ∨ w = 5 ∨ w = 6 ∨ w = 7 ∨ w = 8 ∨ w = 9 := by omega
theorem x_col {post : Int32 → Prop} {w : Nat} (hw : w < 10) (h : post (nI (gr_col w))) : wpX_columnOf post (nI w) := by
  have ne : ∀ w', w' < 10 → w ≠ w' → ¬ nI w = nI w' := fun w' h z e => z ((nI_eq (by omega) (by omega)).mp e)
  refine br_f (nI_pos (by omega)) (br_f (nI_nlt (b := w) (a := 9) (by omega) (by omega)) ?_)
  rcases gr_ten hw with rfl | rfl | rfl | rfl | rfl | rfl | rfl | rfl | rfl | rfl
  · exact br_t rfl h
  · exact br_f (ne 0 (by omega) (by omega)) (br_t rfl h)
  · exact br_f (ne 0 (by omega) (by omega)) (br_f (ne 1 (by omega) (by omega)) (br_t rfl h))
  · exact br_f (ne 0 (by omega) (by omega)) (br_f (ne 1 (by omega) (by omega)) (br_f (ne 2 (by omega) (by omega)) (br_t rfl h)))
  · exact br_f (ne 0 (by omega) (by omega)) (br_f (ne 1 (by omega) (by omega)) (br_f (ne 2 (by omega) (by omega)) (br_f (ne 3 (by omega) (by omega)) (br_t rfl h))))
  · exact br_f (ne 0 (by omega) (by omega)) (br_f (ne 1 (by omega) (by omega)) (br_f (ne 2 (by omega) (by omega)) (br_f (ne 3 (by omega) (by omega)) (br_f (ne 4 (by omega) (by omega)) (br_t rfl h)))))
  · exact br_f (ne 0 (by omega) (by omega)) (br_f (ne 1 (by omega) (by omega)) (br_f (ne 2 (by omega) (by omega)) (br_f (ne 3 (by omega) (by omega)) (br_f (ne 4 (by omega) (by omega)) (br_f (ne 5 (by omega) (by omega)) (br_t rfl h))))))
  · exact br_f (ne 0 (by omega) (by omega)) (br_f (ne 1 (by omega) (by omega)) (br_f (ne 2 (by omega) (by omega)) (br_f (ne 3 (by omega) (by omega)) (br_f (ne 4 (by omega) (by omega)) (br_f (ne 5 (by omega) (by omega)) (br_f (ne 6 (by omega) (by omega)) (br_t rfl h)))))))
  · exact br_f (ne 0 (by omega) (by omega)) (br_f (ne 1 (by omega) (by omega)) (br_f (ne 2 (by omega) (by omega)) (br_f (ne 3 (by omega) (by omega)) (br_f (ne 4 (by omega) (by omega)) (br_f (ne 5 (by omega) (by omega)) (br_f (ne 6 (by omega) (by omega)) (br_f (ne 7 (by omega) (by omega)) (br_t rfl h))))))))
  · exact br_f (ne 0 (by omega) (by omega)) (br_f (ne 1 (by omega) (by omega)) (br_f (ne 2 (by omega) (by omega)) (br_f (ne 3 (by omega) (by omega)) (br_f (ne 4 (by omega) (by omega)) (br_f (ne 5 (by omega) (by omega)) (br_f (ne 6 (by omega) (by omega)) (br_f (ne 7 (by omega) (by omega)) (br_f (ne 8 (by omega) (by omega)) (br_t rfl h)))))))))
theorem x_col_f {post : Int32 → Prop} {x : Int32} (hx : x < 0 ∨ nI 10 ≤ x) (h : post (-1)) : wpX_columnOf post x := by
  by_cases q : x < 0
  · exact br_t q h
  · exact br_f q (br_t (Int32.lt_of_lt_of_le (by decide : (9 : Int32) < nI 10) (hx.resolve_left q)) h)
section
variable {N C L : Nat} {tm : Int32} {RW ds vc pa pl qa ql dr md la lb da db lu es st sv sa ec ed : Nat → Int32} {ti ms aj ig off dl t1 t2 t3 t4 ct : Nat → Int64}
theorem y_pos {post : Int32 → Prop} {w : Nat} (hw : w < 10) (h0 : w ≠ 0) (h3 : w ≠ 3) (h : post (nI (gr_col w))) : wpY_pos post (gy N C L tm ds vc qa ql dr ti aj ig off dl t1 t2 t3 t4 ct md la lb da db lu es st sv sa) (nI w) := by
  have ne : ∀ w', w' < 10 → w ≠ w' → ¬ nI w = nI w' := fun w' h z e => z ((nI_eq (by omega) (by omega)).mp e)
  unfold wpY_pos
  rcases gr_ten hw with rfl | rfl | rfl | rfl | rfl | rfl | rfl | rfl | rfl | rfl
  · exact absurd rfl h0
  · exact br_t rfl h
  · exact br_f (ne 1 (by omega) (by omega)) (br_t rfl h)
  · exact absurd rfl h3
  · exact br_f (ne 1 (by omega) (by omega)) (br_f (ne 2 (by omega) (by omega)) (br_t rfl h))
  · exact br_f (ne 1 (by omega) (by omega)) (br_f (ne 2 (by omega) (by omega)) (br_f (ne 4 (by omega) (by omega)) (by rw [show nI 5 - 5 = nI (gr_col 5) by decide]; exact h)))
  · exact br_f (ne 1 (by omega) (by omega)) (br_f (ne 2 (by omega) (by omega)) (br_f (ne 4 (by omega) (by omega)) (by rw [show nI 6 - 5 = nI (gr_col 6) by decide]; exact h)))
  · exact br_f (ne 1 (by omega) (by omega)) (br_f (ne 2 (by omega) (by omega)) (br_f (ne 4 (by omega) (by omega)) (by rw [show nI 7 - 5 = nI (gr_col 7) by decide]; exact h)))
  · exact br_f (ne 1 (by omega) (by omega)) (br_f (ne 2 (by omega) (by omega)) (br_f (ne 4 (by omega) (by omega)) (by rw [show nI 8 - 5 = nI (gr_col 8) by decide]; exact h)))
  · exact br_f (ne 1 (by omega) (by omega)) (br_f (ne 2 (by omega) (by omega)) (br_f (ne 4 (by omega) (by omega)) (by rw [show nI 9 - 5 = nI (gr_col 9) by decide]; exact h)))
theorem y_annV {post : Int32 → Prop} {c w : Nat} (hN : N ≤ 8) (hc : c < N) (hw : w < 10) (HV : gc_V N RW vc) (h : post (RW ((8 + c) * 10 + gr_col w))) : wpY_getAnnounce post (gy N C L tm ds vc qa ql dr ti aj ig off dl t1 t2 t3 t4 ct md la lb da db lu es st sv sa) (nI c) (-1) (nI w) := by
  have ne : ∀ w', w' < 10 → w ≠ w' → ¬ nI w = nI w' := fun w' h z e => z ((nI_eq (by omega) (by omega)).mp e)
  obtain ⟨g1, g2, g3, g4⟩ := HV c hc
  unfold wpY_getAnnounce
  refine y_bad_f hN hc (br_t rfl (br_f (nI_pos (by omega)) (br_t (nI_le (b := 9) (by omega) (by omega)) (br_t rfl ?_))))
  by_cases w0 : w = 0
  · subst w0
    exact br_t rfl (by rw [← g3]; exact h)
  · refine br_f (ne 0 (by omega) w0) ?_
    by_cases w3 : w = 3
    · subst w3
      exact br_t rfl (by rw [← g4]; exact h)
    · refine br_f (ne 3 (by omega) w3) ?_
      by_cases w4 : w = 4
      · subst w4
        exact br_t rfl (by rw [← g2]; exact h)
      · have hcol := gr_col_lt w hw w0 w3
        rw [g1 (gr_col w) hcol] at h
        refine br_f (ne 4 (by omega) w4) (y_pos hw w0 w3 ?_)
        rw [ix_m8, nI_add, nI_clamp (by omega)]
        exact ⟨vp_in_nI (by omega) (by omega), h⟩
theorem y_annT {post : Int32 → Prop} {e w : Nat} (hw : w < 10) (he : e < 32) (HS : gc_S RW st sv sa) (h : post (RW ((16 + e) * 10 + gr_col w))) : ((nI w = 0 → (vp_in (nI e) 32 ∧ (post (sv (nI e).toNatClampNeg)))) ∧ (¬ nI w = 0 → (((nI w = 3 → (vp_in (nI e) 32 ∧ (post (sa (nI e).toNatClampNeg)))) ∧ (¬ nI w = 3 → (wpY_pos (fun r_71 => (vp_in ((nI e * 8) + r_71) 256 ∧ (post (st ((nI e * 8) + r_71).toNatClampNeg)))) (gy N C L tm ds vc qa ql dr ti aj ig off dl t1 t2 t3 t4 ct md la lb da db lu es st sv sa) (nI w))))))) := by
  have ne : ∀ w', w' < 10 → w ≠ w' → ¬ nI w = nI w' := fun w' h z e => z ((nI_eq (by omega) (by omega)).mp e)
  obtain ⟨g1, g2, g3, _⟩ := HS e he
  have ve : vp_in (nI e) 32 := vp_in_nI he (by omega)
  rw [nI_clamp (by omega)]
  by_cases w0 : w = 0
  · subst w0
    exact br_t rfl ⟨ve, by rw [← g2]; exact h⟩
  · refine br_f (ne 0 (by omega) w0) ?_
    by_cases w3 : w = 3
    · subst w3
      exact br_t rfl ⟨ve, by rw [← g3]; exact h⟩
    · have hcol := gr_col_lt w hw w0 w3
      rw [g1 (gr_col w) hcol] at h
      refine br_f (ne 3 (by omega) w3) (y_pos hw w0 w3 ?_)
      rw [ix_m8, nI_add, nI_clamp (by omega)]
      exact ⟨vp_in_nI (by omega) (by omega), h⟩
theorem y_annS {post : Int32 → Prop} {c l w : Nat} (hN : N ≤ 8) (hL : L ≤ 16) (hc : c < N) (hl : l < L) (hw : w < 10) (HS : gc_S RW st sv sa) (h : post (if la l = nI c then RW ((16 + 2 * l) * 10 + gr_col w) else if lb l = nI c then RW ((16 + (2 * l + 1)) * 10 + gr_col w) else -1)) : wpY_getAnnounce post (gy N C L tm ds vc qa ql dr ti aj ig off dl t1 t2 t3 t4 ct md la lb da db lu es st sv sa) (nI c) (nI l) (nI w) := by
  unfold wpY_getAnnounce
  refine y_bad_f hN hc (br_t rfl (br_f (nI_pos (by omega)) (br_t (nI_le (b := 9) (by omega) (by omega)) (br_f (gc_en_ne (by omega)) (br_f (nI_pos (by omega)) (br_t (nI_lt hl (by omega)) (y_side (by omega) ?_)))))))
  by_cases a : la l = nI c
  · rw [if_pos a] at h ⊢
    exact br_t (by decide) (nm_r (show nI l * 2 + 0 = nI (2 * l) by rw [ix_m2, ix_a0, Nat.mul_comm, Nat.add_zero]) (y_annT hw (by omega) HS h))
  · rw [if_neg a] at h ⊢
    by_cases b : lb l = nI c
    · rw [if_pos b] at h ⊢
      exact br_t (by decide) (nm_r (show nI l * 2 + 1 = nI (2 * l + 1) by rw [ix_m2, ix_a1, Nat.mul_comm]) (y_annT hw (by omega) HS h))
    · rw [if_neg b] at h ⊢
      exact br_f (by decide) h
end
theorem i_vc_getAnnounce {k : Nat} {u : SX} {v : SY} (I : i_Rel k u v) (hk : k + 5 ≤ 2563) (v1 : Int32) (v2 : Int32) (v3 : Int32) : wpX_getAnnounce (fun r => wpY_getAnnounce (fun r' => r' = r ∧ i_Rel (k + 5) u v) v v1 v2 v3) u v1 v2 v3 := by
  obtain ⟨N, C, L, tm, RW, dr, ti, pa, pl, ms, md, lu, ec, es, ed, ds, vc, qa, ql, aj, ig, off, dl, t1, t2, t3, t4, ct, la, lb, da, db, st, sv, sa, rfl, rfl, R⟩ := I
  have I' := gr_mk (k := k + 5) (tm := tm) (dr := dr) (ti := ti) (md := md) (es := es) R
  obtain ⟨K, hLC, hC, HD, HV, HS, HM, HE, HW, HA, HP⟩ := R
  have hN : N ≤ 8 := K.2.1
  have hL : L ≤ 16 := K.2.2.1
  unfold wpX_getAnnounce
  by_cases f : v3 < 0 ∨ nI 10 ≤ v3
  · refine x_col_f f ?_
    by_cases b : v1 < 0 ∨ nI N ≤ v1
    · refine x_isClock_f b (br_t rfl ?_)
      unfold wpY_getAnnounce
      exact y_bad_t b (br_f (by decide) ⟨rfl, I'⟩)
    · obtain ⟨c, hc, rfl⟩ := gr_in (by omega) b
      refine x_isClock_t hN hc (br_f (by decide) (br_t rfl ?_))
      unfold wpY_getAnnounce
      refine y_bad_f hN hc (br_t rfl ?_)
      by_cases f1 : v3 < 0
      · exact br_t f1 ⟨rfl, I'⟩
      · exact br_f f1 (br_f (Int32.not_le.mpr (Int32.lt_of_lt_of_le (by decide : (9 : Int32) < nI 10) (f.resolve_left f1))) ⟨rfl, I'⟩)
  · obtain ⟨w, hw, rfl⟩ := gr_in (by omega) f
    have hcol := gr_col_10 w hw
    refine x_col hw ?_
    by_cases b : v1 < 0 ∨ nI N ≤ v1
    · refine x_isClock_f b (br_t rfl ?_)
      unfold wpY_getAnnounce
      exact y_bad_t b (br_f (by decide) ⟨rfl, I'⟩)
    · obtain ⟨c, hc, rfl⟩ := gr_in (by omega) b
      refine x_isClock_t hN hc (br_f (by decide) (br_f (gc_en_ne (by omega)) ?_))
      by_cases m1 : v2 = -1
      · subst m1
        refine br_t rfl (x_vectorRow ?_)
        rw [nI_add, nI_clamp (by omega)]
        exact ⟨vp_in_nI (by omega) (by omega), y_annV hN hc hw HV ⟨rfl, I'⟩⟩
      · refine br_f m1 (x_endOf K hc ?_)
        by_cases d : v2 < 0 ∨ nI L ≤ v2
        · rw [show gs_end L ec c v2 = none from if_pos d]
          refine br_t rfl ?_
          unfold wpY_getAnnounce
          refine y_bad_f hN hc (br_t rfl (br_f (nI_pos (by omega)) (br_t (nI_le (b := 9) (by omega) (by omega)) (br_f m1 ?_))))
          by_cases d1 : v2 < 0
          · exact br_t d1 ⟨rfl, I'⟩
          · exact br_f d1 (br_f (Int32.not_lt.mpr (d.resolve_left d1)) ⟨rfl, I'⟩)
        · obtain ⟨l, hl, rfl⟩ := gr_in (by omega) d
          rw [gr_end hL hl HE]
          by_cases e1 : la l = nI c
          · rw [if_pos e1]
            refine br_f (gc_en_ne (by omega)) (x_storeRow ?_)
            rw [nI_add, nI_clamp (by omega)]
            refine ⟨vp_in_nI (by omega) (by omega), y_annS hN hL hc hl hw HS ?_⟩
            rw [if_pos e1]
            exact ⟨rfl, I'⟩
          · rw [if_neg e1]
            by_cases e2 : lb l = nI c
            · rw [if_pos e2]
              refine br_f (gc_en_ne (by omega)) (x_storeRow ?_)
              rw [nI_add, nI_clamp (by omega)]
              refine ⟨vp_in_nI (by omega) (by omega), y_annS hN hL hc hl hw HS ?_⟩
              rw [if_neg e1, if_pos e2]
              exact ⟨rfl, I'⟩
            · rw [if_neg e2]
              refine br_t rfl (y_annS hN hL hc hl hw HS ?_)
              rw [if_neg e1, if_neg e2]
              exact ⟨rfl, I'⟩
section
variable {N C L : Nat} {tm : Int32} {RW ds vc pa pl qa ql dr md la lb da db lu es st sv sa ec ed : Nat → Int32} {ti ms aj ig off dl t1 t2 t3 t4 ct : Nat → Int64}
/-- a link made new -/
theorem x_reset {post : SX → Prop} {l : Nat} {up : Int32} (hl : l < 16) (hup : up = 0 ∨ up = 1) (h : post (gx N C L tm (gc_cp (gc_cp RW gc_z 0 ((16 + 2 * l) * 10) 10) gc_z 0 ((16 + (2 * l + 1)) * 10) 10) dr ti pa pl ms md (upd lu l up) ec (upd (upd es (2 * l) up) (2 * l + 1) up) ed)) : wpX_resetLink post (gx N C L tm RW dr ti pa pl ms md lu ec es ed) (nI l) up := by
  have e0 : upd lu (nI l).toNatClampNeg (vp_nar .boolean up) = upd lu l up := by rw [nI_clamp (by omega), ix_v hup]
  have c0 : (nI (2 * l)).toNatClampNeg = 2 * l := nI_clamp (by omega)
  have c1 : (nI (2 * l + 1)).toNatClampNeg = 2 * l + 1 := nI_clamp (by omega)
  have v0 : vp_in (nI (2 * l)) 32 := vp_in_nI (by omega) (by omega)
  have v1 : vp_in (nI (2 * l + 1)) 32 := vp_in_nI (by omega) (by omega)
  unfold wpX_resetLink
  refine ⟨vp_in_nI (by omega) (by omega), nm_r e0 (x_firstEnd (x_otherEnd (by omega) ?_))⟩
  rw [gc_ot0]
  rcases hup with rfl | rfl
  · exact br_t rfl ⟨v0, nm_r (by rw [c0]) (br_t rfl ⟨v1, nm_r (by rw [c1]) (x_clear (by omega) (x_clear (by omega) h))⟩)⟩
  · exact br_f (by decide) ⟨v0, nm_r (by rw [c0]) (br_f (by decide) ⟨v1, nm_r (by rw [c1]) (x_clear (by omega) (x_clear (by omega) h))⟩)⟩
theorem gr_clr2 {l : Nat} (hN : N ≤ 8) (hl : l < 16) (HD : gc_D N RW ds) (HV : gc_V N RW vc) (HS : gc_S RW st sv sa) : gc_D N (gc_cp (gc_cp RW gc_z 0 ((16 + 2 * l) * 10) 10) gc_z 0 ((16 + (2 * l + 1)) * 10) 10) ds ∧ gc_V N (gc_cp (gc_cp RW gc_z 0 ((16 + 2 * l) * 10) 10) gc_z 0 ((16 + (2 * l + 1)) * 10) 10) vc ∧ gc_S (gc_cp (gc_cp RW gc_z 0 ((16 + 2 * l) * 10) 10) gc_z 0 ((16 + (2 * l + 1)) * 10) 10) (gc_cp (gc_cp st gc_z 0 (2 * l * 8) 8) gc_z 0 ((2 * l + 1) * 8) 8) (upd (upd sv (2 * l) 0) (2 * l + 1) 0) (upd (upd sa (2 * l) 0) (2 * l + 1) 0) :=
  ⟨gc_Dfr hN (fun j hj => (gc_cp_out (by omega)).trans (gc_cp_out (by omega))) HD, gc_Vfr hN (fun j h1 h2 => (gc_cp_out (by omega)).trans (gc_cp_out (by omega))) HV, gc_Sclr (e := 2 * l + 1) (by omega) (gc_Sclr (e := 2 * l) (by omega) HS)⟩
theorem y_reset2 {post : Int32 → SY → Prop} {l : Nat} {z0 : Int32} (hl : l < 16) (h : post 1 (gy N C L tm ds vc qa ql dr ti aj ig off dl t1 t2 t3 t4 ct md la lb da db lu (upd (upd es (2 * l) z0) (2 * l + 1) z0) (gc_cp (gc_cp st gc_z 0 (2 * l * 8) 8) gc_z 0 ((2 * l + 1) * 8) 8) (upd (upd sv (2 * l) 0) (2 * l + 1) 0) (upd (upd sa (2 * l) 0) (2 * l + 1) 0))) : wY_setLinkUp_42 post (nI l) z0 (nI N) (nI C) tm (nI L) ds vc qa ql dr ti aj ig off dl t1 t2 t3 t4 ct md la lb da db lu es st sv sa := by
  unfold wY_setLinkUp_42
  simp (disch := omega) only [ix_m6, ix_m8, ix_m9, ix_m10, ix_m2, ix_2m, ix_8a, ix_16a, ix_a0, ix_a1, ix_a2, ix_a3, ix_a4, ix_a5, ix_a6, ix_a7, ix_a8, ix_a9, nI_add, nI_clamp, Nat.mul_comm l 2]
  exact ⟨vp_in_nI (by omega) (by omega), nm_e ⟨vp_in_nI (by omega) (by omega), nm_e (y_clear (by omega) (y_clear (by omega) h))⟩⟩
theorem gr_lu {l : Nat} {up : Int32} (hup : up = 0 ∨ up = 1) (K : gx_ok N L lu ec) : gx_ok N L (upd lu l up) ec := by
  refine ⟨K.1, K.2.1, K.2.2.1, fun j => ?_, K.2.2.2.2⟩
  by_cases q : j = l
  · subst q; rw [pk_us]; exact hup
  · rw [pk_un q]; exact K.2.2.2.1 j
end
theorem i_vc_setLinkUp {k : Nat} {u : SX} {v : SY} (I : i_Rel k u v) (hk : k + 5 ≤ 2563) (v1 : Int32) (v2 : Int32) : wpX_setLinkUp (fun r u' => wpY_setLinkUp (fun r' v' => r' = r ∧ i_Rel (k + 5) u' v') v v1 (lw_bz v2)) u v1 (lw_bz v2) := by
  obtain ⟨N, C, L, tm, RW, dr, ti, pa, pl, ms, md, lu, ec, es, ed, ds, vc, qa, ql, aj, ig, off, dl, t1, t2, t3, t4, ct, la, lb, da, db, st, sv, sa, rfl, rfl, R⟩ := I
  have I' := gr_mk (k := k + 5) (tm := tm) (dr := dr) (ti := ti) (md := md) (es := es) R
  obtain ⟨K, hLC, hC, HD, HV, HS, HM, HE, HW, HA, HP⟩ := R
  have hN : N ≤ 8 := K.2.1
  have hL : L ≤ 16 := K.2.2.1
  have hup := lw_bz_01 v2
  generalize lw_bz v2 = up at hup
  unfold wpX_setLinkUp
  by_cases b : v1 < 0 ∨ nI L ≤ v1
  · refine x_isLink_f b (br_t rfl ?_)
    unfold wpY_setLinkUp
    by_cases b1 : v1 < 0
    · exact br_t b1 ⟨rfl, I'⟩
    · exact br_f b1 (br_f (Int32.not_lt.mpr (b.resolve_left b1)) ⟨rfl, I'⟩)
  · obtain ⟨l, hl, rfl⟩ := gr_in (by omega) b
    have cl : (nI l).toNatClampNeg = l := nI_clamp (by omega)
    refine x_isLink_t hL hl (br_f (by decide) ⟨vp_in_nI (by omega) (by omega), ?_⟩)
    rw [cl]
    by_cases d : lu l = up
    · refine br_t d ?_
      unfold wpY_setLinkUp
      rw [cl]
      exact br_f (nI_pos (by omega)) (br_t (nI_lt hl (by omega)) ⟨vp_in_nI (by omega) (by omega), br_t d.symm ⟨rfl, I'⟩⟩)
    · refine br_f d (x_reset (by omega) hup ?_)
      unfold wpY_setLinkUp
      rw [cl]
      obtain ⟨D', V', S'⟩ := gr_clr2 (l := l) hN (by omega) HD HV HS
      refine br_f (nI_pos (by omega)) (br_t (nI_lt hl (by omega)) ⟨vp_in_nI (by omega) (by omega), br_f (fun z => d z.symm) ⟨vp_in_nI (by omega) (by omega), nm_r (by rw [ix_v hup]) ?_⟩⟩)
      have fin := gr_mk (k := k + 5) (tm := tm) (dr := dr) (ti := ti) (md := md) (es := upd (upd es (2 * l) up) (2 * l + 1) up) ⟨gr_lu (l := l) hup K, hLC, hC, D', V', S', HM, HE, HW, HA, HP⟩
      rcases hup with rfl | rfl
      · exact br_t rfl (y_reset2 (by omega) ⟨rfl, fin⟩)
      · exact br_f (by decide) (y_reset2 (by omega) ⟨rfl, fin⟩)
end
section
/-! addLink -/
def gr_J (L : Nat) (ec : Nat → Int32) (a b : Int32) : Prop := ∃ e, e < 2 * L ∧ ec e = a ∧ ec (gc_ot e) = b
def gr_Jy (L : Nat) (la lb : Nat → Int32) (a b : Int32) : Prop := ∃ l, l < L ∧ ((la l = a ∧ lb l = b) ∨ (la l = b ∧ lb l = a))
theorem gr_JJ {N L : Nat} {ec la lb : Nat → Int32} {a b : Int32} (HE : gc_E N L ec la lb) : gr_J L ec a b ↔ gr_Jy L la lb a b := by
  constructor
  · rintro ⟨e, he, h1, h2⟩
    obtain ⟨g1, g2, _, _⟩ := HE (e / 2) (by omega)
    rcases (by omega : e = 2 * (e / 2) ∨ e = 2 * (e / 2) + 1) with q | q
    · rw [q, gc_ot0, g2] at h2
      rw [q, g1] at h1
      exact ⟨e / 2, by omega, Or.inl ⟨h1, h2⟩⟩
    · rw [q, gc_ot1, g1] at h2
      rw [q, g2] at h1
      exact ⟨e / 2, by omega, Or.inr ⟨h2, h1⟩⟩
  · rintro ⟨l, hl, h⟩
    obtain ⟨g1, g2, _, _⟩ := HE l hl
    rcases h with ⟨h1, h2⟩ | ⟨h1, h2⟩
    · exact ⟨2 * l, by omega, by rw [g1]; exact h1, by rw [gc_ot0, g2]; exact h2⟩
    · exact ⟨2 * l + 1, by omega, by rw [g2]; exact h2, by rw [gc_ot1, g1]; exact h1⟩
section
variable {N C L : Nat} {tm : Int32} {RW ds vc pa pl qa ql dr md la lb da db lu es st sv sa ec ed : Nat → Int32} {ti ms aj ig off dl t1 t2 t3 t4 ct : Nat → Int64}
theorem x_joinl {post : Int32 → Prop} {a b : Int32} (hL : L ≤ 16) (h1 : gr_J L ec a b → post 1) (h0 : ¬ gr_J L ec a b → post 0) : ∀ k i, i + k = 2 * L → (∀ e, e < i → ¬ (ec e = a ∧ ec (gc_ot e) = b)) → wX_areJoined_2 post a b (nI N) (nI C) tm (nI L) RW dr ti pa pl ms md lu ec es ed (k + 1) (nI i)
  | 0, i, hi, hn => br_t (by rw [ix_2m]; exact nI_le (by omega) (by omega)) (h0 (fun ⟨e, he, z⟩ => hn e (by omega) z))
  | k + 1, i, hi, hn => by
    have ho : gc_ot i < 2 * 16 := gc_otlt (by omega)
    have ih : ¬ (ec i = a ∧ ec (gc_ot i) = b) → wX_areJoined_2 post a b (nI N) (nI C) tm (nI L) RW dr ti pa pl ms md lu ec es ed (k + 1) (nI (i + 1)) := fun z => x_joinl hL h1 h0 k (i + 1) (by omega) (fun e he => by
      rcases (by omega : e < i ∨ e = i) with q | q
      · exact hn e q
      · rw [q]; exact z)
    refine br_f (by rw [ix_2m]; exact nI_ge (by omega) (by omega)) ⟨vp_in_nI (by omega) (by omega), ?_⟩
    rw [nI_clamp (by omega)]
    by_cases p : ec i = a
    · refine br_t p (x_otherEnd (by omega) ⟨vp_in_nI (by omega) (by omega), ?_⟩)
      rw [nI_clamp (by omega)]
      by_cases q : ec (gc_ot i) = b
      · exact br_t q (h1 ⟨i, by omega, p, q⟩)
      · exact br_f q (nm_r (nI_1 i) (ih (fun z => q z.2)))
    · exact br_f p (nm_r (nI_1 i) (ih (fun z => p z.1)))
theorem y_joinl {post : Int32 → SY → Prop} {a b x3 x4 : Int32} (hL : L ≤ 16) (h1 : gr_Jy L la lb a b → post (-1) (gy N C L tm ds vc qa ql dr ti aj ig off dl t1 t2 t3 t4 ct md la lb da db lu es st sv sa)) (h0 : ¬ gr_Jy L la lb a b → wY_addLink_30 post a b x3 x4 (nI N) (nI C) tm (nI L) ds vc qa ql dr ti aj ig off dl t1 t2 t3 t4 ct md la lb da db lu es st sv sa 1 (nI L)) : ∀ k i, i + k = L → (∀ l, l < i → ¬ ((la l = a ∧ lb l = b) ∨ (la l = b ∧ lb l = a))) → wY_addLink_30 post a b x3 x4 (nI N) (nI C) tm (nI L) ds vc qa ql dr ti aj ig off dl t1 t2 t3 t4 ct md la lb da db lu es st sv sa (k + 1) (nI i)
  | 0, i, hi, hn => by
    obtain rfl : i = L := by omega
    exact h0 (fun ⟨l, hl, z⟩ => hn l hl z)
  | k + 1, i, hi, hn => by
    have v : vp_in (nI i) 16 := vp_in_nI (by omega) (by omega)
    have cl : (nI i).toNatClampNeg = i := nI_clamp (by omega)
    have ih : ¬ ((la i = a ∧ lb i = b) ∨ (la i = b ∧ lb i = a)) → wY_addLink_30 post a b x3 x4 (nI N) (nI C) tm (nI L) ds vc qa ql dr ti aj ig off dl t1 t2 t3 t4 ct md la lb da db lu es st sv sa (k + 1) (nI (i + 1)) := fun z => y_joinl hL h1 h0 k (i + 1) (by omega) (fun e he => by
      rcases (by omega : e < i ∨ e = i) with q | q
      · exact hn e q
      · rw [q]; exact z)
    have f : ¬ (la i = a ∧ lb i = b) → wY_addLink_61 post (wY_addLink_30 post a b x3 x4 (nI N) (nI C) tm (nI L) ds vc qa ql dr ti aj ig off dl t1 t2 t3 t4 ct md la lb da db lu es st sv sa (k + 1)) a b x3 x4 (nI i) (nI N) (nI C) tm (nI L) ds vc qa ql dr ti aj ig off dl t1 t2 t3 t4 ct md la lb da db lu es st sv sa := by
      intro z
      unfold wY_addLink_61
      rw [cl]
      refine ⟨v, ?_⟩
      by_cases p : la i = b
      · refine br_t p ⟨v, ?_⟩
        by_cases q : lb i = a
        · exact br_t q (h1 ⟨i, by omega, Or.inr ⟨p, q⟩⟩)
        · exact br_f q (nm_r (nI_1 i) (ih (fun y => y.elim z (fun y => q y.2))))
      · exact br_f p (nm_r (nI_1 i) (ih (fun y => y.elim z (fun y => p y.1))))
    refine br_f (nI_ge (by omega) (by omega)) ⟨v, ?_⟩
    rw [cl]
    by_cases p : la i = a
    · refine br_t p ⟨v, ?_⟩
      by_cases q : lb i = b
      · exact br_t q (h1 ⟨i, by omega, Or.inl ⟨p, q⟩⟩)
      · exact br_f q (f (fun z => q z.2))
    · exact br_f p (f (fun z => p z.1))
theorem gr_okL {a b : Nat} (hL : L < 16) (ha : a < N) (hb : b < N) (K : gx_ok N L lu ec) : gx_ok N (L + 1) (upd lu L 1) (upd (upd ec (2 * L) (nI a)) (2 * L + 1) (nI b)) := by
  refine ⟨K.1, K.2.1, by omega, (gr_lu (Or.inr rfl) K).2.2.2.1, fun e he => ?_⟩
  by_cases q : e = 2 * L + 1
  · subst q; exact ⟨b, hb, pk_us⟩
  · rw [pk_un q]
    by_cases r : e = 2 * L
    · subst r; exact ⟨a, ha, pk_us⟩
    · rw [pk_un r]; exact K.2.2.2.2 e (by omega)
theorem gr_EL {a b : Nat} (ha : a < N) (hb : b < N) (HE : gc_E N L ec la lb) : gc_E N (L + 1) (upd (upd ec (2 * L) (nI a)) (2 * L + 1) (nI b)) (upd la L (nI a)) (upd lb L (nI b)) := by
  intro l hl
  by_cases q : l = L
  · subst q
    refine ⟨?_, ?_, ⟨a, ha, pk_us⟩, ⟨b, hb, pk_us⟩⟩
    · rw [pk_un (by omega), pk_us, pk_us]
    · rw [pk_us, pk_us]
  · simp (disch := omega) only [pk_un]
    exact HE l (by omega)
theorem gr_WL {x y : Int32} (HW : gc_W L ed da db) : gc_W (L + 1) (upd (upd ed (2 * L) x) (2 * L + 1) y) (upd da L x) (upd db L y) := by
  intro l hl
  by_cases q : l = L
  · subst q
    refine ⟨?_, ?_⟩
    · rw [pk_un (by omega), pk_us, pk_us]
    · rw [pk_us, pk_us]
  · simp (disch := omega) only [pk_un]
    exact HW l (by omega)
end
theorem i_vc_addLink {k : Nat} {u : SX} {v : SY} (I : i_Rel k u v) (hk : k + 5 ≤ 2563) (v1 : Int32) (v2 : Int32) (v3 : Int32) (v4 : Int32) : wpX_addLink (fun r u' => wpY_addLink (fun r' v' => r' = r ∧ i_Rel (k + 5) u' v') v v1 v2 v3 v4) u v1 v2 v3 v4 := by
  obtain ⟨N, C, L, tm, RW, dr, ti, pa, pl, ms, md, lu, ec, es, ed, ds, vc, qa, ql, aj, ig, off, dl, t1, t2, t3, t4, ct, la, lb, da, db, st, sv, sa, rfl, rfl, R⟩ := I
  have I' := gr_mk (k := k + 5) (tm := tm) (dr := dr) (ti := ti) (md := md) (es := es) R
  obtain ⟨K, hLC, hC, HD, HV, HS, HM, HE, HW, HA, HP⟩ := R
  have hN : N ≤ 8 := K.2.1
  have hL : L ≤ 16 := K.2.2.1
  unfold wpX_addLink
  by_cases b : v1 < 0 ∨ nI N ≤ v1
  · refine x_isClock_f b (br_t rfl ?_)
    unfold wpY_addLink
    exact y_bad_t b (br_f (by decide) ⟨rfl, I'⟩)
  · obtain ⟨ca, hca, rfl⟩ := gr_in (by omega) b
    refine x_isClock_t hN hca (br_f (by decide) ?_)
    by_cases d : v2 < 0 ∨ nI N ≤ v2
    · refine x_isClock_f d (br_t rfl ?_)
      unfold wpY_addLink
      exact y_bad_f hN hca (br_t rfl (y_bad_t d (br_f (by decide) ⟨rfl, I'⟩)))
    · obtain ⟨cb, hcb, rfl⟩ := gr_in (by omega) d
      refine x_isClock_t hN hcb (br_f (by decide) ?_)
      by_cases e : nI ca = nI cb
      · refine br_t e ?_
        unfold wpY_addLink
        exact y_bad_f hN hca (br_t rfl (y_bad_f hN hcb (br_t rfl (br_t e ⟨rfl, I'⟩))))
      · refine br_f e ⟨_, x_joinl hL ?_ ?_ (2 * L) 0 (by omega) (fun e he => absurd he (by omega))⟩
        · intro J
          refine br_f (by decide) ?_
          unfold wpY_addLink
          exact y_bad_f hN hca (br_t rfl (y_bad_f hN hcb (br_t rfl (br_f e ⟨_, y_joinl hL (fun _ => ⟨rfl, I'⟩) (fun z => absurd ((gr_JJ HE).mp J) z) L 0 (by omega) (fun l hl => absurd hl (by omega))⟩))))
        · intro J
          refine br_t rfl ?_
          by_cases q : L < C
          · refine br_t (nI_lt q (by omega)) (nm_r (nI_1 L) (x_firstEnd (x_otherEnd (by omega) ?_)))
            rw [gc_ot0, nI_clamp (by omega), nI_clamp (by omega)]
            refine ⟨vp_in_nI (by omega) (by omega), nm_e ⟨vp_in_nI (by omega) (by omega), nm_e (x_clamp ⟨vp_in_nI (by omega) (by omega), nm_e (x_clamp ⟨vp_in_nI (by omega) (by omega), nm_e (x_reset (L := L + 1) (by omega) (Or.inr rfl) ?_)⟩)⟩)⟩⟩
            obtain ⟨D', V', S'⟩ := gr_clr2 (l := L) hN (by omega) HD HV HS
            have fin := gr_mk (k := k + 5) (tm := tm) (dr := dr) (ti := ti) (md := md) (es := upd (upd es (2 * L) 1) (2 * L + 1) 1) ⟨gr_okL (by omega) hca hcb K, by omega, hC, D', V', S', HM, gr_EL hca hcb HE, gr_WL (x := gc_cl v3 0 10000000) (y := gc_cl v4 0 10000000) HW, HA, HP⟩
            unfold wpY_addLink
            refine y_bad_f hN hca (br_t rfl (y_bad_f hN hcb (br_t rfl (br_f e ⟨_, y_joinl hL (fun z => absurd ((gr_JJ HE).mpr z) J) (fun _ => br_t (nI_le (by omega) (by omega)) (br_t (nI_lt q (by omega)) ?_)) L 0 (by omega) (fun l hl => absurd hl (by omega))⟩))))
            simp (disch := omega) only [ix_m6, ix_m8, ix_m9, ix_m10, ix_m2, ix_2m, ix_8a, ix_16a, ix_a0, ix_a1, ix_a2, ix_a3, ix_a4, ix_a5, ix_a6, ix_a7, ix_a8, ix_a9, nI_add, nI_clamp, Nat.mul_comm L 2]
            have vL : vp_in (nI L) 16 := vp_in_nI (by omega) (by omega)
            exact ⟨vL, nm_e ⟨vL, nm_e (y_clamp ⟨vL, nm_e (y_clamp ⟨vL, nm_e ⟨vL, nm_r (e' := upd lu L 1) rfl ⟨vp_in_nI (by omega) (by omega), nm_e ⟨vp_in_nI (by omega) (by omega), nm_e (y_clear (by omega) (y_clear (by omega) (nm_r (nI_1 L) ⟨by trivial, fin⟩)))⟩⟩⟩⟩)⟩)⟩⟩
          · refine br_f (nI_nlt (by omega) (by omega)) ?_
            unfold wpY_addLink
            exact y_bad_f hN hca (br_t rfl (y_bad_f hN hcb (br_t rfl (br_f e ⟨_, y_joinl hL (fun z => absurd ((gr_JJ HE).mpr z) J) (fun _ => br_t (nI_le (by omega) (by omega)) (br_f (nI_nlt (by omega) (by omega)) ⟨rfl, I'⟩)) L 0 (by omega) (fun l hl => absurd hl (by omega))⟩))))
end
section
/-! the constructors -/
def gd_ (c f : Nat) : Int32 := [128, 248, 254, 65535, 128, nI c, 0, nI c, 1, 0].getD f 0
def gi_X (i : Nat) (RW pa pl : Nat → Int32) : Prop := (∀ c, c < i → (∀ f, f < 10 → RW (c * 10 + f) = gd_ c f) ∧ (∀ f, f < 10 → RW ((8 + c) * 10 + f) = gd_ c f) ∧ pa c = -1 ∧ pl c = -1) ∧ ∀ j, 160 ≤ j → RW j = 0
def gi_Y (i : Nat) (ds vc qa ql : Nat → Int32) : Prop := ∀ c, c < i → (∀ f, f < 6 → ds (c * 6 + f) = gd_ c f) ∧ (∀ f, f < 8 → vc (c * 8 + f) = gd_ c f) ∧ qa c = -1 ∧ ql c = -1
theorem gi_Xs {i : Nat} {RW pa pl : Nat → Int32} (hi : i < 8) (H : gi_X i RW pa pl) : gi_X (i + 1) (gc_cp (gc_cp RW (gd_ i) 0 (i * 10) 10) (gc_cp RW (gd_ i) 0 (i * 10) 10) (i * 10) ((8 + i) * 10) 10) (upd pa i (-1)) (upd pl i (-1)) := by
  refine ⟨fun c hc => ?_, fun j hj => ?_⟩
  · by_cases q : c = i
    · subst q
      refine ⟨fun f hf => ?_, fun f hf => ?_, pk_us, pk_us⟩
      · rw [gc_cp_out (by omega), gc_cp_in hf, Nat.zero_add]
      · rw [gc_cp_in hf, gc_cp_in hf, Nat.zero_add]
    · obtain ⟨h1, h2, h3, h4⟩ := H.1 c (by omega)
      refine ⟨fun f hf => ?_, fun f hf => ?_, ?_, ?_⟩
      · rw [gc_cp_out (by omega), gc_cp_out (by omega)]; exact h1 f hf
      · rw [gc_cp_out (by omega), gc_cp_out (by omega)]; exact h2 f hf
      · rw [pk_un q]; exact h3
      · rw [pk_un q]; exact h4
  · rw [gc_cp_out (by omega), gc_cp_out (by omega)]; exact H.2 j hj
theorem gi_Ys {i : Nat} {ds vc qa ql : Nat → Int32} (H : gi_Y i ds vc qa ql) : gi_Y (i + 1) (gc_cp ds (gd_ i) 0 (i * 6) 6) (upd (upd (gc_cp vc (gc_cp ds (gd_ i) 0 (i * 6) 6) (i * 6) (i * 8) 6) (i * 8 + 6) 0) (i * 8 + 7) (nI i)) (upd qa i (-1)) (upd ql i (-1)) := by
  intro c hc
  by_cases q : c = i
  · subst q
    refine ⟨fun f hf => ?_, fun f hf => ?_, pk_us, pk_us⟩
    · rw [gc_cp_in hf, Nat.zero_add]
    · rcases (by omega : f < 6 ∨ f = 6 ∨ f = 7) with h | rfl | rfl
      · rw [pk_un (by omega), pk_un (by omega), gc_cp_in h, gc_cp_in h, Nat.zero_add]
      · rw [pk_un (by omega), pk_us]; rfl
      · rw [pk_us]; rfl
  · obtain ⟨h1, h2, h3, h4⟩ := H c (by omega)
    refine ⟨fun f hf => ?_, fun f hf => ?_, ?_, ?_⟩
    · rw [gc_cp_out (by omega)]; exact h1 f hf
    · rw [pk_un (by omega), pk_un (by omega), gc_cp_out (by omega)]; exact h2 f hf
    · rw [pk_un q]; exact h3
    · rw [pk_un q]; exact h4
section
variable {N C L : Nat} {tm : Int32} {RW ds vc pa pl qa ql dr md la lb da db lu es st sv sa ec ed : Nat → Int32} {ti ms aj ig off dl t1 t2 t3 t4 ct : Nat → Int64}
theorem x_start {post : SX → Prop} {c : Nat} (hc : c < 8) (h : post (gx N C L tm (gc_cp RW (gd_ c) 0 (c * 10) 10) dr ti pa pl ms md lu ec es ed)) : wpX_startDataset post (gx N C L tm RW dr ti pa pl ms md lu ec es ed) (nI c) := by
  unfold wpX_startDataset
  refine x_datasetRow ?_
  simp (disch := omega) only [ix_m6, ix_m8, ix_m9, ix_m10, ix_m2, ix_2m, ix_8a, ix_16a, ix_a0, ix_a1, ix_a2, ix_a3, ix_a4, ix_a5, ix_a6, ix_a7, ix_a8, ix_a9, nI_add, nI_clamp]
  have e0 : upd RW (c * 10 + 0) 128 = gc_cp RW (gd_ c) 0 (c * 10) 1 := by
    have := gc_cpS RW (gd_ c) 0 (c * 10) 0
    rw [gc_cp0] at this
    exact this
  exact ⟨vp_in_nI (by omega) (by omega), nm_r e0 ⟨vp_in_nI (by omega) (by omega), nm_r (gc_cpS RW (gd_ c) 0 (c * 10) 1) ⟨vp_in_nI (by omega) (by omega), nm_r (gc_cpS RW (gd_ c) 0 (c * 10) 2) ⟨vp_in_nI (by omega) (by omega), nm_r (gc_cpS RW (gd_ c) 0 (c * 10) 3) ⟨vp_in_nI (by omega) (by omega), nm_r (gc_cpS RW (gd_ c) 0 (c * 10) 4) ⟨vp_in_nI (by omega) (by omega), nm_r (gc_cpS RW (gd_ c) 0 (c * 10) 5) ⟨vp_in_nI (by omega) (by omega), nm_r (gc_cpS RW (gd_ c) 0 (c * 10) 6) ⟨vp_in_nI (by omega) (by omega), nm_r (gc_cpS RW (gd_ c) 0 (c * 10) 7) ⟨vp_in_nI (by omega) (by omega), nm_r (gc_cpS RW (gd_ c) 0 (c * 10) 8) ⟨vp_in_nI (by omega) (by omega), nm_r (gc_cpS RW (gd_ c) 0 (c * 10) 9) h⟩⟩⟩⟩⟩⟩⟩⟩⟩⟩
theorem x_initl {post : SX → Prop} (hN : N ≤ 8) (h : ∀ RW pa pl, gi_X N RW pa pl → post (gx N C 0 tm RW dr ti pa pl ms md lu ec es ed)) : ∀ k i RW pa pl, i + k = N → gi_X i RW pa pl → wX_init_133 post (k + 1) (nI i) (nI N) (nI C) tm (nI 0) RW dr ti pa pl ms md lu ec es ed
  | 0, i, RW, pa, pl, hi, H => by
    obtain rfl : i = N := by omega
    exact br_t (nI_le (by omega) (by omega)) (h _ _ _ H)
  | k + 1, i, RW, pa, pl, hi, H => by
    refine br_f (nI_ge (by omega) (by omega)) (x_start (L := 0) (by omega) (x_self (L := 0) (by omega) (by omega) (nm_r (nI_1 i) ?_)))
    have ih := x_initl hN h k (i + 1) _ _ _ (by omega) (gi_Xs (by omega) H)
    have e : gc_fol ec lu es (fun _ => 1) i (2 * 0) = es := gc_fol0 _ _ _ _ _
    rw [← e] at ih
    exact ih
theorem y_initl {post : SY → Prop} (h : ∀ ds vc qa ql, gi_Y 8 ds vc qa ql → post (gy N C L tm ds vc qa ql dr ti aj ig off dl t1 t2 t3 t4 ct md la lb da db lu es st sv sa)) : ∀ k i ds vc qa ql, i + k = 8 → gi_Y i ds vc qa ql → wY_init_243 post (k + 1) (nI i) (nI N) (nI C) tm (nI L) ds vc qa ql dr ti aj ig off dl t1 t2 t3 t4 ct md la lb da db lu es st sv sa
  | 0, i, ds, vc, qa, ql, hi, H => by
    obtain rfl : i = 8 := by omega
    exact br_t (nI_le (a := 8) (b := 8) (by omega) (by omega)) (h _ _ _ _ H)
  | k + 1, i, ds, vc, qa, ql, hi, H => by
    have ih := y_initl h k (i + 1) _ _ _ _ (by omega) (gi_Ys H)
    have e0 : upd ds (i * 6) 128 = gc_cp ds (gd_ i) 0 (i * 6) 1 := by
      have := gc_cpS ds (gd_ i) 0 (i * 6) 0
      rw [gc_cp0] at this
      exact this
    refine br_f (nI_ge (b := 8) (by omega) (by omega)) ?_
    simp (disch := omega) only [ix_m6, ix_m8, ix_m9, ix_m10, ix_m2, ix_2m, ix_8a, ix_16a, ix_a0, ix_a1, ix_a2, ix_a3, ix_a4, ix_a5, ix_a6, ix_a7, ix_a8, ix_a9, nI_add, nI_clamp]
    exact ⟨vp_in_nI (by omega) (by omega), nm_r e0 ⟨vp_in_nI (by omega) (by omega), nm_r (gc_cpS ds (gd_ i) 0 (i * 6) 1) ⟨vp_in_nI (by omega) (by omega), nm_r (gc_cpS ds (gd_ i) 0 (i * 6) 2) ⟨vp_in_nI (by omega) (by omega), nm_r (gc_cpS ds (gd_ i) 0 (i * 6) 3) ⟨vp_in_nI (by omega) (by omega), nm_r (gc_cpS ds (gd_ i) 0 (i * 6) 4) ⟨vp_in_nI (by omega) (by omega), nm_r (gc_cpS ds (gd_ i) 0 (i * 6) 5) (y_resetV (by omega) ⟨vp_in_nI (by omega) (by omega), nm_e ⟨vp_in_nI (by omega) (by omega), nm_e (nm_e ih)⟩⟩)⟩⟩⟩⟩⟩⟩
end
theorem i_vc0 (k0 : Int32) (k1 : Int32) (k2 : Int32) : wpX_init (fun u => wpY_init (fun v => i_Rel 3 u v) k0 k1 k2) k0 k1 k2 := by
  obtain ⟨N, h2N, hN, eN⟩ := gr_cl (v := k0) (lo := 2) (hi := 8) (a := 2) (b := 8) rfl rfl (by omega) (by omega)
  obtain ⟨C, h1C, hC, eC⟩ := gr_cl (v := k1) (lo := 1) (hi := 16) (a := 1) (b := 16) rfl rfl (by omega) (by omega)
  unfold wpX_init
  refine x_clamp ?_
  rw [eN]
  refine x_clamp ?_
  rw [eC]
  refine x_clamp ⟨_, x_initl hN (fun RW pa pl HX => ?_) N 0 _ _ _ (by omega) ⟨fun c hc => absurd hc (by omega), fun _ _ => rfl⟩⟩
  unfold wpY_init
  refine y_clamp (N := 0) (C := 0) (L := 0) (tm := 0) ?_
  rw [eN]
  refine y_clamp (N := N) (C := 0) (L := 0) (tm := 0) ?_
  rw [eC]
  refine y_clamp (N := N) (C := C) (L := 0) (tm := 0) ⟨_, y_initl (N := N) (C := C) (L := 0) (fun ds vc qa ql HY => ?_) 8 0 _ _ _ _ (by omega) (fun c hc => absurd hc (by omega))⟩
  refine gr_mk ⟨⟨h2N, hN, by omega, fun _ => Or.inl rfl, fun e he => absurd he (by omega)⟩, by omega, hC, fun c hc => ?_, fun c hc => ?_, fun e he => ?_, fun c hc => ⟨rfl, rfl, rfl, rfl, rfl, rfl, rfl, rfl, rfl⟩, fun l hl => absurd hl (by omega), fun l hl => absurd hl (by omega), fun c hc => ?_, fun c hc => ?_⟩
  · obtain ⟨h1, _⟩ := HX.1 c hc
    obtain ⟨g1, _⟩ := HY c (by omega)
    exact ⟨fun f hf => (h1 f (by omega)).trans (g1 f hf).symm, h1 6 (by omega), h1 7 (by omega), h1 8 (by omega), h1 9 (by omega)⟩
  · obtain ⟨_, h1, _⟩ := HX.1 c hc
    obtain ⟨_, g1, _⟩ := HY c (by omega)
    exact ⟨fun f hf => (h1 f (by omega)).trans (g1 f hf).symm, h1 7 (by omega), h1 8 (by omega), h1 9 (by omega)⟩
  · exact ⟨fun f hf => HX.2 _ (by omega), HX.2 _ (by omega), HX.2 _ (by omega), Or.inl rfl⟩
  · exact (HX.1 c hc).2.2.1.trans (HY c (by omega)).2.2.1.symm
  · exact (HX.1 c hc).2.2.2.trans (HY c (by omega)).2.2.2.symm
end
