section
/-! one row out of the rows to paste -/
theorem nx_xor (a b : Nat) : nI a ^^^ nI b = nI (a ^^^ b) := by
  apply Int32.toBitVec_inj.1
  show BitVec.ofNat 32 a ^^^ BitVec.ofNat 32 b = BitVec.ofNat 32 (a ^^^ b)
  apply BitVec.eq_of_getLsbD_eq
  intro i hi
  simp [hi]
end
section
/-! pure pictures: clamp, copies, comparison, the parts of the relation -/
def gc_cl (v lo hi : Int32) : Int32 := if v < lo then lo else if hi < v then hi else v
def gc_clL (v lo hi : Int64) : Int64 := if v < lo then lo else if hi < v then hi else v
/-- a with k cells from y on taken from s from x on -/
def gc_cp (a s : Nat → Int32) (x y k : Nat) : Nat → Int32 := fun j => if y ≤ j ∧ j < y + k then s (x + (j - y)) else a j
def gc_z : Nat → Int32 := fun _ => 0
theorem gc_cp0 (a s : Nat → Int32) (x y : Nat) : gc_cp a s x y 0 = a := by
  funext j
  exact if_neg (by omega)
theorem gc_cpS (a s : Nat → Int32) (x y i : Nat) : upd (gc_cp a s x y i) (y + i) (s (x + i)) = gc_cp a s x y (i + 1) := by
  funext j
  by_cases h : j = y + i
  · subst h
    have e : x + (y + i - y) = x + i := by omega
    simp only [upd, gc_cp, if_true]
    rw [if_pos (by omega), e]
  · simp only [upd, gc_cp]
    rw [if_neg h]
    by_cases h2 : y ≤ j ∧ j < y + i
    · rw [if_pos h2, if_pos (by omega)]
    · rw [if_neg h2, if_neg (by omega)]
theorem gc_cp_in {a s : Nat → Int32} {x y k i : Nat} (h : i < k) : gc_cp a s x y k (y + i) = s (x + i) := by
  have e : x + (y + i - y) = x + i := by omega
  simp only [gc_cp]
  rw [if_pos (by omega), e]
theorem gc_cp_out {a s : Nat → Int32} {x y k j : Nat} (h : j < y ∨ y + k ≤ j) : gc_cp a s x y k j = a j := by
  simp only [gc_cp]
  exact if_neg (by omega)
/-- the comparison of k columns from column i on -/
def gc_cmp (f g : Nat → Int32) : Nat → Nat → Int32
  | 0, _ => 0
  | k + 1, i => if f i = g i then gc_cmp f g k (i + 1) else if f i < g i then -1 else 1
theorem gc_cmp_self (f : Nat → Int32) : ∀ k i, gc_cmp f f k i = 0
  | 0, _ => rfl
  | k + 1, i => by
    rw [gc_cmp, if_pos rfl]
    exact gc_cmp_self f k (i + 1)
/-- dataset rows -/
def gc_D (N : Nat) (RW ds : Nat → Int32) : Prop := ∀ c, c < N → (∀ f, f < 6 → RW (c * 10 + f) = ds (c * 6 + f)) ∧ RW (c * 10 + 6) = 0 ∧ RW (c * 10 + 7) = nI c ∧ RW (c * 10 + 8) = 1 ∧ RW (c * 10 + 9) = 0
/-- vector rows -/
def gc_V (N : Nat) (RW vc : Nat → Int32) : Prop := ∀ c, c < N → (∀ f, f < 8 → RW ((8 + c) * 10 + f) = vc (c * 8 + f)) ∧ RW ((8 + c) * 10 + 7) = nI c ∧ RW ((8 + c) * 10 + 8) = 1 ∧ RW ((8 + c) * 10 + 9) = 0
/-- store rows -/
def gc_S (RW st sv sa : Nat → Int32) : Prop := ∀ e, e < 32 → (∀ f, f < 8 → RW ((16 + e) * 10 + f) = st (e * 8 + f)) ∧ RW ((16 + e) * 10 + 8) = sv e ∧ RW ((16 + e) * 10 + 9) = sa e ∧ (sv e = 0 ∨ sv e = 1)
/-- measures -/
def gc_M (ms off dl t1 t2 t3 t4 aj ig ct : Nat → Int64) : Prop := ∀ c, c < 8 → ms (c * 9 + 0) = off c ∧ ms (c * 9 + 1) = dl c ∧ ms (c * 9 + 2) = t1 c ∧ ms (c * 9 + 3) = t2 c ∧ ms (c * 9 + 4) = t3 c ∧ ms (c * 9 + 5) = t4 c ∧ ms (c * 9 + 6) = aj c ∧ ms (c * 9 + 7) = ig c ∧ ms (c * 9 + 8) = ct c
/-- ends and their clocks -/
def gc_E (N L : Nat) (ec la lb : Nat → Int32) : Prop := ∀ l, l < L → ec (2 * l) = la l ∧ ec (2 * l + 1) = lb l ∧ (∃ j, j < N ∧ la l = nI j) ∧ (∃ j, j < N ∧ lb l = nI j)
/-- delays -/
def gc_W (L : Nat) (ed da db : Nat → Int32) : Prop := ∀ l, l < L → ed (2 * l) = da l ∧ ed (2 * l + 1) = db l
def gc_P (N : Nat) (a b : Nat → Int32) : Prop := ∀ c, c < N → a c = b c
def gc_B (a : Nat → Int32) : Prop := ∀ l, a l = 0 ∨ a l = 1
section
variable {N : Nat} {RW RW' ds vc st sv sa : Nat → Int32}
theorem gc_Dfr (hN : N ≤ 8) (h : ∀ j, j < 80 → RW' j = RW j) (H : gc_D N RW ds) : gc_D N RW' ds := by
  intro c hc
  obtain ⟨h1, h2, h3, h4, h5⟩ := H c hc
  refine ⟨fun f hf => ?_, ?_, ?_, ?_, ?_⟩
  · rw [h _ (by omega)]; exact h1 f hf
  · rw [h _ (by omega)]; exact h2
  · rw [h _ (by omega)]; exact h3
  · rw [h _ (by omega)]; exact h4
  · rw [h _ (by omega)]; exact h5
theorem gc_Vfr (hN : N ≤ 8) (h : ∀ j, 80 ≤ j → j < 160 → RW' j = RW j) (H : gc_V N RW vc) : gc_V N RW' vc := by
  intro c hc
  obtain ⟨h1, h2, h3, h4⟩ := H c hc
  refine ⟨fun f hf => ?_, ?_, ?_, ?_⟩
  · rw [h _ (by omega) (by omega)]; exact h1 f hf
  · rw [h _ (by omega) (by omega)]; exact h2
  · rw [h _ (by omega) (by omega)]; exact h3
  · rw [h _ (by omega) (by omega)]; exact h4
theorem gc_Sfr (h : ∀ j, 160 ≤ j → RW' j = RW j) (H : gc_S RW st sv sa) : gc_S RW' st sv sa := by
  intro e he
  obtain ⟨h1, h2, h3, h4⟩ := H e he
  refine ⟨fun f hf => ?_, ?_, ?_, h4⟩
  · rw [h _ (by omega)]; exact h1 f hf
  · rw [h _ (by omega)]; exact h2
  · rw [h _ (by omega)]; exact h3
theorem gc_Dset {c f : Nat} (a : Int32) (hc : c < N) (hf : f < 6) (H : gc_D N RW ds) : gc_D N (upd RW (c * 10 + f) a) (upd ds (c * 6 + f) a) := by
  intro c' hc'
  obtain ⟨h1, h2, h3, h4, h5⟩ := H c' hc'
  refine ⟨fun g hg => ?_, ?_, ?_, ?_, ?_⟩
  · by_cases e : c' = c ∧ g = f
    · obtain ⟨rfl, rfl⟩ := e
      rw [pk_us, pk_us]
    · rw [pk_un (by omega), pk_un (by omega)]; exact h1 g hg
  · rw [pk_un (by omega)]; exact h2
  · rw [pk_un (by omega)]; exact h3
  · rw [pk_un (by omega)]; exact h4
  · rw [pk_un (by omega)]; exact h5
/-- a store cleared -/
theorem gc_Sclr {e : Nat} (he : e < 32) (H : gc_S RW st sv sa) : gc_S (gc_cp RW gc_z 0 ((16 + e) * 10) 10) (gc_cp st gc_z 0 (e * 8) 8) (upd sv e 0) (upd sa e 0) := by
  intro e' he'
  obtain ⟨h1, h2, h3, h4⟩ := H e' he'
  by_cases q : e' = e
  · subst q
    refine ⟨fun f hf => ?_, ?_, ?_, ?_⟩
    · rw [gc_cp_in (by omega), gc_cp_in hf]
    · rw [gc_cp_in (by omega), pk_us]; rfl
    · rw [gc_cp_in (by omega), pk_us]; rfl
    · rw [pk_us]; exact Or.inl rfl
  · refine ⟨fun f hf => ?_, ?_, ?_, ?_⟩
    · rw [gc_cp_out (by omega), gc_cp_out (by omega)]; exact h1 f hf
    · rw [gc_cp_out (by omega), pk_un q]; exact h2
    · rw [gc_cp_out (by omega), pk_un q]; exact h3
    · rw [pk_un q]; exact h4
/-- a vector taken into a store -/
theorem gc_Scpy {e c : Nat} (he : e < 32) (hc : c < N) (HV : gc_V N RW vc) (H : gc_S RW st sv sa) : gc_S (gc_cp RW RW ((8 + c) * 10) ((16 + e) * 10) 10) (gc_cp st vc (c * 8) (e * 8) 8) (upd sv e 1) (upd sa e 0) := by
  obtain ⟨g1, _, g3, g4⟩ := HV c hc
  intro e' he'
  obtain ⟨h1, h2, h3, h4⟩ := H e' he'
  by_cases q : e' = e
  · subst q
    refine ⟨fun f hf => ?_, ?_, ?_, ?_⟩
    · rw [gc_cp_in (by omega), gc_cp_in hf]; exact g1 f hf
    · rw [gc_cp_in (by omega), pk_us]; exact g3
    · rw [gc_cp_in (by omega), pk_us]; exact g4
    · rw [pk_us]; exact Or.inr rfl
  · refine ⟨fun f hf => ?_, ?_, ?_, ?_⟩
    · rw [gc_cp_out (by omega), gc_cp_out (by omega)]; exact h1 f hf
    · rw [gc_cp_out (by omega), pk_un q]; exact h2
    · rw [gc_cp_out (by omega), pk_un q]; exact h3
    · rw [pk_un q]; exact h4
/-- a store's age set -/
theorem gc_Sage {e : Nat} (a : Int32) (he : e < 32) (H : gc_S RW st sv sa) : gc_S (upd RW ((16 + e) * 10 + 9) a) st sv (upd sa e a) := by
  intro e' he'
  obtain ⟨h1, h2, h3, h4⟩ := H e' he'
  by_cases q : e' = e
  · subst q
    refine ⟨fun f hf => ?_, ?_, ?_, h4⟩
    · rw [pk_un (by omega)]; exact h1 f hf
    · rw [pk_un (by omega)]; exact h2
    · rw [pk_us, pk_us]
  · refine ⟨fun f hf => ?_, ?_, ?_, h4⟩
    · rw [pk_un (by omega)]; exact h1 f hf
    · rw [pk_un (by omega)]; exact h2
    · rw [pk_un (by omega), pk_un q]; exact h3
/-- a clock that follows itself -/
theorem gc_Vown {c : Nat} (hN : N ≤ 8) (hc : c < N) (HD : gc_D N RW ds) (H : gc_V N RW vc) : gc_V N (gc_cp RW RW (c * 10) ((8 + c) * 10) 10) (upd (upd (gc_cp vc ds (c * 6) (c * 8) 6) (c * 8 + 6) 0) (c * 8 + 7) (nI c)) := by
  obtain ⟨g1, g2, g3, g4, g5⟩ := HD c hc
  intro c' hc'
  obtain ⟨h1, h2, h3, h4⟩ := H c' hc'
  by_cases q : c' = c
  · subst q
    refine ⟨fun f hf => ?_, ?_, ?_, ?_⟩
    · rw [gc_cp_in (by omega)]
      rcases (by omega : f < 6 ∨ f = 6 ∨ f = 7) with h | rfl | rfl
      · rw [pk_un (by omega), pk_un (by omega), gc_cp_in h]; exact g1 f h
      · rw [pk_un (by omega), pk_us]; exact g2
      · rw [pk_us]; exact g3
    · rw [gc_cp_in (by omega)]; exact g3
    · rw [gc_cp_in (by omega)]; exact g4
    · rw [gc_cp_in (by omega)]; exact g5
  · refine ⟨fun f hf => ?_, ?_, ?_, ?_⟩
    · rw [gc_cp_out (by omega), pk_un (by omega), pk_un (by omega), gc_cp_out (by omega)]; exact h1 f hf
    · rw [gc_cp_out (by omega)]; exact h2
    · rw [gc_cp_out (by omega)]; exact h3
    · rw [gc_cp_out (by omega)]; exact h4
/-- a clock's vector out of a store -/
def gc_fR (RW : Nat → Int32) (c b : Nat) : Nat → Int32 := upd (upd (upd (gc_cp RW RW ((16 + b) * 10) ((8 + c) * 10) 10) ((8 + c) * 10 + 6) (RW ((16 + b) * 10 + 6) + 1)) ((8 + c) * 10 + 7) (nI c)) ((8 + c) * 10 + 9) 0
def gc_fV (vc st : Nat → Int32) (c b : Nat) : Nat → Int32 := upd (upd (gc_cp vc st (b * 8) (c * 8) 6) (c * 8 + 6) (st (b * 8 + 6) + 1)) (c * 8 + 7) (nI c)
theorem gc_fRout {c b j : Nat} (h : j < (8 + c) * 10 ∨ (8 + c) * 10 + 10 ≤ j) : gc_fR RW c b j = RW j := by
  unfold gc_fR
  rw [pk_un (by omega), pk_un (by omega), pk_un (by omega), gc_cp_out (by omega)]
theorem gc_Vfol {c b : Nat} (hN : N ≤ 8) (hc : c < N) (hb : b < 32) (HS : gc_S RW st sv sa) (h1v : sv b = 1) (H : gc_V N RW vc) : gc_V N (gc_fR RW c b) (gc_fV vc st c b) := by
  obtain ⟨g1, g2, g3, g4⟩ := HS b hb
  intro c' hc'
  obtain ⟨h1, h2, h3, h4⟩ := H c' hc'
  by_cases q : c' = c
  · subst q
    refine ⟨fun f hf => ?_, ?_, ?_, ?_⟩
    · unfold gc_fR gc_fV
      rcases (by omega : f < 6 ∨ f = 6 ∨ f = 7) with h | rfl | rfl
      · rw [pk_un (by omega), pk_un (by omega), pk_un (by omega), gc_cp_in (by omega), pk_un (by omega), pk_un (by omega), gc_cp_in h]; exact g1 f hf
      · rw [pk_un (by omega), pk_un (by omega), pk_us, pk_un (by omega), pk_us, g1 6 (by omega)]
      · rw [pk_un (by omega), pk_us, pk_us]
    · unfold gc_fR
      rw [pk_un (by omega), pk_us]
    · unfold gc_fR
      rw [pk_un (by omega), pk_un (by omega), pk_un (by omega), gc_cp_in (by omega), g2]; exact h1v
    · unfold gc_fR
      rw [pk_us]
  · refine ⟨fun f hf => ?_, ?_, ?_, ?_⟩
    · rw [gc_fRout (by omega)]
      unfold gc_fV
      rw [pk_un (by omega), pk_un (by omega), gc_cp_out (by omega)]; exact h1 f hf
    · rw [gc_fRout (by omega)]; exact h2
    · rw [gc_fRout (by omega)]; exact h3
    · rw [gc_fRout (by omega)]; exact h4
end
/-- the ends of clock c that are up, below i, given the state p of their own -/
def gc_fol (ec lu es p : Nat → Int32) (c i : Nat) : Nat → Int32 := fun e => if e < i ∧ ec e = nI c ∧ ¬ lu (e / 2) = 0 then p e else es e
theorem gc_fol0 (ec lu es p : Nat → Int32) (c : Nat) : gc_fol ec lu es p c 0 = es := by
  funext e
  exact if_neg (fun h => absurd h.1 (by omega))
theorem gc_folT {ec lu es p : Nat → Int32} {c i : Nat} (h : ec i = nI c) (h2 : ¬ lu (i / 2) = 0) : upd (gc_fol ec lu es p c i) i (p i) = gc_fol ec lu es p c (i + 1) := by
  funext e
  by_cases q : e = i
  · subst q
    rw [pk_us]
    exact (if_pos ⟨by omega, h, h2⟩).symm
  · rw [pk_un q]
    simp only [gc_fol]
    by_cases r : e < i
    · simp only [r, (by omega : e < i + 1), true_and]
    · rw [if_neg (fun z => r z.1), if_neg (fun z => absurd z.1 (by omega))]
theorem gc_folF {ec lu es p : Nat → Int32} {c i : Nat} (h : ¬ (ec i = nI c ∧ ¬ lu (i / 2) = 0)) : gc_fol ec lu es p c i = gc_fol ec lu es p c (i + 1) := by
  funext e
  by_cases q : e = i
  · subst q
    simp only [gc_fol]
    rw [if_neg (fun z => absurd z.1 (by omega)), if_neg (fun z => h z.2)]
  · simp only [gc_fol]
    by_cases r : e < i
    · simp only [r, (by omega : e < i + 1), true_and]
    · rw [if_neg (fun z => r z.1), if_neg (fun z => absurd z.1 (by omega))]
/-- the end that is followed, written last or in its turn -/
theorem gc_folB {ec lu es p q : Nat → Int32} {c i b : Nat} (hb : b < i) (h : ec b = nI c) (h2 : ¬ lu (b / 2) = 0) (hq : q b = 2) (hn : ∀ e, e ≠ b → q e = p e) : upd (gc_fol ec lu es p c i) b 2 = gc_fol ec lu es q c i := by
  funext e
  by_cases z : e = b
  · subst z
    rw [pk_us]
    exact (Eq.trans (if_pos ⟨hb, h, h2⟩) hq).symm
  · rw [pk_un z]
    simp only [gc_fol]
    rw [hn e z]
section
variable {ms off dl t1 t2 t3 t4 aj ig ct : Nat → Int64}
theorem gc_M0 {c : Nat} {v : Int64} (hc : c < 8) (H : gc_M ms off dl t1 t2 t3 t4 aj ig ct) : gc_M (vp_updL ms (c * 9 + 0) v) (vp_updL off c v) dl t1 t2 t3 t4 aj ig ct := by
  intro c' hc'
  obtain ⟨h0, h1, h2, h3, h4, h5, h6, h7, h8⟩ := H c' hc'
  by_cases q : c' = c
  · subst q
    refine ⟨?_, ?_, ?_, ?_, ?_, ?_, ?_, ?_, ?_⟩
    · rw [pk_uLs, pk_uLs]
    · rw [pk_uLn (by omega)]; exact h1
    · rw [pk_uLn (by omega)]; exact h2
    · rw [pk_uLn (by omega)]; exact h3
    · rw [pk_uLn (by omega)]; exact h4
    · rw [pk_uLn (by omega)]; exact h5
    · rw [pk_uLn (by omega)]; exact h6
    · rw [pk_uLn (by omega)]; exact h7
    · rw [pk_uLn (by omega)]; exact h8
  · refine ⟨?_, ?_, ?_, ?_, ?_, ?_, ?_, ?_, ?_⟩
    · rw [pk_uLn (by omega), pk_uLn q]; exact h0
    · rw [pk_uLn (by omega)]; exact h1
    · rw [pk_uLn (by omega)]; exact h2
    · rw [pk_uLn (by omega)]; exact h3
    · rw [pk_uLn (by omega)]; exact h4
    · rw [pk_uLn (by omega)]; exact h5
    · rw [pk_uLn (by omega)]; exact h6
    · rw [pk_uLn (by omega)]; exact h7
    · rw [pk_uLn (by omega)]; exact h8
theorem gc_M1 {c : Nat} {v : Int64} (hc : c < 8) (H : gc_M ms off dl t1 t2 t3 t4 aj ig ct) : gc_M (vp_updL ms (c * 9 + 1) v) off (vp_updL dl c v) t1 t2 t3 t4 aj ig ct := by
  intro c' hc'
  obtain ⟨h0, h1, h2, h3, h4, h5, h6, h7, h8⟩ := H c' hc'
  by_cases q : c' = c
  · subst q
    refine ⟨?_, ?_, ?_, ?_, ?_, ?_, ?_, ?_, ?_⟩
    · rw [pk_uLn (by omega)]; exact h0
    · rw [pk_uLs, pk_uLs]
    · rw [pk_uLn (by omega)]; exact h2
    · rw [pk_uLn (by omega)]; exact h3
    · rw [pk_uLn (by omega)]; exact h4
    · rw [pk_uLn (by omega)]; exact h5
    · rw [pk_uLn (by omega)]; exact h6
    · rw [pk_uLn (by omega)]; exact h7
    · rw [pk_uLn (by omega)]; exact h8
  · refine ⟨?_, ?_, ?_, ?_, ?_, ?_, ?_, ?_, ?_⟩
    · rw [pk_uLn (by omega)]; exact h0
    · rw [pk_uLn (by omega), pk_uLn q]; exact h1
    · rw [pk_uLn (by omega)]; exact h2
    · rw [pk_uLn (by omega)]; exact h3
    · rw [pk_uLn (by omega)]; exact h4
    · rw [pk_uLn (by omega)]; exact h5
    · rw [pk_uLn (by omega)]; exact h6
    · rw [pk_uLn (by omega)]; exact h7
    · rw [pk_uLn (by omega)]; exact h8
theorem gc_M2 {c : Nat} {v : Int64} (hc : c < 8) (H : gc_M ms off dl t1 t2 t3 t4 aj ig ct) : gc_M (vp_updL ms (c * 9 + 2) v) off dl (vp_updL t1 c v) t2 t3 t4 aj ig ct := by
  intro c' hc'
  obtain ⟨h0, h1, h2, h3, h4, h5, h6, h7, h8⟩ := H c' hc'
  by_cases q : c' = c
  · subst q
    refine ⟨?_, ?_, ?_, ?_, ?_, ?_, ?_, ?_, ?_⟩
    · rw [pk_uLn (by omega)]; exact h0
    · rw [pk_uLn (by omega)]; exact h1
    · rw [pk_uLs, pk_uLs]
    · rw [pk_uLn (by omega)]; exact h3
    · rw [pk_uLn (by omega)]; exact h4
    · rw [pk_uLn (by omega)]; exact h5
    · rw [pk_uLn (by omega)]; exact h6
    · rw [pk_uLn (by omega)]; exact h7
    · rw [pk_uLn (by omega)]; exact h8
  · refine ⟨?_, ?_, ?_, ?_, ?_, ?_, ?_, ?_, ?_⟩
    · rw [pk_uLn (by omega)]; exact h0
    · rw [pk_uLn (by omega)]; exact h1
    · rw [pk_uLn (by omega), pk_uLn q]; exact h2
    · rw [pk_uLn (by omega)]; exact h3
    · rw [pk_uLn (by omega)]; exact h4
    · rw [pk_uLn (by omega)]; exact h5
    · rw [pk_uLn (by omega)]; exact h6
    · rw [pk_uLn (by omega)]; exact h7
    · rw [pk_uLn (by omega)]; exact h8
theorem gc_M3 {c : Nat} {v : Int64} (hc : c < 8) (H : gc_M ms off dl t1 t2 t3 t4 aj ig ct) : gc_M (vp_updL ms (c * 9 + 3) v) off dl t1 (vp_updL t2 c v) t3 t4 aj ig ct := by
  intro c' hc'
  obtain ⟨h0, h1, h2, h3, h4, h5, h6, h7, h8⟩ := H c' hc'
  by_cases q : c' = c
  · subst q
    refine ⟨?_, ?_, ?_, ?_, ?_, ?_, ?_, ?_, ?_⟩
    · rw [pk_uLn (by omega)]; exact h0
    · rw [pk_uLn (by omega)]; exact h1
    · rw [pk_uLn (by omega)]; exact h2
    · rw [pk_uLs, pk_uLs]
    · rw [pk_uLn (by omega)]; exact h4
    · rw [pk_uLn (by omega)]; exact h5
    · rw [pk_uLn (by omega)]; exact h6
    · rw [pk_uLn (by omega)]; exact h7
    · rw [pk_uLn (by omega)]; exact h8
  · refine ⟨?_, ?_, ?_, ?_, ?_, ?_, ?_, ?_, ?_⟩
    · rw [pk_uLn (by omega)]; exact h0
    · rw [pk_uLn (by omega)]; exact h1
    · rw [pk_uLn (by omega)]; exact h2
    · rw [pk_uLn (by omega), pk_uLn q]; exact h3
    · rw [pk_uLn (by omega)]; exact h4
    · rw [pk_uLn (by omega)]; exact h5
    · rw [pk_uLn (by omega)]; exact h6
    · rw [pk_uLn (by omega)]; exact h7
    · rw [pk_uLn (by omega)]; exact h8
theorem gc_M4 {c : Nat} {v : Int64} (hc : c < 8) (H : gc_M ms off dl t1 t2 t3 t4 aj ig ct) : gc_M (vp_updL ms (c * 9 + 4) v) off dl t1 t2 (vp_updL t3 c v) t4 aj ig ct := by
  intro c' hc'
  obtain ⟨h0, h1, h2, h3, h4, h5, h6, h7, h8⟩ := H c' hc'
  by_cases q : c' = c
  · subst q
    refine ⟨?_, ?_, ?_, ?_, ?_, ?_, ?_, ?_, ?_⟩
    · rw [pk_uLn (by omega)]; exact h0
    · rw [pk_uLn (by omega)]; exact h1
    · rw [pk_uLn (by omega)]; exact h2
    · rw [pk_uLn (by omega)]; exact h3
    · rw [pk_uLs, pk_uLs]
    · rw [pk_uLn (by omega)]; exact h5
    · rw [pk_uLn (by omega)]; exact h6
    · rw [pk_uLn (by omega)]; exact h7
    · rw [pk_uLn (by omega)]; exact h8
  · refine ⟨?_, ?_, ?_, ?_, ?_, ?_, ?_, ?_, ?_⟩
    · rw [pk_uLn (by omega)]; exact h0
    · rw [pk_uLn (by omega)]; exact h1
    · rw [pk_uLn (by omega)]; exact h2
    · rw [pk_uLn (by omega)]; exact h3
    · rw [pk_uLn (by omega), pk_uLn q]; exact h4
    · rw [pk_uLn (by omega)]; exact h5
    · rw [pk_uLn (by omega)]; exact h6
    · rw [pk_uLn (by omega)]; exact h7
    · rw [pk_uLn (by omega)]; exact h8
theorem gc_M5 {c : Nat} {v : Int64} (hc : c < 8) (H : gc_M ms off dl t1 t2 t3 t4 aj ig ct) : gc_M (vp_updL ms (c * 9 + 5) v) off dl t1 t2 t3 (vp_updL t4 c v) aj ig ct := by
  intro c' hc'
  obtain ⟨h0, h1, h2, h3, h4, h5, h6, h7, h8⟩ := H c' hc'
  by_cases q : c' = c
  · subst q
    refine ⟨?_, ?_, ?_, ?_, ?_, ?_, ?_, ?_, ?_⟩
    · rw [pk_uLn (by omega)]; exact h0
    · rw [pk_uLn (by omega)]; exact h1
    · rw [pk_uLn (by omega)]; exact h2
    · rw [pk_uLn (by omega)]; exact h3
    · rw [pk_uLn (by omega)]; exact h4
    · rw [pk_uLs, pk_uLs]
    · rw [pk_uLn (by omega)]; exact h6
    · rw [pk_uLn (by omega)]; exact h7
    · rw [pk_uLn (by omega)]; exact h8
  · refine ⟨?_, ?_, ?_, ?_, ?_, ?_, ?_, ?_, ?_⟩
    · rw [pk_uLn (by omega)]; exact h0
    · rw [pk_uLn (by omega)]; exact h1
    · rw [pk_uLn (by omega)]; exact h2
    · rw [pk_uLn (by omega)]; exact h3
    · rw [pk_uLn (by omega)]; exact h4
    · rw [pk_uLn (by omega), pk_uLn q]; exact h5
    · rw [pk_uLn (by omega)]; exact h6
    · rw [pk_uLn (by omega)]; exact h7
    · rw [pk_uLn (by omega)]; exact h8
theorem gc_M6 {c : Nat} {v : Int64} (hc : c < 8) (H : gc_M ms off dl t1 t2 t3 t4 aj ig ct) : gc_M (vp_updL ms (c * 9 + 6) v) off dl t1 t2 t3 t4 (vp_updL aj c v) ig ct := by
  intro c' hc'
  obtain ⟨h0, h1, h2, h3, h4, h5, h6, h7, h8⟩ := H c' hc'
  by_cases q : c' = c
  · subst q
    refine ⟨?_, ?_, ?_, ?_, ?_, ?_, ?_, ?_, ?_⟩
    · rw [pk_uLn (by omega)]; exact h0
    · rw [pk_uLn (by omega)]; exact h1
    · rw [pk_uLn (by omega)]; exact h2
    · rw [pk_uLn (by omega)]; exact h3
    · rw [pk_uLn (by omega)]; exact h4
    · rw [pk_uLn (by omega)]; exact h5
    · rw [pk_uLs, pk_uLs]
    · rw [pk_uLn (by omega)]; exact h7
    · rw [pk_uLn (by omega)]; exact h8
  · refine ⟨?_, ?_, ?_, ?_, ?_, ?_, ?_, ?_, ?_⟩
    · rw [pk_uLn (by omega)]; exact h0
    · rw [pk_uLn (by omega)]; exact h1
    · rw [pk_uLn (by omega)]; exact h2
    · rw [pk_uLn (by omega)]; exact h3
    · rw [pk_uLn (by omega)]; exact h4
    · rw [pk_uLn (by omega)]; exact h5
    · rw [pk_uLn (by omega), pk_uLn q]; exact h6
    · rw [pk_uLn (by omega)]; exact h7
    · rw [pk_uLn (by omega)]; exact h8
theorem gc_M7 {c : Nat} {v : Int64} (hc : c < 8) (H : gc_M ms off dl t1 t2 t3 t4 aj ig ct) : gc_M (vp_updL ms (c * 9 + 7) v) off dl t1 t2 t3 t4 aj (vp_updL ig c v) ct := by
  intro c' hc'
  obtain ⟨h0, h1, h2, h3, h4, h5, h6, h7, h8⟩ := H c' hc'
  by_cases q : c' = c
  · subst q
    refine ⟨?_, ?_, ?_, ?_, ?_, ?_, ?_, ?_, ?_⟩
    · rw [pk_uLn (by omega)]; exact h0
    · rw [pk_uLn (by omega)]; exact h1
    · rw [pk_uLn (by omega)]; exact h2
    · rw [pk_uLn (by omega)]; exact h3
    · rw [pk_uLn (by omega)]; exact h4
    · rw [pk_uLn (by omega)]; exact h5
    · rw [pk_uLn (by omega)]; exact h6
    · rw [pk_uLs, pk_uLs]
    · rw [pk_uLn (by omega)]; exact h8
  · refine ⟨?_, ?_, ?_, ?_, ?_, ?_, ?_, ?_, ?_⟩
    · rw [pk_uLn (by omega)]; exact h0
    · rw [pk_uLn (by omega)]; exact h1
    · rw [pk_uLn (by omega)]; exact h2
    · rw [pk_uLn (by omega)]; exact h3
    · rw [pk_uLn (by omega)]; exact h4
    · rw [pk_uLn (by omega)]; exact h5
    · rw [pk_uLn (by omega)]; exact h6
    · rw [pk_uLn (by omega), pk_uLn q]; exact h7
    · rw [pk_uLn (by omega)]; exact h8
theorem gc_M8 {c : Nat} {v : Int64} (hc : c < 8) (H : gc_M ms off dl t1 t2 t3 t4 aj ig ct) : gc_M (vp_updL ms (c * 9 + 8) v) off dl t1 t2 t3 t4 aj ig (vp_updL ct c v) := by
  intro c' hc'
  obtain ⟨h0, h1, h2, h3, h4, h5, h6, h7, h8⟩ := H c' hc'
  by_cases q : c' = c
  · subst q
    refine ⟨?_, ?_, ?_, ?_, ?_, ?_, ?_, ?_, ?_⟩
    · rw [pk_uLn (by omega)]; exact h0
    · rw [pk_uLn (by omega)]; exact h1
    · rw [pk_uLn (by omega)]; exact h2
    · rw [pk_uLn (by omega)]; exact h3
    · rw [pk_uLn (by omega)]; exact h4
    · rw [pk_uLn (by omega)]; exact h5
    · rw [pk_uLn (by omega)]; exact h6
    · rw [pk_uLn (by omega)]; exact h7
    · rw [pk_uLs, pk_uLs]
  · refine ⟨?_, ?_, ?_, ?_, ?_, ?_, ?_, ?_, ?_⟩
    · rw [pk_uLn (by omega)]; exact h0
    · rw [pk_uLn (by omega)]; exact h1
    · rw [pk_uLn (by omega)]; exact h2
    · rw [pk_uLn (by omega)]; exact h3
    · rw [pk_uLn (by omega)]; exact h4
    · rw [pk_uLn (by omega)]; exact h5
    · rw [pk_uLn (by omega)]; exact h6
    · rw [pk_uLn (by omega)]; exact h7
    · rw [pk_uLn (by omega), pk_uLn q]; exact h8
end
end
section
/-! the component's own walks as pure pictures -/
def gc_ot (e : Nat) : Nat := if e % 2 = 0 then e + 1 else e - 1
theorem gc_ot0 (l : Nat) : gc_ot (2 * l) = 2 * l + 1 := if_pos (by omega)
theorem gc_ot1 (l : Nat) : gc_ot (2 * l + 1) = 2 * l := if_neg (by omega)
theorem gc_otx : ∀ e, e < 32 → e ^^^ 1 = gc_ot e := by decide
theorem gc_otlt {e n : Nat} (h : e < 2 * n) : gc_ot e < 2 * n := by
  unfold gc_ot
  split <;> omega
/-! indices: literals against nI -/
theorem ix_m6 (a : Nat) : nI a * 6 = nI (a * 6) := pk_mul a 6
theorem ix_m8 (a : Nat) : nI a * 8 = nI (a * 8) := pk_mul a 8
theorem ix_m9 (a : Nat) : nI a * 9 = nI (a * 9) := pk_mul a 9
theorem ix_m10 (a : Nat) : nI a * 10 = nI (a * 10) := pk_mul a 10
theorem ix_m2 (a : Nat) : nI a * 2 = nI (a * 2) := pk_mul a 2
theorem ix_2m (a : Nat) : 2 * nI a = nI (2 * a) := pk_mul 2 a
theorem ix_8a (a : Nat) : 8 + nI a = nI (8 + a) := nI_add 8 a
theorem ix_16a (a : Nat) : 16 + nI a = nI (16 + a) := nI_add 16 a
theorem ix_a0 (a : Nat) : nI a + 0 = nI (a + 0) := nI_add a 0
theorem ix_a1 (a : Nat) : nI a + 1 = nI (a + 1) := nI_add a 1
theorem ix_a2 (a : Nat) : nI a + 2 = nI (a + 2) := nI_add a 2
theorem ix_a3 (a : Nat) : nI a + 3 = nI (a + 3) := nI_add a 3
theorem ix_a4 (a : Nat) : nI a + 4 = nI (a + 4) := nI_add a 4
theorem ix_a5 (a : Nat) : nI a + 5 = nI (a + 5) := nI_add a 5
theorem ix_a6 (a : Nat) : nI a + 6 = nI (a + 6) := nI_add a 6
theorem ix_a7 (a : Nat) : nI a + 7 = nI (a + 7) := nI_add a 7
theorem ix_a8 (a : Nat) : nI a + 8 = nI (a + 8) := nI_add a 8
theorem ix_a9 (a : Nat) : nI a + 9 = nI (a + 9) := nI_add a 9
theorem ix_d2 {e : Nat} (h : e < 2 ^ 31) : nI e / 2 = nI (e / 2) := pk_div (d := 2) h (by decide) (by decide)
theorem ix_x1 {e : Nat} (h : e < 32) : nI e ^^^ 1 = nI (gc_ot e) := by
  rw [← gc_otx e h]
  exact nx_xor e 1
theorem ix_s1 {e : Nat} (h : e < 2 ^ 31) : nI e >>> ((1 : Int32) &&& 31) = nI (e / 2) := pk_shrN h _ 1 (by decide)
theorem ix_n1 {e : Nat} (h : e < 2 ^ 32) : nI e &&& 1 = nI (e % 2) := pk_andN h 1 (by decide)
theorem ix_no {x : Int32} {n j : Nat} (hn : n < 2 ^ 31) (h : x < 0 ∨ nI n ≤ x) (hj : j < n) : ¬ x = nI j := by
  intro e
  subst e
  rcases h with h | h
  · exact nI_pos (by omega) h
  · exact nI_ge hj hn h
theorem ix_b {x : Int32} (h : x = 0 ∨ x = 1) : narrow .boolean (.int x) = .int x := by rcases h with rfl | rfl <;> rfl
theorem ix_v {x : Int32} (h : x = 0 ∨ x = 1) : vp_nar .boolean x = x := by rcases h with rfl | rfl <;> rfl
def gc_en : Option Nat → Int32
  | none => -1
  | some e => nI e
/-- the end of clock c on link x -/
def gs_end (L : Nat) (ec : Nat → Int32) (c : Nat) (x : Int32) : Option Nat :=
  if x < 0 ∨ nI L ≤ x then none else if ec (2 * x.toNatClampNeg) = nI c then some (2 * x.toNatClampNeg) else if ec (2 * x.toNatClampNeg + 1) = nI c then some (2 * x.toNatClampNeg + 1) else none
/-- the measures of clock c, written at end e -/
def gs_ms (ec ed : Nat → Int32) (ti ms : Nat → Int64) (c e : Nat) : Nat → Int64 :=
  let T := ti (ec (gc_ot e)).toNatClampNeg
  let t2 := ti c + (ed (gc_ot e)).toInt64
  let t4 := T + (ed (gc_ot e)).toInt64 + (ed e).toInt64
  let m6 := vp_updL (vp_updL (vp_updL (vp_updL (vp_updL (vp_updL ms (c * 9 + 0) (((t2 - T) - (t4 - t2)) / 2)) (c * 9 + 1) (((t2 - T) + (t4 - t2)) / 2)) (c * 9 + 2) T) (c * 9 + 3) t2) (c * 9 + 4) t2) (c * 9 + 5) t4
  vp_updL m6 (c * 9 + 8) (m6 (c * 9 + 8) + 1)
def gs_meas (L : Nat) (pl lu ec es ed : Nat → Int32) (ti : Nat → Int64) (c : Nat) (s : (Nat → Int32) × (Nat → Int64)) : (Nat → Int32) × (Nat → Int64) :=
  match gs_end L ec c (pl c) with
  | none => (upd s.1 c 0, s.2)
  | some e => if ¬ lu (e / 2) = 0 ∧ es e = 2 ∧ es (gc_ot e) = 1 then (upd s.1 c 1, gs_ms ec ed ti s.2 c e) else (upd s.1 c 0, s.2)
def gs_steer (md : Nat → Int32) (c : Nat) (s : (Nat → Int64) × (Nat → Int64)) : (Nat → Int64) × (Nat → Int64) :=
  if md c = 0 then s else
  if 1000000 < s.2 (c * 9 + 0) ∨ s.2 (c * 9 + 0) < -1000000 then (vp_updL s.1 c (s.1 c - s.2 (c * 9 + 0)), s.2) else
  let g := gc_clL (s.2 (c * 9 + 7) - s.2 (c * 9 + 0) / 8) (-500000) 500000
  (s.1, vp_updL (vp_updL s.2 (c * 9 + 7) g) (c * 9 + 6) (gc_clL (g - s.2 (c * 9 + 0) / 2) (-500000) 500000))
def gs_adv (dr : Nat → Int32) (ms : Nat → Int64) (c : Nat) (ti : Nat → Int64) : Nat → Int64 :=
  vp_updL ti c (ti c + 1000000000 + (dr c).toInt64 + ms (c * 9 + 6))
def gs_age (tm : Int32) (e : Nat) (RW : Nat → Int32) : Nat → Int32 :=
  if RW ((16 + e) * 10 + 8) = 0 then RW else
  if RW ((16 + e) * 10 + 9) + 1 = tm then gc_cp (upd RW ((16 + e) * 10 + 9) (RW ((16 + e) * 10 + 9) + 1)) gc_z 0 ((16 + e) * 10) 10 else upd RW ((16 + e) * 10 + 9) (RW ((16 + e) * 10 + 9) + 1)
def gs_listen (tm : Int32) (lu ec es : Nat → Int32) (e : Nat) (RW : Nat → Int32) : Nat → Int32 :=
  if lu (e / 2) = 0 then RW else
  if es (gc_ot e) = 1 ∧ RW ((8 + (ec (gc_ot e)).toNatClampNeg) * 10 + 6) ≤ 6 ∧ ¬ RW ((8 + (ec (gc_ot e)).toNatClampNeg) * 10 + 5) = ec e then gc_cp RW RW ((8 + (ec (gc_ot e)).toNatClampNeg) * 10) ((16 + e) * 10) 10 else gs_age tm e RW
/-- the comparison of two rows -/
def gs_cmp (RW : Nat → Int32) (x y k : Nat) : Int32 := gc_cmp (fun f => RW (x + f)) (fun f => RW (y + f)) k 0
def gs_bs (lu ec RW : Nat → Int32) (c i : Nat) (b : Option Nat) : Option Nat :=
  if ec i = nI c ∧ ¬ lu (i / 2) = 0 ∧ RW ((16 + i) * 10 + 8) = 1 then
    match b with
    | none => some i
    | some j => if gs_cmp RW ((16 + i) * 10) ((16 + j) * 10) 8 < 0 then some i else some j
  else b
def gs_it {σ : Type} (f : Nat → σ → σ) : Nat → Nat → σ → σ
  | 0, _, s => s
  | k + 1, i, s => gs_it f k (i + 1) (f i s)
def gs_best (L : Nat) (lu ec RW : Nat → Int32) (c : Nat) : Option Nat := gs_it (gs_bs lu ec RW c) (2 * L) 0 none
/-- the best end is an end of clock c that is up and whose store is valid -/
def gs_okb (L : Nat) (lu ec RW : Nat → Int32) (c : Nat) : Option Nat → Prop
  | none => True
  | some e => e < 2 * L ∧ ec e = nI c ∧ ¬ lu (e / 2) = 0 ∧ RW ((16 + e) * 10 + 8) = 1
theorem gs_bs_ok {L : Nat} {lu ec RW : Nat → Int32} {c i : Nat} {b : Option Nat} (hi : i < 2 * L) (h : gs_okb L lu ec RW c b) : gs_okb L lu ec RW c (gs_bs lu ec RW c i b) := by
  unfold gs_bs
  by_cases q : ec i = nI c ∧ ¬ lu (i / 2) = 0 ∧ RW ((16 + i) * 10 + 8) = 1
  · rw [if_pos q]
    cases b with
    | none => exact ⟨hi, q⟩
    | some j =>
      dsimp only
      split
      · exact ⟨hi, q⟩
      · exact h
  · rw [if_neg q]; exact h
theorem gs_it_ok {σ : Type} (f : Nat → σ → σ) (P : σ → Prop) (n : Nat) (hf : ∀ i s, i < n → P s → P (f i s)) : ∀ k i s, i + k ≤ n → P s → P (gs_it f k i s)
  | 0, _, _, _, h => h
  | k + 1, i, s, hk, h => gs_it_ok f P n hf k (i + 1) (f i s) (by omega) (hf i s (by omega) h)
theorem gs_best_ok {L : Nat} {lu ec RW : Nat → Int32} {c : Nat} : gs_okb L lu ec RW c (gs_best L lu ec RW c) :=
  gs_it_ok _ (gs_okb L lu ec RW c) (2 * L) (fun _ _ hi h => gs_bs_ok hi h) (2 * L) 0 none (by omega) trivial
/-- what chooseMaster changes: rows, parent, parent link, states -/
def gs_self (L : Nat) (lu ec : Nat → Int32) (c : Nat) (RW pa pl es : Nat → Int32) : (Nat → Int32) × (Nat → Int32) × (Nat → Int32) × (Nat → Int32) :=
  (gc_cp RW RW (c * 10) ((8 + c) * 10) 10, upd pa c (-1), upd pl c (-1), gc_fol ec lu es (fun _ => 1) c (2 * L))
def gs_pst (RW : Nat → Int32) (c e : Nat) : Int32 := if RW ((16 + e) * 10 + 8) = 1 ∧ gs_cmp RW ((16 + e) * 10) ((8 + c) * 10) 8 < 0 then 3 else 1
def gs_foll (L : Nat) (lu ec : Nat → Int32) (c b : Nat) (RW pa pl es : Nat → Int32) : (Nat → Int32) × (Nat → Int32) × (Nat → Int32) × (Nat → Int32) :=
  (gc_fR RW c b, upd pa c (RW ((16 + b) * 10 + 7)), upd pl c (nI (b / 2)), upd (gc_fol ec lu es (gs_pst (gc_fR RW c b) c) c (2 * L)) b 2)
def gs_choose (L : Nat) (lu ec : Nat → Int32) (c : Nat) (s : (Nat → Int32) × (Nat → Int32) × (Nat → Int32) × (Nat → Int32)) : (Nat → Int32) × (Nat → Int32) × (Nat → Int32) × (Nat → Int32) :=
  match gs_best L lu ec s.1 c with
  | none => gs_self L lu ec c s.1 s.2.1 s.2.2.1 s.2.2.2
  | some b => if gs_cmp s.1 (c * 10) ((16 + b) * 10) 6 < 0 then gs_self L lu ec c s.1 s.2.1 s.2.2.1 s.2.2.2 else gs_foll L lu ec c b s.1 s.2.1 s.2.2.1 s.2.2.2
end
section
/-! the component's small methods -/
abbrev gx (N C L : Nat) (tm : Int32) (RW dr : Nat → Int32) (ti : Nat → Int64) (pa pl : Nat → Int32) (ms : Nat → Int64) (md lu ec es ed : Nat → Int32) : St2 := (nI N, nI C, tm, nI L, RW, dr, ti, pa, pl, ms, md, lu, ec, es, ed)
/-- what stays as it is through a step -/
def gx_ok (N L : Nat) (lu ec : Nat → Int32) : Prop := 2 ≤ N ∧ N ≤ 8 ∧ L ≤ 16 ∧ (∀ l, lu l = 0 ∨ lu l = 1) ∧ ∀ e, e < 2 * L → ∃ j, j < N ∧ ec e = nI j
theorem x_clamp {post : Int32 → Prop} {v lo hi : Int32} (h : post (gc_cl v lo hi)) : wpX_clamp post () v lo hi := by
  unfold gc_cl at h
  by_cases h1 : v < lo
  · rw [if_pos h1] at h
    exact br_f (Int32.not_le.mpr h1) h
  · rw [if_neg h1] at h
    refine br_t (Int32.not_lt.mp h1) ?_
    by_cases h2 : hi < v
    · rw [if_pos h2] at h
      exact br_f (Int32.not_le.mpr h2) h
    · rw [if_neg h2] at h
      exact br_t (Int32.not_lt.mp h2) h
theorem x_clampL {post : Int64 → Prop} {v lo hi : Int64} (h : post (gc_clL v lo hi)) : wpX_clampLong post () v lo hi := by
  unfold gc_clL at h
  by_cases h1 : v < lo
  · rw [if_pos h1] at h
    exact br_f (Int64.not_le.mpr h1) h
  · rw [if_neg h1] at h
    refine br_t (Int64.not_lt.mp h1) ?_
    by_cases h2 : hi < v
    · rw [if_pos h2] at h
      exact br_f (Int64.not_le.mpr h2) h
    · rw [if_neg h2] at h
      exact br_t (Int64.not_lt.mp h2) h
theorem x_firstEnd {post : Int32 → Prop} {l : Nat} (h : post (nI (2 * l))) : wpX_firstEnd post () (nI l) := by
  unfold wpX_firstEnd
  rw [ix_2m]
  exact h
theorem x_otherEnd {post : Int32 → Prop} {e : Nat} (he : e < 32) (h : post (nI (gc_ot e))) : wpX_otherEnd post () (nI e) := by
  unfold wpX_otherEnd
  rw [ix_x1 he]
  exact h
theorem x_linkOf {post : Int32 → Prop} {e : Nat} (he : e < 32) (h : post (nI (e / 2))) : wpX_linkOf post () (nI e) := by
  unfold wpX_linkOf
  rw [ix_d2 (by omega)]
  exact ⟨by decide, h⟩
theorem x_datasetRow {post : Int32 → Prop} {c : Nat} (h : post (nI (c * 10))) : wpX_datasetRow post () (nI c) := by
  unfold wpX_datasetRow
  rw [ix_m10]
  exact h
theorem x_vectorRow {post : Int32 → Prop} {c : Nat} (h : post (nI ((8 + c) * 10))) : wpX_vectorRow post () (nI c) := by
  unfold wpX_vectorRow
  rw [ix_8a, ix_m10]
  exact h
theorem x_storeRow {post : Int32 → Prop} {e : Nat} (h : post (nI ((16 + e) * 10))) : wpX_storeRow post () (nI e) := by
  unfold wpX_storeRow
  rw [ix_16a, ix_m10]
  exact h
theorem x_measureRow {post : Int32 → Prop} {c : Nat} (h : post (nI (c * 9))) : wpX_measureRow post () (nI c) := by
  unfold wpX_measureRow
  rw [ix_m9]
  exact h
section
variable {N C L : Nat} {tm : Int32} {RW dr pa pl md lu ec es ed : Nat → Int32} {ti ms : Nat → Int64}
theorem x_isClock_t {post : Int32 → Prop} {c : Nat} (hN : N ≤ 8) (hc : c < N) (h : post 1) : wpX_isClock post (gx N C L tm RW dr ti pa pl ms md lu ec es ed) (nI c) :=
  br_f (nI_pos (by omega)) (br_f (nI_ge hc (by omega)) h)
theorem x_isClock_f {post : Int32 → Prop} {x : Int32} (hx : x < 0 ∨ nI N ≤ x) (h : post 0) : wpX_isClock post (gx N C L tm RW dr ti pa pl ms md lu ec es ed) x := by
  by_cases q : x < 0
  · exact br_t q h
  · exact br_f q (br_t (hx.resolve_left q) h)
theorem x_isLink_t {post : Int32 → Prop} {l : Nat} (hL : L ≤ 16) (hl : l < L) (h : post 1) : wpX_isLink post (gx N C L tm RW dr ti pa pl ms md lu ec es ed) (nI l) :=
  br_f (nI_pos (by omega)) (br_f (nI_ge hl (by omega)) h)
theorem x_isLink_f {post : Int32 → Prop} {x : Int32} (hx : x < 0 ∨ nI L ≤ x) (h : post 0) : wpX_isLink post (gx N C L tm RW dr ti pa pl ms md lu ec es ed) x := by
  by_cases q : x < 0
  · exact br_t q h
  · exact br_f q (br_t (hx.resolve_left q) h)
theorem x_endOf_f {post : Int32 → Prop} {x y : Int32} (hx : x < 0 ∨ nI N ≤ x) (h : post (-1)) : wpX_endOf post (gx N C L tm RW dr ti pa pl ms md lu ec es ed) x y := by
  unfold wpX_endOf
  dsimp only
  exact x_isClock_f hx (br_t rfl h)
theorem x_endOf {post : Int32 → Prop} {c : Nat} {x : Int32} (K : gx_ok N L lu ec) (hc : c < N) (h : post (gc_en (gs_end L ec c x))) : wpX_endOf post (gx N C L tm RW dr ti pa pl ms md lu ec es ed) (nI c) x := by
  obtain ⟨_, hN, hL, _, _⟩ := K
  unfold wpX_endOf
  dsimp only
  refine x_isClock_t hN hc (br_f (by decide) ?_)
  unfold gs_end at h
  rcases pk_ix x (n := L) (by omega) with hx | hx | ⟨l, hl, rfl⟩
  · rw [if_pos (Or.inl hx)] at h
    exact x_isLink_f (Or.inl hx) (br_t rfl h)
  · rw [if_pos (Or.inr hx)] at h
    exact x_isLink_f (Or.inr hx) (br_t rfl h)
  · rw [if_neg (fun z => z.elim (nI_pos (by omega)) (nI_ge hl (by omega))), nI_clamp (by omega)] at h
    refine x_isLink_t hL hl (br_f (by decide) ?_)
    refine x_firstEnd ?_
    refine x_otherEnd (by omega) ?_
    rw [gc_ot0]
    refine ⟨vp_in_nI (by omega) (by omega), ?_⟩
    rw [nI_clamp (by omega)]
    by_cases q : ec (2 * l) = nI c
    · rw [if_pos q] at h
      exact br_t q h
    · rw [if_neg q] at h
      refine br_f q ⟨vp_in_nI (by omega) (by omega), ?_⟩
      rw [nI_clamp (by omega)]
      by_cases r : ec (2 * l + 1) = nI c
      · rw [if_pos r] at h
        exact br_t r h
      · rw [if_neg r] at h
        exact br_f r h
theorem x_isUp_t {post : Int32 → Prop} {c e : Nat} (he : e < 32) (h1 : ec e = nI c) (h2 : ¬ lu (e / 2) = 0) (h : post 1) : wpX_isUpEndOf post (gx N C L tm RW dr ti pa pl ms md lu ec es ed) (nI c) (nI e) := by
  unfold wpX_isUpEndOf
  dsimp only
  refine ⟨vp_in_nI he (by omega), ?_⟩
  rw [nI_clamp (by omega)]
  refine br_t h1 (x_linkOf he ⟨vp_in_nI (by omega) (by omega), ?_⟩)
  rw [nI_clamp (by omega)]
  exact br_f h2 h
theorem x_isUp_f {post : Int32 → Prop} {c e : Nat} (he : e < 32) (hn : ¬ (ec e = nI c ∧ ¬ lu (e / 2) = 0)) (h : post 0) : wpX_isUpEndOf post (gx N C L tm RW dr ti pa pl ms md lu ec es ed) (nI c) (nI e) := by
  unfold wpX_isUpEndOf
  dsimp only
  refine ⟨vp_in_nI he (by omega), ?_⟩
  rw [nI_clamp (by omega)]
  by_cases h1 : ec e = nI c
  · refine br_t h1 (x_linkOf he ⟨vp_in_nI (by omega) (by omega), ?_⟩)
    rw [nI_clamp (by omega)]
    exact br_t (Classical.byContradiction fun z => hn ⟨h1, z⟩) h
  · exact br_f h1 h
/-- comparison of rows -/
theorem x_cmpl {post : Int32 → Prop} {x y K : Nat} (hx : x + K ≤ 480) (hy : y + K ≤ 480) : ∀ k i, i + k = K → post (gc_cmp (fun f => RW (x + f)) (fun f => RW (y + f)) k i) → wX_compareRows_3 post (nI x) (nI y) (nI K) (nI N) (nI C) tm (nI L) RW dr ti pa pl ms md lu ec es ed (k + 1) (nI i)
  | 0, i, hi, h => br_t (nI_le (by omega) (by omega)) h
  | k + 1, i, hi, h => by
    have v1 : vp_in (nI x + nI i) 480 := by rw [nI_add]; exact vp_in_nI (by omega) (by omega)
    have v2 : vp_in (nI y + nI i) 480 := by rw [nI_add]; exact vp_in_nI (by omega) (by omega)
    have c1 : (nI x + nI i).toNatClampNeg = x + i := by rw [nI_add]; exact nI_clamp (by omega)
    have c2 : (nI y + nI i).toNatClampNeg = y + i := by rw [nI_add]; exact nI_clamp (by omega)
    rw [gc_cmp] at h
    refine br_f (nI_ge (by omega) (by omega)) ⟨v1, v2, ?_⟩
    rw [c1, c2]
    by_cases q : RW (x + i) = RW (y + i)
    · rw [if_pos q] at h
      exact br_t q (nm_r (nI_1 i) (x_cmpl hx hy k (i + 1) (by omega) h))
    · rw [if_neg q] at h
      refine br_f q ⟨v1, v2, ?_⟩
      by_cases r : RW (x + i) < RW (y + i)
      · rw [if_pos r] at h
        exact br_f (Int32.not_le.mpr r) h
      · rw [if_neg r] at h
        exact br_t (Int32.not_lt.mp r) h
theorem x_cmp {post : Int32 → Prop} {x y K : Nat} (hx : x + K ≤ 480) (hy : y + K ≤ 480) (h : post (gs_cmp RW x y K)) : wpX_compareRows post (gx N C L tm RW dr ti pa pl ms md lu ec es ed) (nI x) (nI y) (nI K) :=
  ⟨K + 1, x_cmpl hx hy K 0 (by omega) h⟩
/-- a row copied -/
theorem x_copyl {post : St2 → Prop} {x y : Nat} (hx : x + 10 ≤ 480) (hy : y + 10 ≤ 480) (hd : x + 10 ≤ y ∨ y + 10 ≤ x) (h : post (gx N C L tm (gc_cp RW RW x y 10) dr ti pa pl ms md lu ec es ed)) : ∀ k i, i + k = 10 → wX_copyRow_2 post (nI x) (nI y) (nI N) (nI C) tm (nI L) (k + 1) (nI i) (gc_cp RW RW x y i) dr ti pa pl ms md lu ec es ed
  | 0, i, hi => by
    obtain rfl : i = 10 := by omega
    exact br_t (nI_le (a := 10) (b := 10) (by omega) (by omega)) h
  | k + 1, i, hi => by
    have v1 : vp_in (nI x + nI i) 480 := by rw [nI_add]; exact vp_in_nI (by omega) (by omega)
    have v2 : vp_in (nI y + nI i) 480 := by rw [nI_add]; exact vp_in_nI (by omega) (by omega)
    have e : upd (gc_cp RW RW x y i) (nI y + nI i).toNatClampNeg (gc_cp RW RW x y i (nI x + nI i).toNatClampNeg) = gc_cp RW RW x y (i + 1) := by
      rw [nI_add, nI_add, nI_clamp (by omega), nI_clamp (by omega), gc_cp_out (by omega)]
      exact gc_cpS RW RW x y i
    exact br_f (nI_ge (b := 10) (by omega) (by omega)) ⟨v1, v2, nm_r e (nm_r (nI_1 i) (x_copyl hx hy hd h k (i + 1) (by omega)))⟩
theorem x_copy {post : St2 → Prop} {x y : Nat} (hx : x + 10 ≤ 480) (hy : y + 10 ≤ 480) (hd : x + 10 ≤ y ∨ y + 10 ≤ x) (h : post (gx N C L tm (gc_cp RW RW x y 10) dr ti pa pl ms md lu ec es ed)) : wpX_copyRow post (gx N C L tm RW dr ti pa pl ms md lu ec es ed) (nI x) (nI y) := by
  have := x_copyl hx hy hd h 10 0 (by omega)
  rw [gc_cp0] at this
  exact ⟨11, this⟩
/-- a store cleared -/
theorem x_clearl {post : St2 → Prop} {y : Nat} (hy : y + 10 ≤ 480) (h : post (gx N C L tm (gc_cp RW gc_z 0 y 10) dr ti pa pl ms md lu ec es ed)) : ∀ k i, i + k = 10 → wX_clearStore_7 post (nI y) (nI N) (nI C) tm (nI L) (k + 1) (nI i) (gc_cp RW gc_z 0 y i) dr ti pa pl ms md lu ec es ed
  | 0, i, hi => by
    obtain rfl : i = 10 := by omega
    exact br_t (nI_le (a := 10) (b := 10) (by omega) (by omega)) h
  | k + 1, i, hi => by
    have v2 : vp_in (nI y + nI i) 480 := by rw [nI_add]; exact vp_in_nI (by omega) (by omega)
    have e : upd (gc_cp RW gc_z 0 y i) (nI y + nI i).toNatClampNeg 0 = gc_cp RW gc_z 0 y (i + 1) := by
      rw [nI_add, nI_clamp (by omega)]
      exact gc_cpS RW gc_z 0 y i
    exact br_f (nI_ge (b := 10) (by omega) (by omega)) ⟨v2, nm_r e (nm_r (nI_1 i) (x_clearl hy h k (i + 1) (by omega)))⟩
theorem x_clear {post : St2 → Prop} {e : Nat} (he : e < 32) (h : post (gx N C L tm (gc_cp RW gc_z 0 ((16 + e) * 10) 10) dr ti pa pl ms md lu ec es ed)) : wpX_clearStore post (gx N C L tm RW dr ti pa pl ms md lu ec es ed) (nI e) := by
  unfold wpX_clearStore
  dsimp only
  refine x_storeRow ?_
  have := x_clearl (y := (16 + e) * 10) (by omega) h 10 0 (by omega)
  rw [gc_cp0] at this
  exact ⟨11, this⟩
end
end
section
/-! the component's step, phase by phase -/
theorem gs_end_lt {L c e : Nat} {ec : Nat → Int32} {x : Int32} (hL : L ≤ 16) (h : gs_end L ec c x = some e) : e < 2 * L := by
  unfold gs_end at h
  rcases pk_ix x (n := L) (by omega) with hx | hx | ⟨l, hl, rfl⟩
  · rw [if_pos (Or.inl hx)] at h
    exact absurd h.symm (Option.some_ne_none e)
  · rw [if_pos (Or.inr hx)] at h
    exact absurd h.symm (Option.some_ne_none e)
  · rw [if_neg (fun z => z.elim (nI_pos (by omega)) (nI_ge hl (by omega))), nI_clamp (by omega)] at h
    split at h
    · have := Option.some.inj h
      omega
    · split at h
      · have := Option.some.inj h
        omega
      · exact absurd h.symm (Option.some_ne_none e)
theorem gc_en_ne {e : Nat} (h : e < 2 ^ 31) : ¬ nI e = -1 := by
  intro z
  have := nI_pos h
  rw [z] at this
  exact this (by decide)
section
variable {N C L : Nat} {tm : Int32} {RW dr pa pl md lu ec es ed : Nat → Int32} {ti ms : Nat → Int64}
theorem x_srv {post : Int32 → Prop} {e : Nat} (he : e < 32) (h : post (if ¬ lu (e / 2) = 0 ∧ es e = 2 ∧ es (gc_ot e) = 1 then 1 else 0)) : wpX_isServed post (gx N C L tm RW dr ti pa pl ms md lu ec es ed) (nI e) := by
  have ho : gc_ot e < 32 := gc_otlt (n := 16) he
  unfold wpX_isServed
  refine x_linkOf he ⟨vp_in_nI (by omega) (by omega), ?_⟩
  rw [nI_clamp (by omega)]
  by_cases a : lu (e / 2) = 0
  · rw [if_neg (fun z => z.1 a)] at h
    exact br_t a h
  · refine br_f a ⟨vp_in_nI he (by omega), ?_⟩
    rw [nI_clamp (by omega)]
    by_cases b : es e = 2
    · refine br_t b (x_otherEnd he ⟨vp_in_nI ho (by omega), ?_⟩)
      rw [nI_clamp (by omega)]
      by_cases d : es (gc_ot e) = 1
      · rw [if_pos ⟨a, b, d⟩] at h
        exact br_t d h
      · rw [if_neg (fun z => d z.2.2)] at h
        exact br_f d h
    · rw [if_neg (fun z => b z.2.1)] at h
      exact br_f b h
theorem x_meas0 {post : St2 → Prop} {c : Nat} {x : Int32} (hc : c < 8) (h : post (gx N C L tm RW dr ti pa pl ms (upd md c 0) lu ec es ed)) : wX_measure_35 post (nI c) x 0 (nI c) (nI N) (nI C) tm (nI L) RW dr ti pa pl ms md lu ec es ed := by
  have e : upd md (nI c).toNatClampNeg (vp_nar .boolean 0) = upd md c 0 := by
    rw [nI_clamp (by omega)]; rfl
  exact ⟨vp_in_nI hc (by omega), nm_r e ⟨vp_in_nI hc (by omega), br_t (by rw [nI_clamp (by omega), pk_us]) h⟩⟩
theorem x_meas1 {post : St2 → Prop} {c e : Nat} (K : gx_ok N L lu ec) (hc : c < N) (he : e < 2 * L) (h : post (gx N C L tm RW dr ti pa pl (gs_ms ec ed ti ms c e) (upd md c 1) lu ec es ed)) : wX_measure_35 post (nI c) (nI e) 1 (nI c) (nI N) (nI C) tm (nI L) RW dr ti pa pl ms md lu ec es ed := by
  obtain ⟨_, hN, hL, _, hE⟩ := K
  have ho : gc_ot e < 2 * L := gc_otlt he
  obtain ⟨j, hj, ej⟩ := hE _ ho
  have e1 : upd md (nI c).toNatClampNeg (vp_nar .boolean 1) = upd md c 1 := by
    rw [nI_clamp (by omega)]; rfl
  have ve : vp_in (ec (gc_ot e)) 8 := by rw [ej]; exact vp_in_nI (by omega) (by omega)
  refine ⟨vp_in_nI (by omega) (by omega), nm_r e1 ⟨vp_in_nI (by omega) (by omega), br_f (by rw [nI_clamp (by omega), pk_us]; decide) (x_otherEnd (by omega) ?_)⟩⟩
  simp (disch := omega) only [nI_clamp]
  refine ⟨vp_in_nI (by omega) (by omega), ve, nm_e ⟨vp_in_nI (by omega) (by omega), vp_in_nI (by omega) (by omega), nm_e ⟨vp_in_nI (by omega) (by omega), vp_in_nI (by omega) (by omega), nm_e (x_measureRow ?_)⟩⟩⟩
  simp (disch := omega) only [ix_m6, ix_m8, ix_m9, ix_m10, ix_m2, ix_2m, ix_8a, ix_16a, ix_a0, ix_a1, ix_a2, ix_a3, ix_a4, ix_a5, ix_a6, ix_a7, ix_a8, ix_a9, nI_add, nI_clamp]
  exact ⟨by decide, vp_in_nI (by omega) (by omega), nm_e ⟨by decide, vp_in_nI (by omega) (by omega), nm_e ⟨vp_in_nI (by omega) (by omega), nm_e ⟨vp_in_nI (by omega) (by omega), nm_e ⟨vp_in_nI (by omega) (by omega), nm_e ⟨vp_in_nI (by omega) (by omega), nm_e ⟨vp_in_nI (by omega) (by omega), vp_in_nI (by omega) (by omega), nm_e h⟩⟩⟩⟩⟩⟩⟩
theorem x_measure {post : St2 → Prop} {c : Nat} (K : gx_ok N L lu ec) (hc : c < N) (h : post (gx N C L tm RW dr ti pa pl ((gs_meas L pl lu ec es ed ti c (md, ms)).2) ((gs_meas L pl lu ec es ed ti c (md, ms)).1) lu ec es ed)) : wpX_measure post (gx N C L tm RW dr ti pa pl ms md lu ec es ed) (nI c) := by
  have hN : N ≤ 8 := K.2.1
  have hL : L ≤ 16 := K.2.2.1
  unfold wpX_measure
  refine ⟨vp_in_nI (by omega) (by omega), x_endOf K hc ?_⟩
  rw [nI_clamp (by omega)]
  unfold gs_meas at h
  cases hq : gs_end L ec c (pl c) with
  | none =>
    rw [hq] at h
    exact br_t rfl (x_meas0 (by omega) h)
  | some e =>
    rw [hq] at h
    have he := gs_end_lt hL hq
    dsimp only at h
    refine br_f (gc_en_ne (by omega)) (x_srv (by omega) ?_)
    by_cases s : ¬ lu (e / 2) = 0 ∧ es e = 2 ∧ es (gc_ot e) = 1
    · rw [if_pos s]
      rw [if_pos s] at h
      exact br_f (by decide) (x_meas1 K hc he h)
    · rw [if_neg s]
      rw [if_neg s] at h
      exact br_t rfl (x_meas0 (by omega) h)
theorem x_steer {post : St2 → Prop} {c : Nat} (hc : c < 8) (h : post (gx N C L tm RW dr ((gs_steer md c (ti, ms)).1) pa pl ((gs_steer md c (ti, ms)).2) md lu ec es ed)) : wpX_steer post (gx N C L tm RW dr ti pa pl ms md lu ec es ed) (nI c) := by
  unfold gs_steer at h
  dsimp only at h
  unfold wpX_steer
  refine ⟨vp_in_nI hc (by omega), ?_⟩
  rw [nI_clamp (by omega)]
  by_cases a : md c = 0
  · rw [if_pos a] at h
    exact br_t a h
  · rw [if_neg a] at h
    refine br_f a (x_measureRow ?_)
    simp (disch := omega) only [ix_m6, ix_m8, ix_m9, ix_m10, ix_m2, ix_2m, ix_8a, ix_16a, ix_a0, ix_a1, ix_a2, ix_a3, ix_a4, ix_a5, ix_a6, ix_a7, ix_a8, ix_a9, nI_add, nI_clamp]
    refine ⟨vp_in_nI (by omega) (by omega), nm_e ?_⟩
    have f1 : 1000000 < ms (c * 9 + 0) ∨ ms (c * 9 + 0) < -1000000 → wX_steer_40 post (nI c) (ms (c * 9 + 0)) (nI N) (nI C) tm (nI L) RW dr ti pa pl ms md lu ec es ed := by
      intro z
      rw [if_pos z] at h
      unfold wX_steer_40
      rw [nI_clamp (by omega)]
      exact ⟨vp_in_nI hc (by omega), vp_in_nI hc (by omega), nm_e h⟩
    by_cases b : 1000000 < ms (c * 9 + 0)
    · exact br_t b (f1 (Or.inl b))
    · refine br_f b ?_
      by_cases d : ms (c * 9 + 0) < -1000000
      · exact br_f (Int64.not_le.mpr d) (f1 (Or.inr d))
      · rw [if_neg (fun z => z.elim b d)] at h
        exact br_t (Int64.not_lt.mp d) ⟨vp_in_nI (by omega) (by omega), by decide, x_clampL ⟨vp_in_nI (by omega) (by omega), nm_e ⟨by decide, x_clampL ⟨vp_in_nI (by omega) (by omega), nm_e h⟩⟩⟩⟩
theorem x_advance {post : St2 → Prop} {c : Nat} (hc : c < 8) (h : post (gx N C L tm RW dr (gs_adv dr ms c ti) pa pl ms md lu ec es ed)) : wpX_advance post (gx N C L tm RW dr ti pa pl ms md lu ec es ed) (nI c) := by
  unfold wpX_advance
  refine ⟨vp_in_nI hc (by omega), vp_in_nI hc (by omega), x_measureRow ?_⟩
  simp (disch := omega) only [ix_m6, ix_m8, ix_m9, ix_m10, ix_m2, ix_2m, ix_8a, ix_16a, ix_a0, ix_a1, ix_a2, ix_a3, ix_a4, ix_a5, ix_a6, ix_a7, ix_a8, ix_a9, nI_add, nI_clamp]
  exact ⟨vp_in_nI (by omega) (by omega), vp_in_nI hc (by omega), nm_e h⟩
theorem x_accepts {post : Int32 → Prop} {x : Int32} {v : Nat} (hv : v + 10 ≤ 480) (h : post (if RW (v + 6) ≤ 6 ∧ ¬ RW (v + 5) = x then 1 else 0)) : wpX_accepts post (gx N C L tm RW dr ti pa pl ms md lu ec es ed) x (nI v) := by
  unfold wpX_accepts
  simp (disch := omega) only [ix_m6, ix_m8, ix_m9, ix_m10, ix_m2, ix_2m, ix_8a, ix_16a, ix_a0, ix_a1, ix_a2, ix_a3, ix_a4, ix_a5, ix_a6, ix_a7, ix_a8, ix_a9, nI_add, nI_clamp]
  refine ⟨vp_in_nI (by omega) (by omega), ?_⟩
  by_cases a : RW (v + 6) ≤ 6
  · refine br_f (Int32.not_lt.mpr a) ⟨vp_in_nI (by omega) (by omega), ?_⟩
    by_cases b : RW (v + 5) = x
    · rw [if_neg (fun z => z.2 b)] at h
      exact br_t b h
    · rw [if_pos ⟨a, b⟩] at h
      exact br_f b h
  · rw [if_neg (fun z => a z.1)] at h
    exact br_t (Int32.not_le.mp a) h
theorem x_age {post : St2 → Prop} {e : Nat} (he : e < 32) (h : post (gx N C L tm (gs_age tm e RW) dr ti pa pl ms md lu ec es ed)) : wpX_ageStore post (gx N C L tm RW dr ti pa pl ms md lu ec es ed) (nI e) := by
  unfold gs_age at h
  unfold wpX_ageStore
  refine x_storeRow ?_
  simp (disch := omega) only [ix_m6, ix_m8, ix_m9, ix_m10, ix_m2, ix_2m, ix_8a, ix_16a, ix_a0, ix_a1, ix_a2, ix_a3, ix_a4, ix_a5, ix_a6, ix_a7, ix_a8, ix_a9, nI_add, nI_clamp]
  refine ⟨vp_in_nI (by omega) (by omega), ?_⟩
  by_cases a : RW ((16 + e) * 10 + 8) = 0
  · rw [if_pos a] at h
    exact br_t a h
  · rw [if_neg a] at h
    refine br_f a ⟨vp_in_nI (by omega) (by omega), vp_in_nI (by omega) (by omega), nm_e ⟨vp_in_nI (by omega) (by omega), ?_⟩⟩
    rw [pk_us]
    by_cases b : RW ((16 + e) * 10 + 9) + 1 = tm
    · rw [if_pos b] at h
      exact br_t b (x_clear he h)
    · rw [if_neg b] at h
      exact br_f b h
theorem x_listen {post : St2 → Prop} {e : Nat} (K : gx_ok N L lu ec) (he : e < 2 * L) (h : post (gx N C L tm (gs_listen tm lu ec es e RW) dr ti pa pl ms md lu ec es ed)) : wpX_listen post (gx N C L tm RW dr ti pa pl ms md lu ec es ed) (nI e) := by
  obtain ⟨_, hN, hL, _, hE⟩ := K
  have ho : gc_ot e < 2 * L := gc_otlt he
  obtain ⟨j, hj, ej⟩ := hE _ ho
  unfold gs_listen at h
  unfold wpX_listen
  refine x_linkOf (by omega) ⟨vp_in_nI (by omega) (by omega), ?_⟩
  rw [nI_clamp (by omega)]
  by_cases a : lu (e / 2) = 0
  · rw [if_pos a] at h
    exact br_t a h
  · rw [if_neg a] at h
    refine br_f a (x_otherEnd (by omega) ?_)
    simp (disch := omega) only [nI_clamp]
    rw [ej, nI_clamp (by omega)] at h
    rw [ej]
    refine ⟨vp_in_nI (by omega) (by omega), x_vectorRow ⟨vp_in_nI (by omega) (by omega), ?_⟩⟩
    by_cases b : es (gc_ot e) = 1
    · refine br_t b ⟨vp_in_nI (by omega) (by omega), x_accepts (by omega) ?_⟩
      by_cases d : RW ((8 + j) * 10 + 6) ≤ 6 ∧ ¬ RW ((8 + j) * 10 + 5) = ec e
      · rw [if_pos d]
        rw [if_pos ⟨b, d⟩] at h
        exact br_f (by decide) (x_storeRow (x_copy (by omega) (by omega) (by omega) h))
      · rw [if_neg d]
        rw [if_neg (fun z => d z.2)] at h
        exact br_t rfl (x_age (by omega) h)
    · rw [if_neg (fun z => b z.1)] at h
      exact br_f b (x_age (by omega) h)
end
end
section
/-! the component's choice of a master, and its step -/
def gs_bp : Option Nat → Int32
  | none => 0
  | some j => nI ((16 + j) * 10)
section
variable {N C L : Nat} {tm : Int32} {RW dr pa pl md lu ec es ed : Nat → Int32} {ti ms : Nat → Int64}
theorem x_bestl {post : Int32 → Prop} {c : Nat} (hL : L ≤ 16) : ∀ k i b, i + k = 2 * L → gs_okb L lu ec RW c b → post (gc_en (gs_it (gs_bs lu ec RW c) k i b)) → wX_bestEnd_7 post (nI c) (nI N) (nI C) tm (nI L) RW dr ti pa pl ms md lu ec es ed (k + 1) (gc_en b) (gs_bp b) (nI i)
  | 0, i, b, hi, hb, h => br_t (by rw [ix_2m]; exact nI_le (by omega) (by omega)) h
  | k + 1, i, b, hi, hb, h => by
    have hi2 : i < 2 * L := by omega
    have hk : gs_okb L lu ec RW c (gs_bs lu ec RW c i b) := gs_bs_ok hi2 hb
    have h' : post (gc_en (gs_it (gs_bs lu ec RW c) k (i + 1) (gs_bs lu ec RW c i b))) := h
    have ih := x_bestl (post := post) hL k (i + 1) (gs_bs lu ec RW c i b) (by omega) hk h'
    refine br_f (by rw [ix_2m]; exact nI_ge (by omega) (by omega)) (x_storeRow ?_)
    unfold gs_bs at ih
    by_cases u : ec i = nI c ∧ ¬ lu (i / 2) = 0
    · refine x_isUp_t (by omega) u.1 u.2 (br_f (by decide) ?_)
      simp (disch := omega) only [ix_m6, ix_m8, ix_m9, ix_m10, ix_m2, ix_2m, ix_8a, ix_16a, ix_a0, ix_a1, ix_a2, ix_a3, ix_a4, ix_a5, ix_a6, ix_a7, ix_a8, ix_a9, nI_add, nI_clamp]
      refine ⟨vp_in_nI (by omega) (by omega), ?_⟩
      by_cases v : RW ((16 + i) * 10 + 8) = 1
      · rw [if_pos ⟨u.1, u.2, v⟩] at ih
        refine br_t v ?_
        cases b with
        | none => exact br_t rfl (nm_e ih)
        | some j =>
          dsimp only at ih
          have hj : j < 2 * L := hb.1
          refine br_f (gc_en_ne (by omega)) (x_cmp (K := 8) (by omega) (by omega) ?_)
          by_cases w : gs_cmp RW ((16 + i) * 10) ((16 + j) * 10) 8 < 0
          · rw [if_pos w] at ih
            exact br_f (Int32.not_le.mpr w) (nm_e ih)
          · rw [if_neg w] at ih
            exact br_t (Int32.not_lt.mp w) (nm_e ih)
      · rw [if_neg (fun z => v z.2.2)] at ih
        exact br_f v (nm_e ih)
    · rw [if_neg (fun z => u ⟨z.1, z.2.1⟩)] at ih
      exact x_isUp_f (by omega) u (br_t rfl (nm_r (nI_1 i) ih))
theorem x_best {post : Int32 → Prop} {c : Nat} (hL : L ≤ 16) (h : post (gc_en (gs_best L lu ec RW c))) : wpX_bestEnd post (gx N C L tm RW dr ti pa pl ms md lu ec es ed) (nI c) :=
  ⟨2 * L + 1, x_bestl hL (2 * L) 0 none (by omega) trivial h⟩
theorem x_selfl {post : St2 → Prop} {c : Nat} (hL : L ≤ 16) (h : post (gx N C L tm RW dr ti pa pl ms md lu ec (gc_fol ec lu es (fun _ => 1) c (2 * L)) ed)) : ∀ k i, i + k = 2 * L → wX_followItself_33 post (nI c) (nI N) (nI C) tm (nI L) (k + 1) (nI i) RW dr ti pa pl ms md lu ec (gc_fol ec lu es (fun _ => 1) c i) ed
  | 0, i, hi => by
    obtain rfl : i = 2 * L := by omega
    exact br_t (by rw [ix_2m]; exact nI_le (by omega) (by omega)) h
  | k + 1, i, hi => by
    have ih := x_selfl (post := post) hL h k (i + 1) (by omega)
    refine br_f (by rw [ix_2m]; exact nI_ge (by omega) (by omega)) ?_
    by_cases u : ec i = nI c ∧ ¬ lu (i / 2) = 0
    · have e : upd (gc_fol ec lu es (fun _ => 1) c i) (nI i).toNatClampNeg 1 = gc_fol ec lu es (fun _ => 1) c (i + 1) := by
        rw [nI_clamp (by omega)]; exact gc_folT (p := fun _ => 1) u.1 u.2
      exact x_isUp_t (by omega) u.1 u.2 (br_f (by decide) ⟨vp_in_nI (by omega) (by omega), nm_r e (nm_r (nI_1 i) ih)⟩)
    · rw [← gc_folF u] at ih
      exact x_isUp_f (by omega) u (br_t rfl (nm_r (nI_1 i) ih))
theorem x_self {post : St2 → Prop} {c : Nat} (hL : L ≤ 16) (hc : c < 8) (h : post (gx N C L tm ((gs_self L lu ec c RW pa pl es).1) dr ti ((gs_self L lu ec c RW pa pl es).2.1) ((gs_self L lu ec c RW pa pl es).2.2.1) ms md lu ec ((gs_self L lu ec c RW pa pl es).2.2.2) ed)) : wpX_followItself post (gx N C L tm RW dr ti pa pl ms md lu ec es ed) (nI c) := by
  have e1 : upd pa (nI c).toNatClampNeg (-1) = upd pa c (-1) := by rw [nI_clamp (by omega)]
  have e2 : upd pl (nI c).toNatClampNeg (-1) = upd pl c (-1) := by rw [nI_clamp (by omega)]
  have l := x_selfl (post := post) (c := c) (RW := gc_cp RW RW (c * 10) ((8 + c) * 10) 10) (pa := upd pa c (-1)) (pl := upd pl c (-1)) hL h (2 * L) 0 (by omega)
  rw [gc_fol0] at l
  unfold wpX_followItself
  exact x_datasetRow (x_vectorRow (x_copy (by omega) (by omega) (by omega) ⟨vp_in_nI hc (by omega), nm_r e1 ⟨vp_in_nI hc (by omega), nm_r e2 ⟨_, l⟩⟩⟩))
theorem x_folll {post : St2 → Prop} {c b : Nat} (hL : L ≤ 16) (hc : c < 8) (hb : b < 32) (h : post (gx N C L tm RW dr ti pa pl ms md lu ec (upd (gc_fol ec lu es (gs_pst RW c) c (2 * L)) b 2) ed)) : ∀ k i, i + k = 2 * L → wX_followEnd_82 post (nI c) (nI b) (nI ((8 + c) * 10)) (nI N) (nI C) tm (nI L) (k + 1) (nI i) RW dr ti pa pl ms md lu ec (gc_fol ec lu es (gs_pst RW c) c i) ed
  | 0, i, hi => by
    obtain rfl : i = 2 * L := by omega
    have e : upd (gc_fol ec lu es (gs_pst RW c) c (2 * L)) (nI b).toNatClampNeg 2 = upd (gc_fol ec lu es (gs_pst RW c) c (2 * L)) b 2 := by rw [nI_clamp (by omega)]
    exact br_t (by rw [ix_2m]; exact nI_le (by omega) (by omega)) ⟨vp_in_nI hb (by omega), nm_r e h⟩
  | k + 1, i, hi => by
    have ih := x_folll (post := post) hL hc hb h k (i + 1) (by omega)
    refine br_f (by rw [ix_2m]; exact nI_ge (by omega) (by omega)) ?_
    by_cases u : ec i = nI c ∧ ¬ lu (i / 2) = 0
    · have e := gc_folT (es := es) (p := gs_pst RW c) u.1 u.2
      refine x_isUp_t (by omega) u.1 u.2 (br_f (by decide) (x_storeRow ?_))
      simp (disch := omega) only [ix_m6, ix_m8, ix_m9, ix_m10, ix_m2, ix_2m, ix_8a, ix_16a, ix_a0, ix_a1, ix_a2, ix_a3, ix_a4, ix_a5, ix_a6, ix_a7, ix_a8, ix_a9, nI_add, nI_clamp]
      refine ⟨vp_in_nI (by omega) (by omega), ?_⟩
      have f1 : gs_pst RW c i = 1 → upd (gc_fol ec lu es (gs_pst RW c) c i) (nI i).toNatClampNeg 1 = gc_fol ec lu es (gs_pst RW c) c (i + 1) := by
        intro z
        rw [z] at e
        rw [nI_clamp (by omega)]; exact e
      have f3 : gs_pst RW c i = 3 → upd (gc_fol ec lu es (gs_pst RW c) c i) (nI i).toNatClampNeg 3 = gc_fol ec lu es (gs_pst RW c) c (i + 1) := by
        intro z
        rw [z] at e
        rw [nI_clamp (by omega)]; exact e
      by_cases v : RW ((16 + i) * 10 + 8) = 1
      · refine br_t v (x_cmp (K := 8) (by omega) (by omega) ?_)
        by_cases w : gs_cmp RW ((16 + i) * 10) ((8 + c) * 10) 8 < 0
        · exact br_f (Int32.not_le.mpr w) (br_f (by decide) ⟨vp_in_nI (by omega) (by omega), nm_r (f3 (if_pos ⟨v, w⟩)) (nm_r (nI_1 i) ih)⟩)
        · exact br_t (Int32.not_lt.mp w) (br_t rfl ⟨vp_in_nI (by omega) (by omega), nm_r (f1 (if_neg (fun z => w z.2))) (nm_r (nI_1 i) ih)⟩)
      · exact br_f v (br_t rfl ⟨vp_in_nI (by omega) (by omega), nm_r (f1 (if_neg (fun z => v z.1))) (nm_r (nI_1 i) ih)⟩)
    · rw [← gc_folF u] at ih
      exact x_isUp_f (by omega) u (br_t rfl (nm_r (nI_1 i) ih))
theorem x_foll {post : St2 → Prop} {c b : Nat} (hL : L ≤ 16) (hc : c < 8) (hb : b < 32) (h : post (gx N C L tm ((gs_foll L lu ec c b RW pa pl es).1) dr ti ((gs_foll L lu ec c b RW pa pl es).2.1) ((gs_foll L lu ec c b RW pa pl es).2.2.1) ms md lu ec ((gs_foll L lu ec c b RW pa pl es).2.2.2) ed)) : wpX_followEnd post (gx N C L tm RW dr ti pa pl ms md lu ec es ed) (nI c) (nI b) := by
  have l := x_folll (post := post) (RW := gc_fR RW c b) (pa := upd pa c (RW ((16 + b) * 10 + 7))) (pl := upd pl c (nI (b / 2))) hL hc hb h (2 * L) 0 (by omega)
  rw [gc_fol0] at l
  have g6 : gc_cp RW RW ((16 + b) * 10) ((8 + c) * 10) 10 ((8 + c) * 10 + 6) = RW ((16 + b) * 10 + 6) := gc_cp_in (by omega)
  have g7 : gc_fR RW c b ((16 + b) * 10 + 7) = RW ((16 + b) * 10 + 7) := gc_fRout (by omega)
  unfold wpX_followEnd
  refine x_storeRow (x_vectorRow (x_copy (by omega) (by omega) (by omega) ?_))
  simp (disch := omega) only [ix_m6, ix_m8, ix_m9, ix_m10, ix_m2, ix_2m, ix_8a, ix_16a, ix_a0, ix_a1, ix_a2, ix_a3, ix_a4, ix_a5, ix_a6, ix_a7, ix_a8, ix_a9, nI_add, nI_clamp]
  refine ⟨vp_in_nI (by omega) (by omega), vp_in_nI (by omega) (by omega), nm_r (by rw [g6]) ⟨vp_in_nI (by omega) (by omega), nm_e ⟨vp_in_nI (by omega) (by omega), nm_r (e' := gc_fR RW c b) rfl ⟨vp_in_nI (by omega) (by omega), vp_in_nI (by omega) (by omega), nm_r (by rw [g7]) (x_linkOf hb ⟨vp_in_nI (by omega) (by omega), nm_e ⟨_, l⟩⟩)⟩⟩⟩⟩
theorem x_choose {post : St2 → Prop} {c : Nat} (hL : L ≤ 16) (hc : c < 8) (h : post (gx N C L tm ((gs_choose L lu ec c (RW, pa, pl, es)).1) dr ti ((gs_choose L lu ec c (RW, pa, pl, es)).2.1) ((gs_choose L lu ec c (RW, pa, pl, es)).2.2.1) ms md lu ec ((gs_choose L lu ec c (RW, pa, pl, es)).2.2.2) ed)) : wpX_chooseMaster post (gx N C L tm RW dr ti pa pl ms md lu ec es ed) (nI c) := by
  have ok : gs_okb L lu ec RW c (gs_best L lu ec RW c) := gs_best_ok
  unfold gs_choose at h
  unfold wpX_chooseMaster
  refine x_best hL ?_
  cases hq : gs_best L lu ec RW c with
  | none =>
    rw [hq] at h
    exact br_t rfl (x_self hL hc h)
  | some b =>
    rw [hq] at h ok
    dsimp only at h
    have hb : b < 2 * L := ok.1
    refine br_f (gc_en_ne (by omega)) (x_datasetRow (x_storeRow (x_cmp (K := 6) (by omega) (by omega) ?_)))
    by_cases w : gs_cmp RW (c * 10) ((16 + b) * 10) 6 < 0
    · rw [if_pos w] at h
      exact br_f (Int32.not_le.mpr w) (x_self hL hc h)
    · rw [if_neg w] at h
      exact br_t (Int32.not_lt.mp w) (x_foll hL hc (by omega) h)
end
end
section
/-! the component's step as a whole -/
def gs_stX (N C L : Nat) (tm : Int32) (RW dr : Nat → Int32) (ti : Nat → Int64) (pa pl : Nat → Int32) (ms : Nat → Int64) (md lu ec es ed : Nat → Int32) : St2 :=
  let s1 := gs_it (gs_meas L pl lu ec es ed ti) N 0 (md, ms)
  let s2 := gs_it (gs_steer s1.1) N 0 (ti, s1.2)
  let t3 := gs_it (gs_adv dr s2.2) N 0 s2.1
  let r4 := gs_it (gs_listen tm lu ec es) (2 * L) 0 RW
  let s5 := gs_it (gs_choose L lu ec) N 0 (r4, pa, pl, es)
  gx N C L tm s5.1 dr t3 s5.2.1 s5.2.2.1 s2.2 s1.1 lu ec s5.2.2.2 ed
section
variable {N C L : Nat} {tm : Int32} {RW dr pa pl md lu ec es ed : Nat → Int32} {ti ms : Nat → Int64}
theorem x_st5 {post : St2 → Prop} (K : gx_ok N L lu ec) : ∀ k i RW pa pl es, i + k = N → post (gx N C L tm ((gs_it (gs_choose L lu ec) k i (RW, pa, pl, es)).1) dr ti ((gs_it (gs_choose L lu ec) k i (RW, pa, pl, es)).2.1) ((gs_it (gs_choose L lu ec) k i (RW, pa, pl, es)).2.2.1) ms md lu ec ((gs_it (gs_choose L lu ec) k i (RW, pa, pl, es)).2.2.2) ed) → wX_step_88 post (k + 1) (nI i) (nI N) (nI C) tm (nI L) RW dr ti pa pl ms md lu ec es ed
  | 0, i, RW, pa, pl, es, hi, h => br_t (nI_le (by omega) (by have := K.2.1; omega)) h
  | k + 1, i, RW, pa, pl, es, hi, h => by
    have hN := K.2.1
    exact br_f (nI_ge (by omega) (by omega)) (x_choose K.2.2.1 (by omega) (nm_r (nI_1 i) (x_st5 K k (i + 1) _ _ _ _ (by omega) h)))
theorem x_st4 {post : St2 → Prop} (K : gx_ok N L lu ec) : ∀ k i RW, i + k = 2 * L → (∃ n, wX_step_88 post n 0 (nI N) (nI C) tm (nI L) (gs_it (gs_listen tm lu ec es) k i RW) dr ti pa pl ms md lu ec es ed) → wX_step_65 post (k + 1) (nI i) (nI N) (nI C) tm (nI L) RW dr ti pa pl ms md lu ec es ed
  | 0, i, RW, hi, h => br_t (by rw [ix_2m]; exact nI_le (by omega) (by have := K.2.2.1; omega)) h
  | k + 1, i, RW, hi, h => by
    have hL := K.2.2.1
    exact br_f (by rw [ix_2m]; exact nI_ge (by omega) (by omega)) (x_listen K (by omega) (nm_r (nI_1 i) (x_st4 K k (i + 1) _ (by omega) h)))
theorem x_st3 {post : St2 → Prop} (K : gx_ok N L lu ec) : ∀ k i ti, i + k = N → (∃ n, wX_step_65 post n 0 (nI N) (nI C) tm (nI L) RW dr (gs_it (gs_adv dr ms) k i ti) pa pl ms md lu ec es ed) → wX_step_44 post (k + 1) (nI i) (nI N) (nI C) tm (nI L) RW dr ti pa pl ms md lu ec es ed
  | 0, i, ti, hi, h => br_t (nI_le (by omega) (by have := K.2.1; omega)) h
  | k + 1, i, ti, hi, h => by
    have hN := K.2.1
    exact br_f (nI_ge (by omega) (by omega)) (x_advance (by omega) (nm_r (nI_1 i) (x_st3 K k (i + 1) _ (by omega) h)))
theorem x_st2 {post : St2 → Prop} (K : gx_ok N L lu ec) : ∀ k i ti ms, i + k = N → (∃ n, wX_step_44 post n 0 (nI N) (nI C) tm (nI L) RW dr ((gs_it (gs_steer md) k i (ti, ms)).1) pa pl ((gs_it (gs_steer md) k i (ti, ms)).2) md lu ec es ed) → wX_step_23 post (k + 1) (nI i) (nI N) (nI C) tm (nI L) RW dr ti pa pl ms md lu ec es ed
  | 0, i, ti, ms, hi, h => br_t (nI_le (by omega) (by have := K.2.1; omega)) h
  | k + 1, i, ti, ms, hi, h => by
    have hN := K.2.1
    exact br_f (nI_ge (by omega) (by omega)) (x_steer (by omega) (nm_r (nI_1 i) (x_st2 K k (i + 1) _ _ (by omega) h)))
theorem x_st1 {post : St2 → Prop} (K : gx_ok N L lu ec) : ∀ k i md ms, i + k = N → (∃ n, wX_step_23 post n 0 (nI N) (nI C) tm (nI L) RW dr ti pa pl ((gs_it (gs_meas L pl lu ec es ed ti) k i (md, ms)).2) ((gs_it (gs_meas L pl lu ec es ed ti) k i (md, ms)).1) lu ec es ed) → wX_step_2 post (k + 1) (nI i) (nI N) (nI C) tm (nI L) RW dr ti pa pl ms md lu ec es ed
  | 0, i, md, ms, hi, h => br_t (nI_le (by omega) (by have := K.2.1; omega)) h
  | k + 1, i, md, ms, hi, h => by
    have hN := K.2.1
    exact br_f (nI_ge (by omega) (by omega)) (x_measure K (by omega) (nm_r (nI_1 i) (x_st1 K k (i + 1) _ _ (by omega) h)))
theorem x_step {post : St2 → Prop} (K : gx_ok N L lu ec) (h : post (gs_stX N C L tm RW dr ti pa pl ms md lu ec es ed)) : wpX_step post (gx N C L tm RW dr ti pa pl ms md lu ec es ed) :=
  ⟨_, x_st1 K N 0 md ms (by omega) ⟨_, x_st2 K N 0 _ _ (by omega) ⟨_, x_st3 K N 0 _ (by omega) ⟨_, x_st4 K (2 * L) 0 RW (by omega) ⟨_, x_st5 K N 0 _ _ _ _ (by omega) h⟩⟩⟩⟩⟩
end
end
section
/-! comparison of columns as an order -/
theorem cq_01 (f g : Nat → Int32) : ∀ k i, gc_cmp f g k i = 0 ∨ gc_cmp f g k i = -1 ∨ gc_cmp f g k i = 1
  | 0, _ => Or.inl rfl
  | k + 1, i => by
    rw [gc_cmp]
    split
    · exact cq_01 f g k (i + 1)
    · split
      · exact Or.inr (Or.inl rfl)
      · exact Or.inr (Or.inr rfl)
theorem cq_neg (f g : Nat → Int32) : ∀ k i, gc_cmp g f k i = - gc_cmp f g k i
  | 0, _ => show (0 : Int32) = -0 by decide
  | k + 1, i => by
    rw [gc_cmp, gc_cmp]
    by_cases e : f i = g i
    · rw [if_pos e, if_pos e.symm]
      exact cq_neg f g k (i + 1)
    · rw [if_neg e, if_neg (fun z => e z.symm)]
      by_cases l : f i < g i
      · rw [if_pos l, if_neg (Int32.not_lt.mpr (Int32.le_of_lt l))]
        rfl
      · have l2 : g i < f i := by
          rcases Int32.lt_or_eq_of_le (Int32.not_lt.mp l) with z | z
          · exact z
          · exact absurd z.symm e
        rw [if_neg l, if_pos l2]
theorem cq_eq0 (f g : Nat → Int32) : ∀ k i, gc_cmp f g k i = 0 ↔ ∀ j, i ≤ j → j < i + k → f j = g j
  | 0, i => ⟨fun _ j h1 h2 => absurd h2 (by omega), fun _ => rfl⟩
  | k + 1, i => by
    rw [gc_cmp]
    by_cases e : f i = g i
    · rw [if_pos e, cq_eq0 f g k (i + 1)]
      constructor
      · intro h j h1 h2
        by_cases q : j = i
        · rw [q]; exact e
        · exact h j (by omega) (by omega)
      · intro h j h1 h2
        exact h j (by omega) (by omega)
    · rw [if_neg e]
      constructor
      · intro h
        split at h
        · exact absurd h (by decide)
        · exact absurd h (by decide)
      · intro h
        exact absurd (h i (Nat.le_refl i) (by omega)) e
theorem cq_lt (f g : Nat → Int32) (k i : Nat) : gc_cmp f g k i < 0 ↔ gc_cmp f g k i = -1 := by
  rcases cq_01 f g k i with h | h | h <;> rw [h] <;> decide
theorem cq_congr {f g f' g' : Nat → Int32} : ∀ k i, (∀ j, i ≤ j → j < i + k → f j = f' j) → (∀ j, i ≤ j → j < i + k → g j = g' j) → gc_cmp f g k i = gc_cmp f' g' k i
  | 0, _, _, _ => rfl
  | k + 1, i, hf, hg => by
    rw [gc_cmp, gc_cmp, hf i (Nat.le_refl i) (by omega), hg i (Nat.le_refl i) (by omega), cq_congr k (i + 1) (fun j h1 h2 => hf j (by omega) (by omega)) (fun j h1 h2 => hg j (by omega) (by omega))]
theorem cq_trans {f g h : Nat → Int32} : ∀ k i, gc_cmp f g k i < 0 → gc_cmp g h k i < 0 → gc_cmp f h k i < 0
  | 0, _, a, _ => absurd (show (0 : Int32) < 0 from a) (by decide)
  | k + 1, i, a, b => by
    rw [gc_cmp] at a b ⊢
    by_cases e1 : f i = g i
    · rw [if_pos e1] at a
      by_cases e2 : g i = h i
      · rw [if_pos e2] at b
        rw [if_pos (e1.trans e2)]
        exact cq_trans k (i + 1) a b
      · rw [if_neg e2] at b
        rw [e1, if_neg e2]
        exact b
    · rw [if_neg e1] at a
      by_cases l1 : f i < g i
      · by_cases e2 : g i = h i
        · rw [← e2, if_neg e1, if_pos l1]; decide
        · rw [if_neg e2] at b
          by_cases l2 : g i < h i
          · have l3 := Int32.lt_trans l1 l2
            rw [if_neg (Int32.ne_of_lt l3), if_pos l3]; decide
          · rw [if_neg l2] at b
            exact absurd b (by decide)
      · rw [if_neg l1] at a
        exact absurd a (by decide)
theorem cq_split (f g : Nat → Int32) : ∀ k i m, gc_cmp f g (k + m) i < 0 ↔ gc_cmp f g k i < 0 ∨ (gc_cmp f g k i = 0 ∧ gc_cmp f g m (i + k) < 0)
  | 0, i, m => by
    rw [Nat.zero_add]
    exact ⟨fun h => Or.inr ⟨rfl, h⟩, fun h => h.elim (fun z => absurd z (by show ¬ (0 : Int32) < 0; decide)) (fun z => z.2)⟩
  | k + 1, i, m => by
    rw [show k + 1 + m = (k + m) + 1 by omega, gc_cmp, gc_cmp]
    by_cases e : f i = g i
    · rw [if_pos e, if_pos e, cq_split f g k (i + 1) m, show i + 1 + k = i + (k + 1) by omega]
    · rw [if_neg e, if_neg e]
      constructor
      · intro h; exact Or.inl h
      · intro h
        rcases h with h | ⟨h, _⟩
        · exact h
        · split at h
          · exact absurd h (by decide)
          · exact absurd h (by decide)
end
section
/-! one step of announcing and choosing, cell by cell -/
theorem gb_inv {σ : Type} (f : Nat → σ → σ) (n : Nat) (I : Nat → σ → Prop) (hf : ∀ i s, i < n → I i s → I (i + 1) (f i s)) : ∀ k i s, i + k = n → I i s → I n (gs_it f k i s)
  | 0, i, s, hi, h => by
    obtain rfl : i = n := by omega
    exact h
  | k + 1, i, s, hi, h => gb_inv f n I hf k (i + 1) (f i s) (by omega) (hf i s (by omega) h)
section
variable {N L : Nat} {tm : Int32} {lu ec es RW R : Nat → Int32}
theorem gb_ageo {e e' f : Nat} (h : e' ≠ e) (hf : f < 10) : gs_age tm e' R ((16 + e) * 10 + f) = R ((16 + e) * 10 + f) := by
  unfold gs_age
  split
  · rfl
  · split
    · rw [gc_cp_out (by omega), pk_un (by omega)]
    · rw [pk_un (by omega)]
theorem gb_lo {e e' f : Nat} (h : e' ≠ e) (hf : f < 10) : gs_listen tm lu ec es e' R ((16 + e) * 10 + f) = R ((16 + e) * 10 + f) := by
  unfold gs_listen
  split
  · rfl
  · split
    · rw [gc_cp_out (by omega)]
    · exact gb_ageo h hf
theorem gb_agelo {e j : Nat} (h : j < 160) : gs_age tm e R j = R j := by
  unfold gs_age
  split
  · rfl
  · split
    · rw [gc_cp_out (by omega), pk_un (by omega)]
    · rw [pk_un (by omega)]
theorem gb_llo {e j : Nat} (h : j < 160) : gs_listen tm lu ec es e R j = R j := by
  unfold gs_listen
  split
  · rfl
  · split
    · rw [gc_cp_out (by omega)]
    · exact gb_agelo h
theorem gb_agec {e : Nat} (h : ∀ f, f < 10 → R ((16 + e) * 10 + f) = RW ((16 + e) * 10 + f)) : ∀ f, f < 10 → gs_age tm e R ((16 + e) * 10 + f) = gs_age tm e RW ((16 + e) * 10 + f) := by
  intro f hf
  unfold gs_age
  rw [h 8 (by omega), h 9 (by omega)]
  split
  · exact h f hf
  · split
    · rw [gc_cp_in hf, gc_cp_in hf]
    · by_cases q : f = 9
      · subst q; rw [pk_us, pk_us]
      · rw [pk_un (by omega), pk_un (by omega)]; exact h f hf
theorem gb_lc {e : Nat} (hv : (ec (gc_ot e)).toNatClampNeg < 8) (h0 : ∀ j, j < 160 → R j = RW j) (h : ∀ f, f < 10 → R ((16 + e) * 10 + f) = RW ((16 + e) * 10 + f)) : ∀ f, f < 10 → gs_listen tm lu ec es e R ((16 + e) * 10 + f) = gs_listen tm lu ec es e RW ((16 + e) * 10 + f) := by
  intro f hf
  unfold gs_listen
  rw [h0 ((8 + (ec (gc_ot e)).toNatClampNeg) * 10 + 6) (by omega), h0 ((8 + (ec (gc_ot e)).toNatClampNeg) * 10 + 5) (by omega)]
  split
  · exact h f hf
  · split
    · rw [gc_cp_in hf, gc_cp_in hf]; exact h0 _ (by omega)
    · exact gb_agec h f hf
/-- every end listens to what stood before -/
theorem gb_listen (hE : ∀ e, e < 2 * L → (ec (gc_ot e)).toNatClampNeg < 8) : (∀ j, j < 160 → gs_it (gs_listen tm lu ec es) (2 * L) 0 RW j = RW j) ∧ ∀ e, e < 2 * L → ∀ f, f < 10 → gs_it (gs_listen tm lu ec es) (2 * L) 0 RW ((16 + e) * 10 + f) = gs_listen tm lu ec es e RW ((16 + e) * 10 + f) := by
  have H := gb_inv (gs_listen tm lu ec es) (2 * L) (fun i R => (∀ j, j < 160 → R j = RW j) ∧ ∀ e, e < 2 * L → ∀ f, f < 10 → R ((16 + e) * 10 + f) = if e < i then gs_listen tm lu ec es e RW ((16 + e) * 10 + f) else RW ((16 + e) * 10 + f)) (by
    intro i s hi ⟨h1, h2⟩
    refine ⟨fun j hj => (gb_llo hj).trans (h1 j hj), fun e he f hf => ?_⟩
    by_cases q : i = e
    · subst q
      rw [if_pos (by omega)]
      refine gb_lc (hE i hi) h1 (fun f hf => ?_) f hf
      have := h2 i hi f hf
      rw [if_neg (by omega)] at this
      exact this
    · rw [gb_lo q hf, h2 e he f hf]
      by_cases r : e < i
      · rw [if_pos r, if_pos (by omega)]
      · rw [if_neg r, if_neg (by omega)]) (2 * L) 0 RW (by omega) ⟨fun _ _ => rfl, fun e he f hf => (if_neg (by omega)).symm⟩
  refine ⟨H.1, fun e he f hf => ?_⟩
  have := H.2 e he f hf
  rw [if_pos he] at this
  exact this
/-- what a clock shows that follows itself, or end b -/
def gb_self (L : Nat) (lu ec R : Nat → Int32) (c : Nat) (s : (Nat → Int32) × (Nat → Int32) × (Nat → Int32) × (Nat → Int32)) : Prop :=
  (∀ f, f < 10 → s.1 ((8 + c) * 10 + f) = R (c * 10 + f)) ∧ s.2.1 c = -1 ∧ s.2.2.1 c = -1 ∧ ∀ e, e < 2 * L → ec e = nI c → ¬ lu (e / 2) = 0 → s.2.2.2 e = 1
def gb_foll (L : Nat) (lu ec R : Nat → Int32) (c b : Nat) (s : (Nat → Int32) × (Nat → Int32) × (Nat → Int32) × (Nat → Int32)) : Prop :=
  (∀ f, f < 10 → s.1 ((8 + c) * 10 + f) = gc_fR R c b ((8 + c) * 10 + f)) ∧ s.2.1 c = R ((16 + b) * 10 + 7) ∧ s.2.2.1 c = nI (b / 2) ∧ ∀ e, e < 2 * L → ec e = nI c → ¬ lu (e / 2) = 0 → s.2.2.2 e = if e = b then 2 else gs_pst (gc_fR R c b) c e
def gb_Out (L : Nat) (lu ec R : Nat → Int32) (c : Nat) (s : (Nat → Int32) × (Nat → Int32) × (Nat → Int32) × (Nat → Int32)) : Prop :=
  (gs_best L lu ec R c = none → gb_self L lu ec R c s) ∧ ∀ b, gs_best L lu ec R c = some b → (gs_cmp R (c * 10) ((16 + b) * 10) 6 < 0 → gb_self L lu ec R c s) ∧ (¬ gs_cmp R (c * 10) ((16 + b) * 10) 6 < 0 → gb_foll L lu ec R c b s)
theorem gb_cmpc {x y x' y' k : Nat} (h1 : ∀ f, f < k → R (x + f) = RW (x' + f)) (h2 : ∀ f, f < k → R (y + f) = RW (y' + f)) : gs_cmp R x y k = gs_cmp RW x' y' k :=
  cq_congr k 0 (fun j _ hj => h1 j (by omega)) (fun j _ hj => h2 j (by omega))
theorem gb_bestc {c : Nat} (h : ∀ j, 160 ≤ j → R j = RW j) : gs_best L lu ec R c = gs_best L lu ec RW c := by
  unfold gs_best
  have e : gs_bs lu ec R c = gs_bs lu ec RW c := by
    funext i b
    unfold gs_bs
    rw [h ((16 + i) * 10 + 8) (by omega)]
    cases b with
    | none => rfl
    | some j =>
      dsimp only
      rw [gb_cmpc (R := R) (RW := RW) (x := (16 + i) * 10) (y := (16 + j) * 10) (x' := (16 + i) * 10) (y' := (16 + j) * 10) (k := 8) (fun f _ => h _ (by omega)) (fun f _ => h _ (by omega))]
  rw [e]
theorem gb_fR {c b f : Nat} (hf : f < 10) : gc_fR R c b ((8 + c) * 10 + f) = if f = 6 then R ((16 + b) * 10 + 6) + 1 else if f = 7 then nI c else if f = 9 then 0 else R ((16 + b) * 10 + f) := by
  unfold gc_fR
  by_cases h9 : f = 9
  · subst h9
    rw [pk_us]; rfl
  · rw [pk_un (by omega)]
    by_cases h7 : f = 7
    · subst h7
      rw [pk_us]; rfl
    · rw [pk_un (by omega)]
      by_cases h6 : f = 6
      · subst h6
        rw [pk_us]; rfl
      · rw [pk_un (by omega), gc_cp_in hf, if_neg h6, if_neg h7, if_neg h9]
theorem gb_fRc {c b f : Nat} (hf : f < 10) (h : ∀ j, 160 ≤ j → R j = RW j) : gc_fR R c b ((8 + c) * 10 + f) = gc_fR RW c b ((8 + c) * 10 + f) := by
  rw [gb_fR hf, gb_fR hf, h _ (by omega), h _ (by omega)]
theorem gb_pstc {c b e : Nat} (hc : c < 8) (h : ∀ j, 160 ≤ j → R j = RW j) : gs_pst (gc_fR R c b) c e = gs_pst (gc_fR RW c b) c e := by
  unfold gs_pst
  rw [gc_fRout (by omega), gc_fRout (by omega), h _ (by omega), gb_cmpc (R := gc_fR R c b) (RW := gc_fR RW c b) (x := (16 + e) * 10) (y := (8 + c) * 10) (x' := (16 + e) * 10) (y' := (8 + c) * 10) (k := 8) (fun f _ => by rw [gc_fRout (by omega), gc_fRout (by omega)]; exact h _ (by omega)) (fun f hf => gb_fRc (by omega) h)]
theorem gb_out1 {c : Nat} {s : (Nat → Int32) × (Nat → Int32) × (Nat → Int32) × (Nat → Int32)} (hc : c < 8) (h0 : ∀ j, j < 80 → s.1 j = RW j) (h1 : ∀ j, 160 ≤ j → s.1 j = RW j) : gb_Out L lu ec RW c (gs_choose L lu ec c s) := by
  obtain ⟨R, pa, pl, es⟩ := s
  have h0' : ∀ j, j < 80 → R j = RW j := h0
  have h1' : ∀ j, 160 ≤ j → R j = RW j := h1
  have hb : gs_best L lu ec R c = gs_best L lu ec RW c := gb_bestc h1'
  have hs : gb_self L lu ec RW c (gs_self L lu ec c R pa pl es) :=
    ⟨fun f hf => (gc_cp_in hf).trans (h0' _ (by omega)), pk_us, pk_us, fun e he h2 h3 => if_pos ⟨he, h2, h3⟩⟩
  refine ⟨fun hn => ?_, fun b hq => ⟨fun w => ?_, fun w => ?_⟩⟩
  · rw [← hb] at hn
    unfold gs_choose
    rw [hn]
    exact hs
  · rw [← hb] at hq
    rw [← gb_cmpc (R := R) (RW := RW) (x := c * 10) (y := (16 + b) * 10) (x' := c * 10) (y' := (16 + b) * 10) (k := 6) (fun f hf => h0' _ (by omega)) (fun f hf => h1' _ (by omega))] at w
    unfold gs_choose
    rw [hq]
    dsimp only
    rw [if_pos w]
    exact hs
  · rw [← hb] at hq
    rw [← gb_cmpc (R := R) (RW := RW) (x := c * 10) (y := (16 + b) * 10) (x' := c * 10) (y' := (16 + b) * 10) (k := 6) (fun f hf => h0' _ (by omega)) (fun f hf => h1' _ (by omega))] at w
    unfold gs_choose
    rw [hq]
    dsimp only
    rw [if_neg w]
    refine ⟨fun f hf => gb_fRc hf h1', ?_, pk_us, fun e he h2 h3 => ?_⟩
    · show upd pa c (R ((16 + b) * 10 + 7)) c = _
      rw [pk_us]; exact h1' _ (by omega)
    · show upd (gc_fol ec lu es (gs_pst (gc_fR R c b) c) c (2 * L)) b 2 e = _
      by_cases q : e = b
      · rw [if_pos q, q, pk_us]
      · rw [if_neg q, pk_un q, ← gb_pstc hc h1']
        exact if_pos ⟨he, h2, h3⟩
/-- what a clock's choice leaves alone -/
theorem gb_frm {c : Nat} {s : (Nat → Int32) × (Nat → Int32) × (Nat → Int32) × (Nat → Int32)} : (∀ j, j < (8 + c) * 10 ∨ (8 + c) * 10 + 10 ≤ j → (gs_choose L lu ec c s).1 j = s.1 j) ∧ (∀ d, d ≠ c → (gs_choose L lu ec c s).2.1 d = s.2.1 d ∧ (gs_choose L lu ec c s).2.2.1 d = s.2.2.1 d) ∧ ∀ e, ¬ ec e = nI c → (gs_choose L lu ec c s).2.2.2 e = s.2.2.2 e := by
  obtain ⟨R, pa, pl, es⟩ := s
  have ok : gs_okb L lu ec R c (gs_best L lu ec R c) := gs_best_ok
  have hs : ∀ p : Nat → Int32, ∀ e, ¬ ec e = nI c → gc_fol ec lu es p c (2 * L) e = es e := fun p e h => if_neg (fun z => h z.2.1)
  have A : (∀ j, j < (8 + c) * 10 ∨ (8 + c) * 10 + 10 ≤ j → (gs_self L lu ec c R pa pl es).1 j = R j) ∧ (∀ d, d ≠ c → (gs_self L lu ec c R pa pl es).2.1 d = pa d ∧ (gs_self L lu ec c R pa pl es).2.2.1 d = pl d) ∧ ∀ e, ¬ ec e = nI c → (gs_self L lu ec c R pa pl es).2.2.2 e = es e :=
    ⟨fun j hj => gc_cp_out hj, fun d hd => ⟨pk_un hd, pk_un hd⟩, fun e he => hs (fun _ => 1) e he⟩
  unfold gs_choose
  dsimp only
  cases hq : gs_best L lu ec R c with
  | none => exact A
  | some b =>
    rw [hq] at ok
    dsimp only
    by_cases w : gs_cmp R (c * 10) ((16 + b) * 10) 6 < 0
    · rw [if_pos w]; exact A
    · rw [if_neg w]
      refine ⟨fun j hj => gc_fRout hj, fun d hd => ⟨pk_un hd, pk_un hd⟩, fun e he => ?_⟩
      show upd (gc_fol ec lu es (gs_pst (gc_fR R c b) c) c (2 * L)) b 2 e = es e
      rw [pk_un (fun z => he (by rw [z]; exact ok.2.1))]
      exact hs _ e he
/-- every clock chooses by the stores that stood before -/
theorem gb_choose {s : (Nat → Int32) × (Nat → Int32) × (Nat → Int32) × (Nat → Int32)} (hN : N ≤ 8) : (∀ j, j < 80 ∨ 160 ≤ j → (gs_it (gs_choose L lu ec) N 0 s).1 j = s.1 j) ∧ ∀ c, c < N → gb_Out L lu ec s.1 c (gs_it (gs_choose L lu ec) N 0 s) := by
  have H := gb_inv (gs_choose L lu ec) N (fun i r => (∀ j, j < 80 ∨ 160 ≤ j → r.1 j = s.1 j) ∧ ∀ c, c < i → gb_Out L lu ec s.1 c r) (by
    intro i r hi ⟨h1, h2⟩
    have F := gb_frm (L := L) (lu := lu) (ec := ec) (c := i) (s := r)
    refine ⟨fun j hj => (F.1 j (by omega)).trans (h1 j hj), fun c hc => ?_⟩
    by_cases q : c = i
    · subst q
      exact gb_out1 (by omega) (fun j hj => h1 j (Or.inl hj)) (fun j hj => h1 j (Or.inr hj))
    · have O := h2 c (by omega)
      have hv : ∀ f, f < 10 → (gs_choose L lu ec i r).1 ((8 + c) * 10 + f) = r.1 ((8 + c) * 10 + f) := fun f hf => F.1 _ (by omega)
      have hp := F.2.1 c q
      have he : ∀ e, ec e = nI c → (gs_choose L lu ec i r).2.2.2 e = r.2.2.2 e := fun e h => F.2.2 e (fun z => q ((nI_eq (by omega) (by omega)).mp (h.symm.trans z)))
      have ks : gb_self L lu ec s.1 c r → gb_self L lu ec s.1 c (gs_choose L lu ec i r) := fun ⟨a, b, d, g⟩ =>
        ⟨fun f hf => (hv f hf).trans (a f hf), hp.1.trans b, hp.2.trans d, fun e z1 z2 z3 => (he e z2).trans (g e z1 z2 z3)⟩
      have kf : ∀ b, gb_foll L lu ec s.1 c b r → gb_foll L lu ec s.1 c b (gs_choose L lu ec i r) := fun b ⟨a, b', d, g⟩ =>
        ⟨fun f hf => (hv f hf).trans (a f hf), hp.1.trans b', hp.2.trans d, fun e z1 z2 z3 => (he e z2).trans (g e z1 z2 z3)⟩
      exact ⟨fun z => ks (O.1 z), fun b z => ⟨fun w => ks ((O.2 b z).1 w), fun w => kf b ((O.2 b z).2 w)⟩⟩) N 0 s (by omega) ⟨fun _ _ => rfl, fun c hc => absurd hc (by omega)⟩
  exact H
end
end
section
/-! settling, over an abstract network: clocks below n, ends below E, walks over ends that are up -/
def cv_Net (n E : Nat) (ck ot : Nat → Nat) (up : Nat → Prop) : Prop := ∀ e, e < E → ck e < n ∧ ot e < E ∧ ot (ot e) = e ∧ (up e → up (ot e))
/-- a walk of length j from g to c -/
def cv_W (E : Nat) (ck ot : Nat → Nat) (up : Nat → Prop) (g : Nat) : Nat → Nat → Prop
  | 0, c => c = g
  | j + 1, c => ∃ e, e < E ∧ up e ∧ ck e = c ∧ cv_W E ck ot up g j (ck (ot e))
/-- a vector that some clock g in reach could have sent -/
def cv_S {K : Type} (n E : Nat) (ck ot : Nat → Nat) (up : Nat → Prop) (D : Nat → K) (c : Nat) (k : K) (s : Nat) : Prop := ∃ g j, g < n ∧ k = D g ∧ j ≤ s ∧ cv_W E ck ot up g j c
def cv_lx {K : Type} (lt : K → K → Prop) (k : K) (s d : Nat) (k' : K) (s' d' : Nat) : Prop := lt k k' ∨ (k = k' ∧ (s < s' ∨ (s = s' ∧ d < d')))
/-- listening -/
def cv_A {K : Type} (E : Nat) (ck ot : Nat → Nat) (up : Nat → Prop) (idk : K → Nat) (kv : Nat → Nat → K) (sv : Nat → Nat → Nat) (ok : Nat → Nat → Prop) (ks : Nat → Nat → K) (ss sd ag pt : Nat → Nat → Nat) : Prop :=
  ∀ t e, e < E → up e →
    ((pt t (ot e) = 1 ∧ sv t (ck (ot e)) ≤ 6 ∧ idk (kv t (ck (ot e))) ≠ ck e) → ok (t + 1) e ∧ ks (t + 1) e = kv t (ck (ot e)) ∧ ss (t + 1) e = sv t (ck (ot e)) ∧ sd (t + 1) e = ck (ot e) ∧ ag (t + 1) e = 0) ∧
    (¬ (pt t (ot e) = 1 ∧ sv t (ck (ot e)) ≤ 6 ∧ idk (kv t (ck (ot e))) ≠ ck e) → ok (t + 1) e → ok t e ∧ ks (t + 1) e = ks t e ∧ ss (t + 1) e = ss t e ∧ sd (t + 1) e = sd t e ∧ ag (t + 1) e = ag t e + 1)
/-- what holds of every valid store -/
def cv_I {K : Type} (E T : Nat) (ck ot : Nat → Nat) (up : Nat → Prop) (idk : K → Nat) (ok : Nat → Nat → Prop) (ks : Nat → Nat → K) (ss sd ag : Nat → Nat → Nat) : Prop :=
  ∀ t e, e < E → up e → ok t e → ag t e < T ∧ ss t e ≤ 6 ∧ idk (ks t e) ≠ ck e ∧ sd t e = ck (ot e)
/-- choosing -/
def cv_C {K : Type} (n E : Nat) (ck ot : Nat → Nat) (up : Nat → Prop) (lt : K → K → Prop) (D : Nat → K) (kv : Nat → Nat → K) (sv : Nat → Nat → Nat) (ok : Nat → Nat → Prop) (ks : Nat → Nat → K) (ss sd pt : Nat → Nat → Nat) (pa : Nat → Nat → Option Nat) (pl : Nat → Nat → Nat → Prop) : Prop :=
  ∀ t c, c < n →
    (kv (t + 1) c = D c ∧ sv (t + 1) c = 0 ∧ pa (t + 1) c = none ∧ (∀ e, e < E → up e → ck e = c → pt (t + 1) e = 1) ∧
      ∀ e, e < E → up e → ck e = c → ok (t + 1) e → ∃ b, b < E ∧ up b ∧ ck b = c ∧ ok (t + 1) b ∧ lt (D c) (ks (t + 1) b) ∧ ¬ cv_lx lt (ks (t + 1) e) (ss (t + 1) e) (sd (t + 1) e) (ks (t + 1) b) (ss (t + 1) b) (sd (t + 1) b)) ∨
    (∃ b, b < E ∧ up b ∧ ck b = c ∧ ok (t + 1) b ∧ ¬ lt (D c) (ks (t + 1) b) ∧
      (∀ e, e < E → up e → ck e = c → ok (t + 1) e → ¬ cv_lx lt (ks (t + 1) e) (ss (t + 1) e) (sd (t + 1) e) (ks (t + 1) b) (ss (t + 1) b) (sd (t + 1) b)) ∧
      kv (t + 1) c = ks (t + 1) b ∧ sv (t + 1) c = ss (t + 1) b + 1 ∧ pa (t + 1) c = some (sd (t + 1) b) ∧ pl (t + 1) c b ∧ pt (t + 1) b = 2 ∧
      ∀ e, e < E → up e → ck e = c → e ≠ b → pt (t + 1) e = 1 ∨ (ok (t + 1) e ∧ cv_lx lt (ks (t + 1) e) (ss (t + 1) e) (sd (t + 1) e) (kv (t + 1) c) (sv (t + 1) c) c))
section
variable {K : Type} {n E T : Nat} {ck ot : Nat → Nat} {up : Nat → Prop} {lt : K → K → Prop} {idk : K → Nat} {D : Nat → K} {kv : Nat → Nat → K} {sv : Nat → Nat → Nat} {ok : Nat → Nat → Prop} {ks : Nat → Nat → K} {ss sd ag pt : Nat → Nat → Nat} {pa : Nat → Nat → Option Nat} {pl : Nat → Nat → Nat → Prop}
/-- unsound vectors have at least j steps, unsound stores too -/
def cv_Uv (n E : Nat) (ck ot : Nat → Nat) (up : Nat → Prop) (D : Nat → K) (kv : Nat → Nat → K) (sv : Nat → Nat → Nat) (j t : Nat) : Prop := ∀ c, c < n → ¬ cv_S n E ck ot up D c (kv t c) (sv t c) → j ≤ sv t c
def cv_Us (n E : Nat) (ck ot : Nat → Nat) (up : Nat → Prop) (D : Nat → K) (ok : Nat → Nat → Prop) (ks : Nat → Nat → K) (ss : Nat → Nat → Nat) (j t : Nat) : Prop := ∀ e, e < E → up e → ok t e → ¬ cv_S n E ck ot up D (ck (ot e)) (ks t e) (ss t e) → j ≤ ss t e
theorem cv_S1 {c e s : Nat} {k : K} (hE : e < E) (hu : up e) (hc : ck e = c) (h : cv_S n E ck ot up D (ck (ot e)) k s) : cv_S n E ck ot up D c k (s + 1) := by
  obtain ⟨g, j, hg, hk, hj, hw⟩ := h
  exact ⟨g, j + 1, hg, hk, by omega, e, hE, hu, hc, hw⟩
theorem cv_S0 {c : Nat} (hc : c < n) : cv_S n E ck ot up D c (D c) 0 := ⟨c, 0, hc, rfl, Nat.le_refl 0, rfl⟩
/-- one step: vectors out of stores -/
theorem cv_v1 {j t : Nat} (HC : cv_C n E ck ot up lt D kv sv ok ks ss sd pt pa pl) (hs : cv_Us n E ck ot up D ok ks ss j (t + 1)) : cv_Uv n E ck ot up D kv sv (j + 1) (t + 1) := by
  intro c hc hn
  rcases HC t c hc with ⟨h1, h2, _⟩ | ⟨b, hb, hu, hbc, hok, _, _, h1, h2, _⟩
  · rw [h1, h2] at hn
    exact absurd (cv_S0 hc) hn
  · rw [h1, h2] at hn
    have := hs b hb hu hok (fun z => hn (cv_S1 hb hu hbc z))
    omega
theorem cv_s1 {j t : Nat} (HN : cv_Net n E ck ot up) (HA : cv_A E ck ot up idk kv sv ok ks ss sd ag pt) (hv : cv_Uv n E ck ot up D kv sv j t) (hs : cv_Us n E ck ot up D ok ks ss j t) : cv_Us n E ck ot up D ok ks ss j (t + 1) := by
  intro e he hu hok hn
  obtain ⟨ha, hb⟩ := HA t e he hu
  by_cases q : pt t (ot e) = 1 ∧ sv t (ck (ot e)) ≤ 6 ∧ idk (kv t (ck (ot e))) ≠ ck e
  · obtain ⟨_, h2, h3, _⟩ := ha q
    rw [h2, h3] at hn
    rw [h3]
    exact hv _ (HN _ (HN e he).2.1).1 hn
  · obtain ⟨h1, h2, h3, _⟩ := hb q hok
    rw [h2, h3] at hn
    rw [h3]
    exact hs e he hu h1 hn
theorem cv_keep {j t : Nat} (HN : cv_Net n E ck ot up) (HA : cv_A E ck ot up idk kv sv ok ks ss sd ag pt) (HC : cv_C n E ck ot up lt D kv sv ok ks ss sd pt pa pl) (hv : cv_Uv n E ck ot up D kv sv j t) (hs : cv_Us n E ck ot up D ok ks ss j t) : ∀ d, cv_Us n E ck ot up D ok ks ss j (t + d) ∧ cv_Uv n E ck ot up D kv sv j (t + d) ∧ cv_Uv n E ck ot up D kv sv (j + 1) (t + d + 1)
  | 0 => ⟨hs, hv, cv_v1 HC (cv_s1 HN HA hv hs)⟩
  | d + 1 => by
    obtain ⟨h1, h2, h3⟩ := cv_keep HN HA HC hv hs d
    have h4 : cv_Us n E ck ot up D ok ks ss j (t + d + 1) := cv_s1 HN HA h2 h1
    have h5 : cv_Uv n E ck ot up D kv sv j (t + d + 1) := fun c hc hn => Nat.le_of_succ_le (h3 c hc hn)
    exact ⟨h4, h5, cv_v1 HC (cv_s1 HN HA h5 h4)⟩
/-- stores younger than t - t0 have at least j + 1 steps where they are unsound -/
theorem cv_young {j t0 : Nat} (HN : cv_Net n E ck ot up) (HA : cv_A E ck ot up idk kv sv ok ks ss sd ag pt) (hv : ∀ d, cv_Uv n E ck ot up D kv sv j (t0 + d)) : ∀ d e, e < E → up e → ok (t0 + d) e → d ≤ ag (t0 + d) e ∨ (¬ cv_S n E ck ot up D (ck (ot e)) (ks (t0 + d) e) (ss (t0 + d) e) → j ≤ ss (t0 + d) e)
  | 0, _, _, _, _ => Or.inl (Nat.zero_le _)
  | d + 1, e, he, hu, hok => by
    obtain ⟨ha, hb⟩ := HA (t0 + d) e he hu
    by_cases q : pt (t0 + d) (ot e) = 1 ∧ sv (t0 + d) (ck (ot e)) ≤ 6 ∧ idk (kv (t0 + d) (ck (ot e))) ≠ ck e
    · obtain ⟨_, h2, h3, _⟩ := ha q
      refine Or.inr (fun hn => ?_)
      have e1 : t0 + (d + 1) = t0 + d + 1 := rfl
      rw [e1] at hn ⊢
      rw [h2, h3] at hn
      rw [h3]
      exact hv d _ (HN _ (HN e he).2.1).1 hn
    · obtain ⟨h1, h2, h3, _, h5⟩ := hb q hok
      have e1 : t0 + (d + 1) = t0 + d + 1 := rfl
      rcases cv_young HN HA hv d e he hu h1 with h | h
      · refine Or.inl ?_
        rw [e1, h5]
        omega
      · refine Or.inr ?_
        rw [e1, h2, h3]
        exact h
theorem cv_level {j t : Nat} (HN : cv_Net n E ck ot up) (HA : cv_A E ck ot up idk kv sv ok ks ss sd ag pt) (HI : cv_I E T ck ot up idk ok ks ss sd ag) (HC : cv_C n E ck ot up lt D kv sv ok ks ss sd pt pa pl) (hv : cv_Uv n E ck ot up D kv sv j t) (hs : cv_Us n E ck ot up D ok ks ss j t) : cv_Uv n E ck ot up D kv sv (j + 1) (t + 1 + T) ∧ cv_Us n E ck ot up D ok ks ss (j + 1) (t + 1 + T) := by
  have K1 := cv_keep HN HA HC hv hs
  have hv1 : ∀ d, cv_Uv n E ck ot up D kv sv (j + 1) (t + 1 + d) := by
    intro d
    have := (K1 d).2.2
    rw [show t + 1 + d = t + d + 1 by omega]
    exact this
  refine ⟨hv1 T, fun e he hu hok hn => ?_⟩
  rcases cv_young HN HA hv1 T e he hu hok with h | h
  · have := (HI _ e he hu hok).1
    omega
  · exact h hn
theorem cv_levels (HN : cv_Net n E ck ot up) (HA : cv_A E ck ot up idk kv sv ok ks ss sd ag pt) (HI : cv_I E T ck ot up idk ok ks ss sd ag) (HC : cv_C n E ck ot up lt D kv sv ok ks ss sd pt pa pl) : ∀ j, cv_Uv n E ck ot up D kv sv j (j * (T + 1)) ∧ cv_Us n E ck ot up D ok ks ss j (j * (T + 1))
  | 0 => ⟨fun _ _ _ => Nat.zero_le _, fun _ _ _ _ _ => Nat.zero_le _⟩
  | j + 1 => by
    obtain ⟨h1, h2⟩ := cv_levels HN HA HI HC j
    have := cv_level HN HA HI HC h1 h2
    rw [show j * (T + 1) + 1 + T = (j + 1) * (T + 1) by rw [Nat.succ_mul]; omega] at this
    exact this
/-- from 7 (T + 1) on every store is sound -/
theorem cv_sound (HN : cv_Net n E ck ot up) (HA : cv_A E ck ot up idk kv sv ok ks ss sd ag pt) (HI : cv_I E T ck ot up idk ok ks ss sd ag) (HC : cv_C n E ck ot up lt D kv sv ok ks ss sd pt pa pl) {t : Nat} (ht : 7 * (T + 1) ≤ t) {e : Nat} (he : e < E) (hu : up e) (hok : ok t e) : cv_S n E ck ot up D (ck (ot e)) (ks t e) (ss t e) := by
  obtain ⟨h1, h2⟩ := cv_levels HN HA HI HC 7
  have h3 := (cv_keep HN HA HC h1 h2 (t - 7 * (T + 1))).1
  rw [show 7 * (T + 1) + (t - 7 * (T + 1)) = t by omega] at h3
  apply Classical.byContradiction
  intro hn
  have a := h3 e he hu hok hn
  have b := (HI t e he hu hok).2.1
  omega
end
section
variable {E : Nat} {ck ot : Nat → Nat} {up : Nat → Prop}
theorem cv_cons {n : Nat} (HN : cv_Net n E ck ot up) {g e : Nat} (he : e < E) (hu : up e) (hg : ck (ot e) = g) : ∀ j c, cv_W E ck ot up (ck e) j c → cv_W E ck ot up g (j + 1) c
  | 0, c, h => ⟨e, he, hu, h.symm, hg⟩
  | j + 1, c, h => by
    obtain ⟨f, hf, hfu, hfc, hw⟩ := h
    exact ⟨f, hf, hfu, hfc, cv_cons HN he hu hg j _ hw⟩
theorem cv_rev {n : Nat} (HN : cv_Net n E ck ot up) {g : Nat} : ∀ j c, cv_W E ck ot up g j c → cv_W E ck ot up c j g
  | 0, c, h => h.symm
  | j + 1, c, h => by
    obtain ⟨f, hf, hfu, hfc, hw⟩ := h
    obtain ⟨_, h2, h3, h4⟩ := HN f hf
    have r := cv_rev HN j _ hw
    have k := cv_cons HN (g := ck f) h2 (h4 hfu) (by rw [h3]) j g r
    rw [hfc] at k
    exact k
theorem cv_trans {g c i : Nat} (h : cv_W E ck ot up g i c) : ∀ k b, cv_W E ck ot up c k b → cv_W E ck ot up g (i + k) b
  | 0, b, hb => by
    have hb' : b = c := hb
    rw [hb']
    exact h
  | k + 1, b, hb => by
    obtain ⟨f, hf, hfu, hfc, hw⟩ := hb
    exact ⟨f, hf, hfu, hfc, cv_trans h k _ hw⟩
end
/-- d is the distance of c from B -/
def cv_d (E : Nat) (ck ot : Nat → Nat) (up : Nat → Prop) (B c d : Nat) : Prop := cv_W E ck ot up B d c ∧ ∀ i, i < d → ¬ cv_W E ck ot up B i c
section
variable {K : Type} {n E T : Nat} {ck ot : Nat → Nat} {up : Nat → Prop} {lt : K → K → Prop} {idk : K → Nat} {D : Nat → K} {kv : Nat → Nat → K} {sv : Nat → Nat → Nat} {ok : Nat → Nat → Prop} {ks : Nat → Nat → K} {ss sd ag pt : Nat → Nat → Nat} {pa : Nat → Nat → Option Nat} {pl : Nat → Nat → Nat → Prop}
/-- what a settled clock shows -/
def cv_Z (E : Nat) (ck ot : Nat → Nat) (up : Nat → Prop) (D : Nat → K) (kv : Nat → Nat → K) (sv pt : Nat → Nat → Nat) (pa : Nat → Nat → Option Nat) (pl : Nat → Nat → Nat → Prop) (B t c d : Nat) : Prop :=
  kv t c = D B ∧ sv t c = d ∧ (∀ e, e < E → up e → ck e = c → (∀ i, i ≤ d → ¬ cv_W E ck ot up B i (ck (ot e))) → pt t e = 1) ∧
  (d = 0 → pa t c = none ∧ ∀ e, e < E → up e → ck e = c → pt t e = 1) ∧
  (∀ m, d = m + 1 → ∃ b, b < E ∧ up b ∧ ck b = c ∧ pl t c b ∧ pa t c = some (ck (ot b)) ∧ pt t b = 2 ∧ cv_W E ck ot up B m (ck (ot b)) ∧ ∀ e, e < E → up e → ck e = c → cv_W E ck ot up B m (ck (ot e)) → ck (ot b) ≤ ck (ot e))
theorem cv_settle (HN : cv_Net n E ck ot up) (HA : cv_A E ck ot up idk kv sv ok ks ss sd ag pt) (HI : cv_I E T ck ot up idk ok ks ss sd ag) (HC : cv_C n E ck ot up lt D kv sv ok ks ss sd pt pa pl)
    (hid : ∀ g, g < n → idk (D g) = g) (hir : ∀ k, ¬ lt k k) (has : ∀ k k', lt k k' → ¬ lt k' k) {B : Nat} (hB : B < n)
    (hbest : ∀ g, g < n → (∃ j, cv_W E ck ot up g j B) → g ≠ B → lt (D B) (D g)) :
    ∀ d, d ≤ 7 → ∀ t, 7 * (T + 1) + 1 + d ≤ t → ∀ c, c < n → cv_d E ck ot up B c d → cv_Z E ck ot up D kv sv pt pa pl B t c d := by
  intro d
  induction d with
  | zero =>
    intro _ t ht c hc hd
    have hcB : c = B := hd.1
    subst hcB
    obtain ⟨t', rfl⟩ : ∃ t', t = t' + 1 := ⟨t - 1, by omega⟩
    rcases HC t' c hc with ⟨h1, h2, h3, h4, _⟩ | ⟨b, hb, hbu, hbc, hok, hnl, _⟩
    · exact ⟨h1, h2, fun e he hu hec _ => h4 e he hu hec, fun _ => ⟨h3, h4⟩, fun m hm => absurd hm (by omega)⟩
    · obtain ⟨g, j, hg, hk, hj, hw⟩ := cv_sound HN HA HI HC (t := t' + 1) (by omega) hb hbu hok
      have hne := (HI _ b hb hbu hok).2.2.1
      rw [hk, hid g hg, hbc] at hne
      rw [hk] at hnl
      exact absurd (hbest g hg ⟨j + 1, b, hb, hbu, hbc, hw⟩ hne) hnl
  | succ m ih =>
    intro hm7 t ht c hc hd
    obtain ⟨t', rfl⟩ : ∃ t', t = t' + 1 := ⟨t - 1, by omega⟩
    have IH := ih (by omega) t' (by omega)
    have hcB : c ≠ B := fun z => hd.2 0 (by omega) z
    have hrev : cv_W E ck ot up c (m + 1) B := cv_rev HN _ _ hd.1
    have hlo : ∀ e, e < E → up e → ck e = c → ∀ i, cv_W E ck ot up B i (ck (ot e)) → m ≤ i := by
      intro e he hu hec i hw
      apply Classical.byContradiction
      intro hlt
      exact hd.2 (i + 1) (by omega) ⟨e, he, hu, hec, hw⟩
    have hin : ∀ e, e < E → up e → ck e = c → ok (t' + 1) e → ∃ g j, g < n ∧ ks (t' + 1) e = D g ∧ j ≤ ss (t' + 1) e ∧ cv_W E ck ot up g j (ck (ot e)) ∧ (g ≠ B → lt (D B) (D g)) := by
      intro e he hu hec hok
      obtain ⟨g, j, hg, hk, hj, hw⟩ := cv_sound HN HA HI HC (t := t' + 1) (by omega) he hu hok
      exact ⟨g, j, hg, hk, hj, hw, fun hne => hbest g hg ⟨_, cv_trans (i := j + 1) (c := c) ⟨e, he, hu, hec, hw⟩ _ _ hrev⟩ hne⟩
    have hget : ∀ e, e < E → up e → ck e = c → cv_W E ck ot up B m (ck (ot e)) → ok (t' + 1) e ∧ ks (t' + 1) e = D B ∧ ss (t' + 1) e = m ∧ sd (t' + 1) e = ck (ot e) := by
      intro e he hu hec hw
      obtain ⟨_, h2, h3, h4⟩ := HN e he
      have hq : cv_d E ck ot up B (ck (ot e)) m := ⟨hw, fun i hi hwi => absurd (hlo e he hu hec i hwi) (by omega)⟩
      obtain ⟨z1, z2, z3, _⟩ := IH (ck (ot e)) (HN _ h2).1 hq
      have hp : pt t' (ot e) = 1 := by
        refine z3 (ot e) h2 (h4 hu) rfl (fun i hi => ?_)
        rw [h3, hec]
        exact hd.2 i (by omega)
      obtain ⟨k1, k2, k3, k4, _⟩ := (HA t' e he hu).1 ⟨hp, by rw [z2]; omega, by rw [z1, hid B hB, hec]; exact fun z => hcB z.symm⟩
      exact ⟨k1, by rw [k2, z1], by rw [k3, z2], k4⟩
    obtain ⟨e0, he0, hu0, hc0, hw0⟩ := hd.1
    obtain ⟨a1, a2, a3, a4⟩ := hget e0 he0 hu0 hc0 hw0
    have hcl : lt (D B) (D c) := hbest c hc ⟨_, hrev⟩ hcB
    rcases HC t' c hc with ⟨_, _, _, _, h5⟩ | ⟨b, hb, hbu, hbc, hok, hnl, hmin, h1, h2, h3, h3l, h4, h5⟩
    · obtain ⟨b, hb, hbu, hbc, hok, hl, hn⟩ := h5 e0 he0 hu0 hc0 a1
      obtain ⟨g, j, hg, hk, hj, hw, hgb⟩ := hin b hb hbu hbc hok
      by_cases q : g = B
      · rw [hk, q] at hl
        exact absurd hcl (has _ _ hl)
      · exact absurd (Or.inl (by rw [a2, hk]; exact hgb q)) hn
    · obtain ⟨g, j, hg, hk, hj, hw, hgb⟩ := hin b hb hbu hbc hok
      have hn0 := hmin e0 he0 hu0 hc0 a1
      have q : g = B := Classical.byContradiction (fun q => hn0 (Or.inl (by rw [a2, hk]; exact hgb q)))
      subst q
      have hjm : m ≤ j := hlo b hb hbu hbc j hw
      have hs : ss (t' + 1) b = m := by
        apply Classical.byContradiction
        intro hne
        exact hn0 (Or.inr ⟨by rw [a2, hk], Or.inl (by omega)⟩)
      have hj2 : j = m := by omega
      subst hj2
      have hsd : sd (t' + 1) b = ck (ot b) := (HI _ b hb hbu hok).2.2.2
      refine ⟨by rw [h1, hk], by rw [h2, hs], fun e he hu hec hfar => ?_, fun z => absurd z (by omega), fun m' hm' => ?_⟩
      · have heb : e ≠ b := fun z => hfar j (by omega) (by rw [z]; exact hw)
        rcases h5 e he hu hec heb with h | ⟨ho, hx⟩
        · exact h
        · exfalso
          obtain ⟨g', j', hg', hk', hj', hw', hgb'⟩ := hin e he hu hec ho
          rw [h1, hk, hk', h2, hs] at hx
          by_cases q : g' = g
          · subst q
            have hj3 : ¬ j' ≤ j + 1 := fun z => hfar j' z hw'
            rcases hx with hx | ⟨_, hx⟩
            · exact hir _ hx
            · omega
          · have hl := hgb' q
            rcases hx with hx | ⟨hx, _⟩
            · exact has _ _ hl hx
            · rw [hx] at hl
              exact hir _ hl
      · have em : m' = j := by omega
        subst em
        refine ⟨b, hb, hbu, hbc, h3l, by rw [h3, hsd], h4, hw, fun e he hu hec hwe => ?_⟩
        obtain ⟨b1, b2, b3, b4⟩ := hget e he hu hec hwe
        have hn1 := hmin e he hu hec b1
        apply Classical.byContradiction
        intro hlt
        exact hn1 (Or.inr ⟨by rw [b2, hk], Or.inr ⟨by rw [b3, hs], by rw [b4, hsd]; omega⟩⟩)
end
end
section
/-! distances stay below n -/
theorem cv_ph : ∀ (n : Nat) (f : Nat → Nat), (∀ i, i ≤ n → f i < n) → ∃ i j, i < j ∧ j ≤ n ∧ f i = f j := by
  intro n
  induction n with
  | zero => intro f h; exact absurd (h 0 (Nat.le_refl 0)) (by omega)
  | succ n ih =>
    intro f h
    by_cases q : ∃ i, i ≤ n ∧ f i = f (n + 1)
    · obtain ⟨i, hi, e⟩ := q
      exact ⟨i, n + 1, by omega, Nat.le_refl _, e⟩
    · have hq : ∀ i, i ≤ n → f i ≠ f (n + 1) := fun i hi e => q ⟨i, hi, e⟩
      have hl := h (n + 1) (Nat.le_refl _)
      obtain ⟨i, j, hij, hj, e⟩ := ih (fun i => if f i = n then f (n + 1) else f i) (by
        intro i hi
        have h1 := h i (by omega)
        have h2 := hq i hi
        split <;> omega)
      have hi2 := hq i (by omega)
      have hj2 := hq j hj
      refine ⟨i, j, hij, by omega, ?_⟩
      by_cases a : f i = n
      · rw [if_pos a] at e
        by_cases b : f j = n
        · rw [a, b]
        · rw [if_neg b] at e
          exact absurd e.symm hj2
      · rw [if_neg a] at e
        by_cases b : f j = n
        · rw [if_pos b] at e
          exact absurd e hi2
        · rw [if_neg b] at e
          exact e
section
variable {n E : Nat} {ck ot : Nat → Nat} {up : Nat → Prop}
theorem cv_Wlt (HN : cv_Net n E ck ot up) {B : Nat} (hB : B < n) : ∀ j c, cv_W E ck ot up B j c → c < n
  | 0, c, h => by
    have h' : c = B := h
    rw [h']; exact hB
  | j + 1, c, h => by
    obtain ⟨e, he, _, hc, _⟩ := h
    rw [← hc]; exact (HN e he).1
theorem cv_pred {B c d : Nat} (h : cv_d E ck ot up B c (d + 1)) : ∃ x, cv_d E ck ot up B x d := by
  obtain ⟨⟨e, he, hu, hc, hw⟩, h2⟩ := h
  exact ⟨ck (ot e), hw, fun i hi hwi => h2 (i + 1) (by omega) ⟨e, he, hu, hc, hwi⟩⟩
theorem cv_all {B : Nat} : ∀ d c, cv_d E ck ot up B c d → ∀ i, i ≤ d → ∃ x, cv_d E ck ot up B x i
  | 0, c, h, i, hi => by
    obtain rfl : i = 0 := by omega
    exact ⟨c, h⟩
  | d + 1, c, h, i, hi => by
    by_cases q : i = d + 1
    · subst q; exact ⟨c, h⟩
    · obtain ⟨x, hx⟩ := cv_pred h
      exact cv_all d x hx i (by omega)
theorem cv_dlt (HN : cv_Net n E ck ot up) {B c d : Nat} (hB : B < n) (h : cv_d E ck ot up B c d) : d < n := by
  apply Classical.byContradiction
  intro hd
  have H : ∀ i, ∃ x, i ≤ n → cv_d E ck ot up B x i := by
    intro i
    by_cases q : i ≤ n
    · obtain ⟨x, hx⟩ := cv_all d c h i (by omega)
      exact ⟨x, fun _ => hx⟩
    · exact ⟨0, fun z => absurd z q⟩
  obtain ⟨f, hf⟩ := Classical.axiomOfChoice H
  obtain ⟨i, j, hij, hj, e⟩ := cv_ph n f (fun i hi => cv_Wlt HN hB i _ (hf i hi).1)
  have h1 := hf i (by omega)
  have h2 := hf j hj
  rw [e] at h1
  exact h2.2 i hij h1.1
theorem cv_hasd {B c j : Nat} (h : cv_W E ck ot up B j c) : ∃ d, d ≤ j ∧ cv_d E ck ot up B c d := by
  induction j using Nat.strongRecOn with
  | _ j ih =>
    by_cases q : ∃ i, i < j ∧ cv_W E ck ot up B i c
    · obtain ⟨i, hi, hw⟩ := q
      obtain ⟨d, hd, hh⟩ := ih i hi hw
      exact ⟨d, by omega, hh⟩
    · exact ⟨j, Nat.le_refl j, h, fun i hi hw => q ⟨i, hi, hw⟩⟩
end
end
section
/-! the step of announcing and choosing against the abstract network -/
theorem gb_min {L : Nat} {lu ec RW : Nat → Int32} {c : Nat} : (gs_best L lu ec RW c = none → ∀ e, e < 2 * L → ec e = nI c → ¬ lu (e / 2) = 0 → ¬ RW ((16 + e) * 10 + 8) = 1) ∧ ∀ b, gs_best L lu ec RW c = some b → ∀ e, e < 2 * L → ec e = nI c → ¬ lu (e / 2) = 0 → RW ((16 + e) * 10 + 8) = 1 → ¬ gs_cmp RW ((16 + e) * 10) ((16 + b) * 10) 8 < 0 := by
  have self : ∀ x, ¬ gs_cmp RW x x 8 < 0 := fun x => by
    have : gs_cmp RW x x 8 = 0 := gc_cmp_self _ _ _
    rw [this]; decide
  have H := gb_inv (gs_bs lu ec RW c) (2 * L) (fun i b => (b = none → ∀ e, e < i → ¬ (ec e = nI c ∧ ¬ lu (e / 2) = 0 ∧ RW ((16 + e) * 10 + 8) = 1)) ∧ ∀ j, b = some j → ∀ e, e < i → (ec e = nI c ∧ ¬ lu (e / 2) = 0 ∧ RW ((16 + e) * 10 + 8) = 1) → ¬ gs_cmp RW ((16 + e) * 10) ((16 + j) * 10) 8 < 0) (by
    intro i b hi ⟨h1, h2⟩
    unfold gs_bs
    by_cases q : ec i = nI c ∧ ¬ lu (i / 2) = 0 ∧ RW ((16 + i) * 10 + 8) = 1
    · rw [if_pos q]
      cases b with
      | none =>
        refine ⟨fun z => absurd z (Option.some_ne_none _), fun j hj e he hc => ?_⟩
        obtain rfl := Option.some.inj hj
        by_cases r : e = i
        · subst r; exact self _
        · exact absurd hc (h1 rfl e (by omega))
      | some k =>
        dsimp only
        by_cases w : gs_cmp RW ((16 + i) * 10) ((16 + k) * 10) 8 < 0
        · rw [if_pos w]
          refine ⟨fun z => absurd z (Option.some_ne_none _), fun j hj e he hc => ?_⟩
          obtain rfl := Option.some.inj hj
          by_cases r : e = i
          · subst r; exact self _
          · exact fun z => h2 k rfl e (by omega) hc (cq_trans 8 0 z w)
        · rw [if_neg w]
          refine ⟨fun z => absurd z (Option.some_ne_none _), fun j hj e he hc => ?_⟩
          obtain rfl := Option.some.inj hj
          by_cases r : e = i
          · subst r; exact w
          · exact h2 _ rfl e (by omega) hc
    · rw [if_neg q]
      refine ⟨fun z e he hc => ?_, fun j hj e he hc => ?_⟩
      · by_cases r : e = i
        · subst r; exact q hc
        · exact h1 z e (by omega) hc
      · by_cases r : e = i
        · subst r; exact absurd hc q
        · exact h2 j hj e (by omega) hc) (2 * L) 0 none (by omega) ⟨fun _ e he => absurd he (by omega), fun j hj => absurd hj.symm (Option.some_ne_none j)⟩
  exact ⟨fun z e he a b d => H.1 z e he ⟨a, b, d⟩, fun b z e he a a2 a3 => H.2 b z e he ⟨a, a2, a3⟩⟩
/-- six columns of a row -/
def ky_r (R : Nat → Int32) (x : Nat) : Nat → Int32 := fun f => if f < 6 then R (x + f) else 0
def kl_r (k k' : Nat → Int32) : Prop := gc_cmp k k' 6 0 < 0
theorem kl_ir (k : Nat → Int32) : ¬ kl_r k k := by
  unfold kl_r
  rw [gc_cmp_self]; decide
theorem kl_as (k k' : Nat → Int32) (h : kl_r k k') : ¬ kl_r k' k := by
  unfold kl_r at h ⊢
  rw [cq_lt] at h
  rw [cq_neg k k', h]; decide
theorem kl_cmp (R : Nat → Int32) (x y : Nat) : gs_cmp R x y 6 = gc_cmp (ky_r R x) (ky_r R y) 6 0 :=
  cq_congr 6 0 (fun j _ h => (if_pos (by omega)).symm) (fun j _ h => (if_pos (by omega)).symm)
theorem ky_eq {R : Nat → Int32} {x y : Nat} : gs_cmp R x y 6 = 0 ↔ ky_r R x = ky_r R y := by
  rw [kl_cmp, cq_eq0]
  constructor
  · intro h
    funext f
    by_cases q : f < 6
    · exact h f (by omega) (by omega)
    · unfold ky_r
      rw [if_neg q, if_neg q]
  · intro h j _ _
    rw [h]
theorem ky_lx {R : Nat → Int32} {x y s s' d d' : Nat} (hs : s < 2 ^ 31) (hs' : s' < 2 ^ 31) (hd : d < 2 ^ 31) (hd' : d' < 2 ^ 31) (e6 : R (x + 6) = nI s) (e6' : R (y + 6) = nI s') (e7 : R (x + 7) = nI d) (e7' : R (y + 7) = nI d') : gs_cmp R x y 8 < 0 ↔ cv_lx kl_r (ky_r R x) s d (ky_r R y) s' d' := by
  unfold gs_cmp
  rw [show (8 : Nat) = 6 + 2 by rfl, cq_split]
  have a : gc_cmp (fun f => R (x + f)) (fun f => R (y + f)) 6 0 = gs_cmp R x y 6 := rfl
  rw [a, ky_eq, kl_cmp]
  unfold cv_lx
  have b : gc_cmp (fun f => R (x + f)) (fun f => R (y + f)) 2 (0 + 6) < 0 ↔ s < s' ∨ (s = s' ∧ d < d') := by
    show gc_cmp (fun f => R (x + f)) (fun f => R (y + f)) 2 6 < 0 ↔ _
    rw [gc_cmp]
    try dsimp only
    rw [e6, e6', gc_cmp]
    try dsimp only
    rw [e7, e7', gc_cmp]
    by_cases p : s = s'
    · rw [if_pos (by rw [p])]
      by_cases q : d = d'
      · rw [if_pos (by rw [q])]
        constructor
        · intro h; exact absurd h (by decide)
        · intro h; omega
      · rw [if_neg (fun z => q ((nI_eq hd hd').mp z))]
        by_cases r : d < d'
        · rw [if_pos ((nI_ltI hd hd').mpr r)]
          exact ⟨fun _ => Or.inr ⟨p, r⟩, fun _ => by decide⟩
        · rw [if_neg (fun z => r ((nI_ltI hd hd').mp z))]
          constructor
          · intro h; exact absurd h (by decide)
          · intro h; omega
    · rw [if_neg (fun z => p ((nI_eq hs hs').mp z))]
      by_cases r : s < s'
      · rw [if_pos ((nI_ltI hs hs').mpr r)]
        exact ⟨fun _ => Or.inl r, fun _ => by decide⟩
      · rw [if_neg (fun z => r ((nI_ltI hs hs').mp z))]
        constructor
        · intro h; exact absurd h (by decide)
        · intro h; omega
  rw [b]
  rfl
/-- what holds of the rows at every time -/
def gv_I (N L T : Nat) (ec RW : Nat → Int32) : Prop :=
  (∀ c, c < N → RW (c * 10 + 5) = nI c ∧ RW (c * 10 + 6) = 0 ∧ RW (c * 10 + 7) = nI c ∧ RW (c * 10 + 8) = 1 ∧ RW (c * 10 + 9) = 0) ∧
  (∀ c, c < N → (∃ s, s ≤ 7 ∧ RW ((8 + c) * 10 + 6) = nI s) ∧ (∃ g, g < 8 ∧ RW ((8 + c) * 10 + 5) = nI g) ∧ RW ((8 + c) * 10 + 7) = nI c ∧ RW ((8 + c) * 10 + 8) = 1 ∧ RW ((8 + c) * 10 + 9) = 0) ∧
  (∀ e, e < 2 * L → RW ((16 + e) * 10 + 8) = 0 ∨ (RW ((16 + e) * 10 + 8) = 1 ∧ (∃ s, s ≤ 6 ∧ RW ((16 + e) * 10 + 6) = nI s) ∧ (∃ g, g < 8 ∧ RW ((16 + e) * 10 + 5) = nI g) ∧ ¬ RW ((16 + e) * 10 + 5) = ec e ∧ RW ((16 + e) * 10 + 7) = ec (gc_ot e) ∧ ∃ a, a < T ∧ RW ((16 + e) * 10 + 9) = nI a))
def gb_step (N L : Nat) (tm : Int32) (lu ec : Nat → Int32) (s : (Nat → Int32) × (Nat → Int32) × (Nat → Int32) × (Nat → Int32)) : (Nat → Int32) × (Nat → Int32) × (Nat → Int32) × (Nat → Int32) :=
  gs_it (gs_choose L lu ec) N 0 (gs_it (gs_listen tm lu ec s.2.2.2) (2 * L) 0 s.1, s.2.1, s.2.2.1, s.2.2.2)
section
variable {N L T : Nat} {lu ec es RW : Nat → Int32}
/-- the ends and their clocks: ck e is the clock at e -/
def gv_E (N L : Nat) (ec : Nat → Int32) (ck : Nat → Nat) : Prop := ∀ e, e < 2 * L → ck e < N ∧ ec e = nI (ck e)
theorem gv_row {ck : Nat → Nat} {e : Nat} (hN : N ≤ 8) (hL : L ≤ 16) (HE : gv_E N L ec ck) (he : e < 2 * L) (HI : gv_I N L T ec RW) :
    (¬ lu (e / 2) = 0 ∧ (es (gc_ot e) = 1 ∧ RW ((8 + ck (gc_ot e)) * 10 + 6) ≤ 6 ∧ ¬ RW ((8 + ck (gc_ot e)) * 10 + 5) = ec e) ∧ ∀ f, f < 10 → gs_it (gs_listen (nI T) lu ec es) (2 * L) 0 RW ((16 + e) * 10 + f) = RW ((8 + ck (gc_ot e)) * 10 + f)) ∨
    (¬ lu (e / 2) = 0 ∧ ¬ (es (gc_ot e) = 1 ∧ RW ((8 + ck (gc_ot e)) * 10 + 6) ≤ 6 ∧ ¬ RW ((8 + ck (gc_ot e)) * 10 + 5) = ec e) ∧ gs_it (gs_listen (nI T) lu ec es) (2 * L) 0 RW ((16 + e) * 10 + 8) = 0) ∨
    (¬ lu (e / 2) = 0 ∧ ¬ (es (gc_ot e) = 1 ∧ RW ((8 + ck (gc_ot e)) * 10 + 6) ≤ 6 ∧ ¬ RW ((8 + ck (gc_ot e)) * 10 + 5) = ec e) ∧ RW ((16 + e) * 10 + 8) = 1 ∧ (∀ f, f < 9 → gs_it (gs_listen (nI T) lu ec es) (2 * L) 0 RW ((16 + e) * 10 + f) = RW ((16 + e) * 10 + f)) ∧ gs_it (gs_listen (nI T) lu ec es) (2 * L) 0 RW ((16 + e) * 10 + 9) = RW ((16 + e) * 10 + 9) + 1 ∧ ¬ RW ((16 + e) * 10 + 9) + 1 = nI T) ∨
    (lu (e / 2) = 0 ∧ ∀ f, f < 10 → gs_it (gs_listen (nI T) lu ec es) (2 * L) 0 RW ((16 + e) * 10 + f) = RW ((16 + e) * 10 + f)) := by
  have hE : ∀ e, e < 2 * L → (ec (gc_ot e)).toNatClampNeg < 8 := by
    intro e he
    obtain ⟨h1, h2⟩ := HE _ (gc_otlt he)
    rw [h2, nI_clamp (by omega)]; omega
  have G := (gb_listen (tm := nI T) (lu := lu) (es := es) (RW := RW) hE).2 e he
  obtain ⟨hq, eq⟩ := HE _ (gc_otlt he)
  have cl : (ec (gc_ot e)).toNatClampNeg = ck (gc_ot e) := by rw [eq, nI_clamp (by omega)]
  by_cases hu : lu (e / 2) = 0
  · refine Or.inr (Or.inr (Or.inr ⟨hu, fun f hf => (G f hf).trans ?_⟩))
    unfold gs_listen
    rw [if_pos hu]
  · by_cases cd : es (gc_ot e) = 1 ∧ RW ((8 + ck (gc_ot e)) * 10 + 6) ≤ 6 ∧ ¬ RW ((8 + ck (gc_ot e)) * 10 + 5) = ec e
    · refine Or.inl ⟨hu, cd, fun f hf => (G f hf).trans ?_⟩
      unfold gs_listen
      rw [if_neg hu, cl, if_pos cd, gc_cp_in hf]
    · have q : gs_listen (nI T) lu ec es e RW = gs_age (nI T) e RW := by
        unfold gs_listen
        rw [if_neg hu, cl, if_neg cd]
      rw [q] at G
      unfold gs_age at G
      rcases HI.2.2 e he with z | ⟨z, _⟩
      · rw [if_pos z] at G
        exact Or.inr (Or.inl ⟨hu, cd, (G 8 (by omega)).trans z⟩)
      · rw [if_neg (by rw [z]; decide)] at G
        by_cases d : RW ((16 + e) * 10 + 9) + 1 = nI T
        · rw [if_pos d] at G
          exact Or.inr (Or.inl ⟨hu, cd, (G 8 (by omega)).trans (gc_cp_in (by omega))⟩)
        · rw [if_neg d] at G
          refine Or.inr (Or.inr (Or.inl ⟨hu, cd, z, fun f hf => (G f (by omega)).trans (pk_un (by omega)), (G 9 (by omega)).trans pk_us, d⟩))
theorem gv_listen {ck : Nat → Nat} (hN : N ≤ 8) (hL : L ≤ 16) (hT : 1 ≤ T ∧ T ≤ 4) (HE : gv_E N L ec ck) (HI : gv_I N L T ec RW) : gv_I N L T ec (gs_it (gs_listen (nI T) lu ec es) (2 * L) 0 RW) := by
  have hE : ∀ e, e < 2 * L → (ec (gc_ot e)).toNatClampNeg < 8 := by
    intro e he
    obtain ⟨h1, h2⟩ := HE _ (gc_otlt he)
    rw [h2, nI_clamp (by omega)]; omega
  have lo := (gb_listen (tm := nI T) (lu := lu) (es := es) (RW := RW) hE).1
  refine ⟨fun c hc => ?_, fun c hc => ?_, fun e he => ?_⟩
  · rw [lo _ (by omega), lo _ (by omega), lo _ (by omega), lo _ (by omega), lo _ (by omega)]
    exact HI.1 c hc
  · rw [lo _ (by omega), lo _ (by omega), lo _ (by omega), lo _ (by omega), lo _ (by omega)]
    exact HI.2.1 c hc
  · obtain ⟨hq, eq⟩ := HE _ (gc_otlt he)
    rcases gv_row (lu := lu) (es := es) hN hL HE he HI with ⟨hu, cd, G⟩ | ⟨hu, cd, G⟩ | ⟨hu, cd, z, G, G9, hn⟩ | ⟨hu, G⟩
    · obtain ⟨⟨s, hs, es'⟩, ⟨g, hg, eg⟩, v7, v8, v9⟩ := HI.2.1 _ hq
      refine Or.inr ⟨(G 8 (by omega)).trans v8, ⟨s, ?_, (G 6 (by omega)).trans es'⟩, ⟨g, hg, (G 5 (by omega)).trans eg⟩, ?_, ?_, 0, by omega, (G 9 (by omega)).trans v9⟩
      · have := cd.2.1
        rw [es'] at this
        exact (nI_leI (b := 6) (by omega) (by omega)).mp this
      · rw [G 5 (by omega)]; exact cd.2.2
      · rw [G 7 (by omega), v7]; exact eq.symm
    · exact Or.inl G
    · rcases HI.2.2 e he with y | ⟨y, h6, h5, h5n, h7, a, ha, e9⟩
      · rw [y] at z; exact absurd z (by decide)
      · refine Or.inr ⟨(G 8 (by omega)).trans y, ?_, ?_, ?_, ?_, a + 1, ?_, ?_⟩
        · rw [G 6 (by omega)]; exact h6
        · rw [G 5 (by omega)]; exact h5
        · rw [G 5 (by omega)]; exact h5n
        · rw [G 7 (by omega)]; exact h7
        · rw [e9, nI_1] at hn
          have : a + 1 ≠ T := fun w => hn (by rw [w])
          omega
        · rw [G9, e9, nI_1]
    · rw [G 8 (by omega), G 6 (by omega), G 5 (by omega), G 7 (by omega), G 9 (by omega)]
      exact HI.2.2 e he
theorem gv_choose {s : (Nat → Int32) × (Nat → Int32) × (Nat → Int32) × (Nat → Int32)} (hN : N ≤ 8) (hL : L ≤ 16) (HI : gv_I N L T ec s.1) : gv_I N L T ec (gs_it (gs_choose L lu ec) N 0 s).1 := by
  obtain ⟨fr, out⟩ := gb_choose (N := N) (L := L) (lu := lu) (ec := ec) (s := s) hN
  refine ⟨fun c hc => ?_, fun c hc => ?_, fun e he => ?_⟩
  · rw [fr _ (by omega), fr _ (by omega), fr _ (by omega), fr _ (by omega), fr _ (by omega)]
    exact HI.1 c hc
  · have O := out c hc
    have kself : gb_self L lu ec s.1 c (gs_it (gs_choose L lu ec) N 0 s) → (∃ w, w ≤ 7 ∧ (gs_it (gs_choose L lu ec) N 0 s).1 ((8 + c) * 10 + 6) = nI w) ∧ (∃ g, g < 8 ∧ (gs_it (gs_choose L lu ec) N 0 s).1 ((8 + c) * 10 + 5) = nI g) ∧ (gs_it (gs_choose L lu ec) N 0 s).1 ((8 + c) * 10 + 7) = nI c ∧ (gs_it (gs_choose L lu ec) N 0 s).1 ((8 + c) * 10 + 8) = 1 ∧ (gs_it (gs_choose L lu ec) N 0 s).1 ((8 + c) * 10 + 9) = 0 := by
      intro ⟨a, _⟩
      obtain ⟨d5, d6, d7, d8, d9⟩ := HI.1 c hc
      exact ⟨⟨0, by omega, (a 6 (by omega)).trans d6⟩, ⟨c, by omega, (a 5 (by omega)).trans d5⟩, (a 7 (by omega)).trans d7, (a 8 (by omega)).trans d8, (a 9 (by omega)).trans d9⟩
    cases hq : gs_best L lu ec s.1 c with
    | none => exact kself (O.1 hq)
    | some b =>
      by_cases w : gs_cmp s.1 (c * 10) ((16 + b) * 10) 6 < 0
      · exact kself ((O.2 b hq).1 w)
      · obtain ⟨a, _⟩ := (O.2 b hq).2 w
        have ok : gs_okb L lu ec s.1 c (gs_best L lu ec s.1 c) := gs_best_ok
        rw [hq] at ok
        obtain ⟨hb, _, _, ob⟩ := ok
        rcases HI.2.2 b hb with y | ⟨y, ⟨st, hst, h6⟩, ⟨g, hg, h5⟩, _⟩
        · rw [y] at ob; exact absurd ob (by decide)
        · refine ⟨⟨st + 1, by omega, ?_⟩, ⟨g, hg, ?_⟩, ?_, ?_, ?_⟩
          · rw [a 6 (by omega), gb_fR (by omega), if_pos rfl, h6, nI_1]
          · rw [a 5 (by omega), gb_fR (by omega)]; exact h5
          · rw [a 7 (by omega), gb_fR (by omega)]; rfl
          · rw [a 8 (by omega), gb_fR (by omega)]; exact ob
          · rw [a 9 (by omega), gb_fR (by omega)]; rfl
  · rw [fr _ (by omega), fr _ (by omega), fr _ (by omega), fr _ (by omega), fr _ (by omega)]
    exact HI.2.2 e he
end
end
section
/-! a run of steps as a run of the abstract network -/
theorem gv_ot2 (e : Nat) : gc_ot (gc_ot e) = e := by
  unfold gc_ot
  by_cases h : e % 2 = 0
  · rw [if_pos h, if_neg (by omega)]; omega
  · rw [if_neg h, if_pos (by omega)]; omega
theorem gv_oth (e : Nat) : gc_ot e / 2 = e / 2 := by
  unfold gc_ot
  by_cases h : e % 2 = 0
  · rw [if_pos h]; omega
  · rw [if_neg h]; omega
def sq_kv (S : Nat → (Nat → Int32) × (Nat → Int32) × (Nat → Int32) × (Nat → Int32)) (t c : Nat) : Nat → Int32 := ky_r (S t).1 ((8 + c) * 10)
def sq_sv (S : Nat → (Nat → Int32) × (Nat → Int32) × (Nat → Int32) × (Nat → Int32)) (t c : Nat) : Nat := ((S t).1 ((8 + c) * 10 + 6)).toNatClampNeg
def sq_ok (S : Nat → (Nat → Int32) × (Nat → Int32) × (Nat → Int32) × (Nat → Int32)) (t e : Nat) : Prop := (S t).1 ((16 + e) * 10 + 8) = 1
def sq_ks (S : Nat → (Nat → Int32) × (Nat → Int32) × (Nat → Int32) × (Nat → Int32)) (t e : Nat) : Nat → Int32 := ky_r (S t).1 ((16 + e) * 10)
def sq_ss (S : Nat → (Nat → Int32) × (Nat → Int32) × (Nat → Int32) × (Nat → Int32)) (t e : Nat) : Nat := ((S t).1 ((16 + e) * 10 + 6)).toNatClampNeg
def sq_sd (S : Nat → (Nat → Int32) × (Nat → Int32) × (Nat → Int32) × (Nat → Int32)) (t e : Nat) : Nat := ((S t).1 ((16 + e) * 10 + 7)).toNatClampNeg
def sq_ag (S : Nat → (Nat → Int32) × (Nat → Int32) × (Nat → Int32) × (Nat → Int32)) (t e : Nat) : Nat := ((S t).1 ((16 + e) * 10 + 9)).toNatClampNeg
def sq_pt (S : Nat → (Nat → Int32) × (Nat → Int32) × (Nat → Int32) × (Nat → Int32)) (t e : Nat) : Nat := if (S t).2.2.2 e = 1 then 1 else if (S t).2.2.2 e = 2 then 2 else 0
def sq_pa (S : Nat → (Nat → Int32) × (Nat → Int32) × (Nat → Int32) × (Nat → Int32)) (t c : Nat) : Option Nat := if (S t).2.1 c = -1 then none else some ((S t).2.1 c).toNatClampNeg
def sq_pl (S : Nat → (Nat → Int32) × (Nat → Int32) × (Nat → Int32) × (Nat → Int32)) (t c b : Nat) : Prop := (S t).2.2.1 c = nI (b / 2)
def sq_id (k : Nat → Int32) : Nat := (k 5).toNatClampNeg
def sq_D (S : Nat → (Nat → Int32) × (Nat → Int32) × (Nat → Int32) × (Nat → Int32)) (c : Nat) : Nat → Int32 := ky_r (S 0).1 (c * 10)
/-- the run: S t is the state after t steps -/
def sq_H (N L T : Nat) (lu ec : Nat → Int32) (ck : Nat → Nat) (S : Nat → (Nat → Int32) × (Nat → Int32) × (Nat → Int32) × (Nat → Int32)) : Prop :=
  N ≤ 8 ∧ L ≤ 16 ∧ (1 ≤ T ∧ T ≤ 4) ∧ gv_E N L ec ck ∧ gv_I N L T ec (S 0).1 ∧ ∀ t, S (t + 1) = gb_step N L (nI T) lu ec (S t)
section
variable {N L T : Nat} {lu ec : Nat → Int32} {ck : Nat → Nat} {S : Nat → (Nat → Int32) × (Nat → Int32) × (Nat → Int32) × (Nat → Int32)}
theorem sq_I (H : sq_H N L T lu ec ck S) : ∀ t, gv_I N L T ec (S t).1
  | 0 => H.2.2.2.2.1
  | t + 1 => by
    rw [H.2.2.2.2.2 t]
    exact gv_choose H.1 H.2.1 (gv_listen H.1 H.2.1 H.2.2.1 H.2.2.2.1 (sq_I H t))
/-- the rows between listening and choosing -/
def sq_R (L T : Nat) (lu ec : Nat → Int32) (S : Nat → (Nat → Int32) × (Nat → Int32) × (Nat → Int32) × (Nat → Int32)) (t : Nat) : Nat → Int32 := gs_it (gs_listen (nI T) lu ec (S t).2.2.2) (2 * L) 0 (S t).1
theorem sq_hE (H : sq_H N L T lu ec ck S) : ∀ e, e < 2 * L → (ec (gc_ot e)).toNatClampNeg < 8 := by
  intro e he
  have hN := H.1
  obtain ⟨h1, h2⟩ := H.2.2.2.1 _ (gc_otlt he)
  rw [h2, nI_clamp (by omega)]; omega
theorem sq_lo (H : sq_H N L T lu ec ck S) (t : Nat) {j : Nat} (h : j < 160) : sq_R L T lu ec S t j = (S t).1 j := (gb_listen (sq_hE H)).1 j h
theorem sq_fr (H : sq_H N L T lu ec ck S) (t : Nat) {j : Nat} (h : j < 80 ∨ 160 ≤ j) : (S (t + 1)).1 j = sq_R L T lu ec S t j := by
  rw [H.2.2.2.2.2 t]
  exact (gb_choose (s := (sq_R L T lu ec S t, (S t).2.1, (S t).2.2.1, (S t).2.2.2)) H.1).1 j h
theorem sq_out (H : sq_H N L T lu ec ck S) (t : Nat) {c : Nat} (hc : c < N) : gb_Out L lu ec (sq_R L T lu ec S t) c (S (t + 1)) := by
  rw [H.2.2.2.2.2 t]
  exact (gb_choose (s := (sq_R L T lu ec S t, (S t).2.1, (S t).2.2.1, (S t).2.2.2)) H.1).2 c hc
theorem sq_ds (H : sq_H N L T lu ec ck S) {j : Nat} (h : j < 80) : ∀ t, (S t).1 j = (S 0).1 j
  | 0 => rfl
  | t + 1 => by rw [sq_fr H t (Or.inl h), sq_lo H t (by omega)]; exact sq_ds H h t
theorem sq_net (H : sq_H N L T lu ec ck S) : cv_Net N (2 * L) ck gc_ot (fun e => ¬ lu (e / 2) = 0) := by
  intro e he
  refine ⟨(H.2.2.2.1 e he).1, gc_otlt he, gv_ot2 e, fun h => ?_⟩
  show ¬ lu (gc_ot e / 2) = 0
  rw [gv_oth]; exact h
theorem sq_cI (H : sq_H N L T lu ec ck S) : cv_I (2 * L) T ck gc_ot (fun e => ¬ lu (e / 2) = 0) sq_id (sq_ok S) (sq_ks S) (sq_ss S) (sq_sd S) (sq_ag S) := by
  intro t e he hu hok
  have hN := H.1
  have hT := H.2.2.1
  obtain ⟨c1, e1⟩ := H.2.2.2.1 e he
  obtain ⟨c2, e2⟩ := H.2.2.2.1 _ (gc_otlt he)
  unfold sq_ok at hok
  rcases (sq_I H t).2.2 e he with z | ⟨_, ⟨s, hs, h6⟩, ⟨g, hg, h5⟩, hn, h7, a, ha, h9⟩
  · rw [z] at hok; exact absurd hok (by decide)
  · refine ⟨?_, ?_, ?_, ?_⟩
    · unfold sq_ag
      rw [h9, nI_clamp (by omega)]; exact ha
    · unfold sq_ss
      rw [h6, nI_clamp (by omega)]; exact hs
    · show ((S t).1 ((16 + e) * 10 + 5)).toNatClampNeg ≠ ck e
      intro z
      rw [h5, nI_clamp (by omega)] at z
      exact hn (by rw [h5, e1, z])
    · unfold sq_sd
      rw [h7, e2, nI_clamp (by omega)]
theorem sq_cA (H : sq_H N L T lu ec ck S) : cv_A (2 * L) ck gc_ot (fun e => ¬ lu (e / 2) = 0) sq_id (sq_kv S) (sq_sv S) (sq_ok S) (sq_ks S) (sq_ss S) (sq_sd S) (sq_ag S) (sq_pt S) := by
  intro t e he hu
  have hN := H.1
  have hT := H.2.2.1
  obtain ⟨c1, e1⟩ := H.2.2.2.1 e he
  obtain ⟨c2, e2⟩ := H.2.2.2.1 _ (gc_otlt he)
  obtain ⟨⟨s, hs, h6⟩, ⟨g, hg, h5⟩, h7, h8, h9⟩ := (sq_I H t).2.1 _ c2
  have cd : (sq_pt S t (gc_ot e) = 1 ∧ sq_sv S t (ck (gc_ot e)) ≤ 6 ∧ sq_id (sq_kv S t (ck (gc_ot e))) ≠ ck e) ↔ ((S t).2.2.2 (gc_ot e) = 1 ∧ (S t).1 ((8 + ck (gc_ot e)) * 10 + 6) ≤ 6 ∧ ¬ (S t).1 ((8 + ck (gc_ot e)) * 10 + 5) = ec e) := by
    have a1 : sq_pt S t (gc_ot e) = 1 ↔ (S t).2.2.2 (gc_ot e) = 1 := by
      unfold sq_pt
      by_cases q : (S t).2.2.2 (gc_ot e) = 1
      · rw [if_pos q]; exact ⟨fun _ => q, fun _ => rfl⟩
      · rw [if_neg q]
        constructor
        · intro z
          split at z
          · exact absurd z (by decide)
          · exact absurd z (by decide)
        · intro z; exact absurd z q
    have a2 : sq_sv S t (ck (gc_ot e)) ≤ 6 ↔ (S t).1 ((8 + ck (gc_ot e)) * 10 + 6) ≤ 6 := by
      unfold sq_sv
      rw [h6, nI_clamp (by omega)]
      exact (nI_leI (b := 6) (by omega) (by omega)).symm
    have a3 : sq_id (sq_kv S t (ck (gc_ot e))) ≠ ck e ↔ ¬ (S t).1 ((8 + ck (gc_ot e)) * 10 + 5) = ec e := by
      show ((S t).1 ((8 + ck (gc_ot e)) * 10 + 5)).toNatClampNeg ≠ ck e ↔ _
      rw [h5, e1, nI_clamp (by omega), nI_eq (by omega) (by omega)]
    rw [a1, a2, a3]
  rw [cd]
  have st : ∀ f, f < 10 → (S (t + 1)).1 ((16 + e) * 10 + f) = sq_R L T lu ec S t ((16 + e) * 10 + f) := fun f hf => sq_fr H t (by omega)
  have rowk : ∀ {x : Nat} {R : Nat → Int32}, (∀ f, f < 6 → sq_R L T lu ec S t ((16 + e) * 10 + f) = R (x + f)) → sq_ks S (t + 1) e = ky_r R x := by
    intro x R h
    funext f
    unfold sq_ks ky_r
    by_cases q : f < 6
    · rw [if_pos q, if_pos q, st f (by omega)]; exact h f q
    · rw [if_neg q, if_neg q]
  rcases gv_row (lu := lu) (es := (S t).2.2.2) hN H.2.1 H.2.2.2.1 he (sq_I H t) with ⟨_, c', G⟩ | ⟨_, c', G⟩ | ⟨_, c', z, G, G9, hn⟩ | ⟨hu', G⟩
  · refine ⟨fun _ => ⟨?_, rowk (fun f hf => G f (by omega)), ?_, ?_, ?_⟩, fun n => absurd c' n⟩
    · unfold sq_ok
      rw [st 8 (by omega)]; exact (G 8 (by omega)).trans h8
    · unfold sq_ss sq_sv
      rw [st 6 (by omega)]; exact congrArg _ (G 6 (by omega))
    · unfold sq_sd
      rw [st 7 (by omega), show sq_R L T lu ec S t ((16 + e) * 10 + 7) = nI (ck (gc_ot e)) from (G 7 (by omega)).trans h7, nI_clamp (by omega)]
    · unfold sq_ag
      rw [st 9 (by omega), show sq_R L T lu ec S t ((16 + e) * 10 + 9) = 0 from (G 9 (by omega)).trans h9]; rfl
  · refine ⟨fun n => absurd n c', fun _ hok => ?_⟩
    unfold sq_ok at hok
    rw [st 8 (by omega), show sq_R L T lu ec S t ((16 + e) * 10 + 8) = 0 from G] at hok
    exact absurd hok (by decide)
  · refine ⟨fun n => absurd n c', fun _ hok => ⟨z, rowk (fun f hf => G f (by omega)), ?_, ?_, ?_⟩⟩
    · unfold sq_ss
      rw [st 6 (by omega)]; exact congrArg _ (G 6 (by omega))
    · unfold sq_sd
      rw [st 7 (by omega)]; exact congrArg _ (G 7 (by omega))
    · rcases (sq_I H t).2.2 e he with y | ⟨_, _, _, _, _, a, ha, g9⟩
      · rw [y] at z; exact absurd z (by decide)
      · unfold sq_ag
        rw [st 9 (by omega), show sq_R L T lu ec S t ((16 + e) * 10 + 9) = nI (a + 1) from G9.trans (by rw [g9, nI_1]), g9, nI_clamp (by omega), nI_clamp (by omega)]
  · exact absurd hu' hu
end
end
section
/-! choosing, and what a settled clock shows -/
section
variable {N L T : Nat} {lu ec : Nat → Int32} {ck : Nat → Nat} {S : Nat → (Nat → Int32) × (Nat → Int32) × (Nat → Int32) × (Nat → Int32)}
theorem sq_lx {t x y : Nat} {s s' d d' : Nat} (hs : s < 2 ^ 31) (hs' : s' < 2 ^ 31) (hd : d < 2 ^ 31) (hd' : d' < 2 ^ 31) {R : Nat → Int32} (hx : ∀ f, f < 8 → R (x + f) = (S t).1 (x + f)) (hy : ∀ f, f < 8 → R (y + f) = (S t).1 (y + f)) (e6 : (S t).1 (x + 6) = nI s) (e6' : (S t).1 (y + 6) = nI s') (e7 : (S t).1 (x + 7) = nI d) (e7' : (S t).1 (y + 7) = nI d') : gs_cmp R x y 8 < 0 ↔ cv_lx kl_r (ky_r (S t).1 x) s d (ky_r (S t).1 y) s' d' := by
  rw [gb_cmpc (R := R) (RW := (S t).1) (x' := x) (y' := y) hx hy]
  exact ky_lx hs hs' hd hd' e6 e6' e7 e7'
theorem sq_cC (H : sq_H N L T lu ec ck S) : cv_C N (2 * L) ck gc_ot (fun e => ¬ lu (e / 2) = 0) kl_r (sq_D S) (sq_kv S) (sq_sv S) (sq_ok S) (sq_ks S) (sq_ss S) (sq_sd S) (sq_pt S) (sq_pa S) (sq_pl S) := by
  intro t c hc
  have hN := H.1
  have hL := H.2.1
  have O := sq_out H t hc
  have I1 := sq_I H (t + 1)
  have up : ∀ j, j < 80 ∨ 160 ≤ j → sq_R L T lu ec S t j = (S (t + 1)).1 j := fun j hj => (sq_fr H t hj).symm
  have ckc : ∀ e, e < 2 * L → ck e = c → ec e = nI c := fun e he h => by rw [(H.2.2.2.1 e he).2, h]
  have stv : ∀ e, e < 2 * L → sq_ok S (t + 1) e → (S (t + 1)).1 ((16 + e) * 10 + 6) = nI (sq_ss S (t + 1) e) ∧ sq_ss S (t + 1) e ≤ 6 ∧ (S (t + 1)).1 ((16 + e) * 10 + 7) = nI (sq_sd S (t + 1) e) ∧ sq_sd S (t + 1) e < 8 := by
    intro e he hok
    unfold sq_ok at hok
    obtain ⟨c2, e2⟩ := H.2.2.2.1 _ (gc_otlt he)
    rcases I1.2.2 e he with z | ⟨_, ⟨s, hs, h6⟩, _, _, h7, _⟩
    · rw [z] at hok; exact absurd hok (by decide)
    · have a : sq_ss S (t + 1) e = s := by
        unfold sq_ss
        rw [h6, nI_clamp (by omega)]
      have b : sq_sd S (t + 1) e = ck (gc_ot e) := by
        unfold sq_sd
        rw [h7, e2, nI_clamp (by omega)]
      rw [a, b]
      exact ⟨h6, hs, h7.trans e2, by omega⟩
  have Dc : ky_r (sq_R L T lu ec S t) (c * 10) = sq_D S c := by
    funext f
    unfold sq_D ky_r
    by_cases q : f < 6
    · rw [if_pos q, if_pos q, sq_lo H t (by omega), sq_ds H (by omega) t]
    · rw [if_neg q, if_neg q]
  have Ke : ∀ e, ky_r (sq_R L T lu ec S t) ((16 + e) * 10) = sq_ks S (t + 1) e := by
    intro e
    funext f
    unfold sq_ks ky_r
    by_cases q : f < 6
    · rw [if_pos q, if_pos q, up _ (by omega)]
    · rw [if_neg q, if_neg q]
  have cmin : ∀ b, gs_best L lu ec (sq_R L T lu ec S t) c = some b → sq_ok S (t + 1) b → b < 2 * L → ∀ e, e < 2 * L → ¬ lu (e / 2) = 0 → ck e = c → sq_ok S (t + 1) e → ¬ cv_lx kl_r (sq_ks S (t + 1) e) (sq_ss S (t + 1) e) (sq_sd S (t + 1) e) (sq_ks S (t + 1) b) (sq_ss S (t + 1) b) (sq_sd S (t + 1) b) := by
    intro b hq hbo hb e he hu hec hok z
    obtain ⟨a1, a2, a3, a4⟩ := stv e he hok
    obtain ⟨b1, b2, b3, b4⟩ := stv b hb hbo
    have m := gb_min.2 b hq e he (ckc e he hec) hu (by rw [up _ (by omega)]; exact hok)
    exact m ((sq_lx (t := t + 1) (by omega) (by omega) (by omega) (by omega) (fun f hf => up _ (by omega)) (fun f hf => up _ (by omega)) a1 b1 a3 b3).mpr z)
  have selfc : gb_self L lu ec (sq_R L T lu ec S t) c (S (t + 1)) → sq_kv S (t + 1) c = sq_D S c ∧ sq_sv S (t + 1) c = 0 ∧ sq_pa S (t + 1) c = none ∧ (∀ e, e < 2 * L → ¬ lu (e / 2) = 0 → ck e = c → sq_pt S (t + 1) e = 1) := by
    intro ⟨a, b, d, g⟩
    refine ⟨?_, ?_, ?_, fun e he hu hec => ?_⟩
    · rw [← Dc]
      funext f
      unfold sq_kv ky_r
      by_cases q : f < 6
      · rw [if_pos q, if_pos q]; exact a f (by omega)
      · rw [if_neg q, if_neg q]
    · unfold sq_sv
      rw [a 6 (by omega), sq_lo H t (by omega), ((sq_I H t).1 c hc).2.1]; rfl
    · unfold sq_pa
      rw [if_pos b]
    · unfold sq_pt
      rw [if_pos (g e he (ckc e he hec) hu)]
  cases hq : gs_best L lu ec (sq_R L T lu ec S t) c with
  | none =>
    obtain ⟨s1, s2, s3, s4⟩ := selfc (O.1 hq)
    refine Or.inl ⟨s1, s2, s3, s4, fun e he hu hec hok => ?_⟩
    exact absurd (by rw [up _ (by omega)]; exact hok) (gb_min.1 hq e he (ckc e he hec) hu)
  | some b =>
    have okb : gs_okb L lu ec (sq_R L T lu ec S t) c (gs_best L lu ec (sq_R L T lu ec S t) c) := gs_best_ok
    rw [hq] at okb
    obtain ⟨hb, ob1, ob2, ob3⟩ := okb
    have hbc : ck b = c := by
      have := (H.2.2.2.1 b hb).2
      have h8 := (H.2.2.2.1 b hb).1
      rw [ob1] at this
      exact ((nI_eq (by omega) (by omega)).mp this).symm
    have hbo : sq_ok S (t + 1) b := by
      unfold sq_ok
      rw [← up _ (by omega)]; exact ob3
    by_cases w : gs_cmp (sq_R L T lu ec S t) (c * 10) ((16 + b) * 10) 6 < 0
    · obtain ⟨s1, s2, s3, s4⟩ := selfc ((O.2 b hq).1 w)
      refine Or.inl ⟨s1, s2, s3, s4, fun e he hu hec hok => ⟨b, hb, ob2, hbc, hbo, ?_, cmin b hq hbo hb e he hu hec hok⟩⟩
      rw [kl_cmp, Dc, Ke] at w
      exact w
    · obtain ⟨a, p, pl, g⟩ := (O.2 b hq).2 w
      obtain ⟨b1, b2, b3, b4⟩ := stv b hb hbo
      refine Or.inr ⟨b, hb, ob2, hbc, hbo, ?_, fun e he hu hec hok => cmin b hq hbo hb e he hu hec hok, ?_, ?_, ?_, pl, ?_, fun e he hu hec hne => ?_⟩
      · rw [kl_cmp, Dc, Ke] at w
        exact w
      · rw [← Ke]
        funext f
        unfold sq_kv ky_r
        by_cases q : f < 6
        · rw [if_pos q, if_pos q, a f (by omega), gb_fR (by omega), if_neg (by omega), if_neg (by omega), if_neg (by omega)]
        · rw [if_neg q, if_neg q]
      · unfold sq_sv
        rw [a 6 (by omega), gb_fR (by omega), if_pos rfl, up _ (by omega), b1, nI_1, nI_clamp (by omega)]
      · unfold sq_pa
        have e7 : (S (t + 1)).2.1 c = nI (sq_sd S (t + 1) b) := by rw [p, up _ (by omega)]; exact b3
        have hne : ¬ (S (t + 1)).2.1 c = -1 := by rw [e7]; exact gc_en_ne (by omega)
        rw [if_neg hne, e7, nI_clamp (by omega)]
      · unfold sq_pt
        rw [g b hb ob1 ob2, if_pos rfl]; rfl
      · have ge := g e he (ckc e he hec) hu
        rw [if_neg hne] at ge
        by_cases x : (sq_R L T lu ec S t) ((16 + e) * 10 + 8) = 1 ∧ gs_cmp (gc_fR (sq_R L T lu ec S t) c b) ((16 + e) * 10) ((8 + c) * 10) 8 < 0
        · have hok : sq_ok S (t + 1) e := by
            unfold sq_ok
            rw [← up _ (by omega)]; exact x.1
          obtain ⟨a1, a2, a3, a4⟩ := stv e he hok
          obtain ⟨⟨s, hs, v6⟩, _, v7, _⟩ := I1.2.1 c hc
          have sv : sq_sv S (t + 1) c = s := by
            unfold sq_sv
            rw [v6, nI_clamp (by omega)]
          refine Or.inr ⟨hok, ?_⟩
          rw [sv]
          exact (sq_lx (t := t + 1) (by omega) (by omega) (by omega) (by omega) (fun f hf => by rw [gc_fRout (by omega)]; exact up _ (by omega)) (fun f hf => (a f (by omega)).symm) a1 v6 a3 v7).mp x.2
        · refine Or.inl ?_
          unfold sq_pt
          have : (S (t + 1)).2.2.2 e = 1 := by
            rw [ge]
            unfold gs_pst
            refine if_neg (fun z => x ⟨?_, z.2⟩)
            rw [gc_fRout (by omega)] at z
            exact z.1
          rw [if_pos this]
theorem sq_pa2 (H : sq_H N L T lu ec ck S) (t : Nat) {c : Nat} (hc : c < N) : (S (t + 1)).2.1 c = -1 ∨ ∃ q, q < 8 ∧ (S (t + 1)).2.1 c = nI q := by
  have hN := H.1
  have O := sq_out H t hc
  cases hq : gs_best L lu ec (sq_R L T lu ec S t) c with
  | none => exact Or.inl (O.1 hq).2.1
  | some b =>
    by_cases w : gs_cmp (sq_R L T lu ec S t) (c * 10) ((16 + b) * 10) 6 < 0
    · exact Or.inl ((O.2 b hq).1 w).2.1
    · obtain ⟨_, p, _⟩ := (O.2 b hq).2 w
      have okb : gs_okb L lu ec (sq_R L T lu ec S t) c (gs_best L lu ec (sq_R L T lu ec S t) c) := gs_best_ok
      rw [hq] at okb
      obtain ⟨hb, _, _, ob3⟩ := okb
      rw [← sq_fr H t (by omega)] at ob3
      rcases (sq_I H (t + 1)).2.2 b hb with z | ⟨_, _, _, _, h7, _⟩
      · rw [z] at ob3; exact absurd ob3 (by decide)
      · obtain ⟨c2, e2⟩ := H.2.2.2.1 _ (gc_otlt hb)
        refine Or.inr ⟨ck (gc_ot b), by omega, ?_⟩
        rw [p, ← sq_fr H t (by omega), h7]; exact e2
/-- the clocks are settled from 7 (T + 1) + 8 steps on -/
theorem sq_settle (H : sq_H N L T lu ec ck S) {B : Nat} (hB : B < N) (hbest : ∀ g, g < N → (∃ j, cv_W (2 * L) ck gc_ot (fun e => ¬ lu (e / 2) = 0) g j B) → g ≠ B → kl_r (sq_D S B) (sq_D S g)) {d t c : Nat} (ht : 44 ≤ t) (hc : c < N) (hd : cv_d (2 * L) ck gc_ot (fun e => ¬ lu (e / 2) = 0) B c d) :
    d ≤ 7 ∧ (S t).1 ((8 + c) * 10 + 5) = nI B ∧ (S t).1 ((8 + c) * 10 + 6) = nI d ∧
    (∀ e, e < 2 * L → ¬ lu (e / 2) = 0 → ck e = c → (∀ i, i ≤ d → ¬ cv_W (2 * L) ck gc_ot (fun e => ¬ lu (e / 2) = 0) B i (ck (gc_ot e))) → (S t).2.2.2 e = 1) ∧
    (d = 0 → (S t).2.1 c = -1 ∧ ∀ e, e < 2 * L → ¬ lu (e / 2) = 0 → ck e = c → (S t).2.2.2 e = 1) ∧
    (∀ m, d = m + 1 → ∃ b, b < 2 * L ∧ ¬ lu (b / 2) = 0 ∧ ck b = c ∧ (S t).2.2.1 c = nI (b / 2) ∧ (S t).2.1 c = nI (ck (gc_ot b)) ∧ (S t).2.2.2 b = 2 ∧ cv_W (2 * L) ck gc_ot (fun e => ¬ lu (e / 2) = 0) B m (ck (gc_ot b)) ∧ ∀ e, e < 2 * L → ¬ lu (e / 2) = 0 → ck e = c → cv_W (2 * L) ck gc_ot (fun e => ¬ lu (e / 2) = 0) B m (ck (gc_ot e)) → ck (gc_ot b) ≤ ck (gc_ot e)) := by
  have hN := H.1
  have hT := H.2.2.1
  have d8 := cv_dlt (sq_net H) hB hd
  have hid : ∀ g, g < N → sq_id (sq_D S g) = g := by
    intro g hg
    show ((S 0).1 (g * 10 + 5)).toNatClampNeg = g
    rw [((sq_I H 0).1 g hg).1, nI_clamp (by omega)]
  obtain ⟨z1, z2, z3, z4, z5⟩ := cv_settle (sq_net H) (sq_cA H) (sq_cI H) (sq_cC H) hid kl_ir kl_as hB hbest d (by omega) t (by omega) c hc hd
  have pt1 : ∀ e, sq_pt S t e = 1 → (S t).2.2.2 e = 1 := by
    intro e h
    unfold sq_pt at h
    by_cases q : (S t).2.2.2 e = 1
    · exact q
    · rw [if_neg q] at h
      split at h
      · exact absurd h (by decide)
      · exact absurd h (by decide)
  have pt2 : ∀ e, sq_pt S t e = 2 → (S t).2.2.2 e = 2 := by
    intro e h
    unfold sq_pt at h
    by_cases q : (S t).2.2.2 e = 1
    · rw [if_pos q] at h; exact absurd h (by decide)
    · rw [if_neg q] at h
      by_cases r : (S t).2.2.2 e = 2
      · exact r
      · rw [if_neg r] at h; exact absurd h (by decide)
  obtain ⟨⟨s, hs, v6⟩, ⟨g, hg, v5⟩, v7, _⟩ := (sq_I H t).2.1 c hc
  refine ⟨by omega, ?_, ?_, fun e he hu hec hf => pt1 e (z3 e he hu hec hf), fun h0 => ?_, fun m hm => ?_⟩
  · have a : (S t).1 ((8 + c) * 10 + 5) = sq_kv S t c 5 := rfl
    have b : sq_D S B 5 = (S 0).1 (B * 10 + 5) := rfl
    rw [a, z1, b]; exact ((sq_I H 0).1 B hB).1
  · unfold sq_sv at z2
    rw [v6, nI_clamp (by omega)] at z2
    rw [v6, z2]
  · obtain ⟨y1, y2⟩ := z4 h0
    refine ⟨?_, fun e he hu hec => pt1 e (y2 e he hu hec)⟩
    unfold sq_pa at y1
    by_cases q : (S t).2.1 c = -1
    · exact q
    · rw [if_neg q] at y1; exact absurd y1 (Option.some_ne_none _)
  · obtain ⟨b, hb, hbu, hbc, hpl, hpa, hpt, hw, hmin⟩ := z5 m hm
    refine ⟨b, hb, hbu, hbc, hpl, ?_, pt2 b hpt, hw, hmin⟩
    obtain ⟨t', rfl⟩ : ∃ t', t = t' + 1 := ⟨t - 1, by omega⟩
    unfold sq_pa at hpa
    have hb8 := (H.2.2.2.1 _ (gc_otlt hb)).1
    rcases sq_pa2 H t' hc with z | ⟨q, hq, z⟩
    · rw [if_pos z] at hpa; exact absurd hpa.symm (Option.some_ne_none _)
    · rw [if_neg (by rw [z]; exact gc_en_ne (by omega)), z, nI_clamp (by omega)] at hpa
      rw [z, Option.some.inj hpa]
end
end
section
/-! the component's public methods, called as the law calls them -/
section
variable {N C L : Nat} {tm : Int32} {RW dr pa pl md lu ec es ed : Nat → Int32} {ti ms : Nat → Int64}
theorem x_setPriority {post : Int32 → St2 → Prop} {c : Nat} {p1 p2 : Int32} (hN : N ≤ 8) (hc : c < N) (h : post 1 (gx N C L tm (upd (upd RW (c * 10 + 0) (gc_cl p1 0 255)) (c * 10 + 4) (gc_cl p2 0 255)) dr ti pa pl ms md lu ec es ed)) : wpX_setPriority post (gx N C L tm RW dr ti pa pl ms md lu ec es ed) (nI c) p1 p2 := by
  unfold wpX_setPriority
  refine x_isClock_t hN hc (br_f (by decide) (x_datasetRow (x_clamp ?_)))
  simp (disch := omega) only [ix_m6, ix_m8, ix_m9, ix_m10, ix_m2, ix_2m, ix_8a, ix_16a, ix_a0, ix_a1, ix_a2, ix_a3, ix_a4, ix_a5, ix_a6, ix_a7, ix_a8, ix_a9, nI_add, nI_clamp]
  exact ⟨vp_in_nI (by omega) (by omega), nm_e (x_clamp ⟨vp_in_nI (by omega) (by omega), nm_e h⟩)⟩
theorem x_setQuality {post : Int32 → St2 → Prop} {c : Nat} {p1 p2 p3 : Int32} (hN : N ≤ 8) (hc : c < N) (h : post 1 (gx N C L tm (upd (upd (upd RW (c * 10 + 1) (gc_cl p1 0 255)) (c * 10 + 2) (gc_cl p2 0 255)) (c * 10 + 3) (gc_cl p3 0 65535)) dr ti pa pl ms md lu ec es ed)) : wpX_setQuality post (gx N C L tm RW dr ti pa pl ms md lu ec es ed) (nI c) p1 p2 p3 := by
  unfold wpX_setQuality
  refine x_isClock_t hN hc (br_f (by decide) (x_datasetRow (x_clamp ?_)))
  simp (disch := omega) only [ix_m6, ix_m8, ix_m9, ix_m10, ix_m2, ix_2m, ix_8a, ix_16a, ix_a0, ix_a1, ix_a2, ix_a3, ix_a4, ix_a5, ix_a6, ix_a7, ix_a8, ix_a9, nI_add, nI_clamp]
  exact ⟨vp_in_nI (by omega) (by omega), nm_e (x_clamp ⟨vp_in_nI (by omega) (by omega), nm_e (x_clamp ⟨vp_in_nI (by omega) (by omega), nm_e h⟩)⟩)⟩
theorem x_setDrift {post : Int32 → St2 → Prop} {c : Nat} {p : Int32} (hN : N ≤ 8) (hc : c < N) (h : post 1 (gx N C L tm RW (upd dr c (gc_cl p (-100000) 100000)) ti pa pl ms md lu ec es ed)) : wpX_setDrift post (gx N C L tm RW dr ti pa pl ms md lu ec es ed) (nI c) p := by
  unfold wpX_setDrift
  refine x_isClock_t hN hc (br_f (by decide) (x_clamp ⟨vp_in_nI (by omega) (by omega), ?_⟩))
  rw [nI_clamp (by omega)]
  exact nm_e h
theorem x_setTime {post : Int32 → St2 → Prop} {c : Nat} {p : Int64} (hN : N ≤ 8) (hc : c < N) (h : post 1 (gx N C L tm RW dr (vp_updL ti c (gc_clL p 0 1000000000000000000)) pa pl ms md lu ec es ed)) : wpX_setTime post (gx N C L tm RW dr ti pa pl ms md lu ec es ed) (nI c) p := by
  unfold wpX_setTime
  refine x_isClock_t hN hc (br_f (by decide) (x_clampL ⟨vp_in_nI (by omega) (by omega), ?_⟩))
  rw [nI_clamp (by omega)]
  exact nm_e h
theorem x_getGM {post : Int32 → Prop} {c : Nat} (hN : N ≤ 8) (hc : c < N) (h : post (RW ((8 + c) * 10 + 5))) : wpX_getGrandmaster post (gx N C L tm RW dr ti pa pl ms md lu ec es ed) (nI c) := by
  unfold wpX_getGrandmaster
  refine x_isClock_t hN hc (br_f (by decide) (x_vectorRow ?_))
  simp (disch := omega) only [ix_m6, ix_m8, ix_m9, ix_m10, ix_m2, ix_2m, ix_8a, ix_16a, ix_a0, ix_a1, ix_a2, ix_a3, ix_a4, ix_a5, ix_a6, ix_a7, ix_a8, ix_a9, nI_add, nI_clamp]
  exact ⟨vp_in_nI (by omega) (by omega), h⟩
theorem x_getSteps {post : Int32 → Prop} {c : Nat} (hN : N ≤ 8) (hc : c < N) (h : post (RW ((8 + c) * 10 + 6))) : wpX_getStepsRemoved post (gx N C L tm RW dr ti pa pl ms md lu ec es ed) (nI c) := by
  unfold wpX_getStepsRemoved
  refine x_isClock_t hN hc (br_f (by decide) (x_vectorRow ?_))
  simp (disch := omega) only [ix_m6, ix_m8, ix_m9, ix_m10, ix_m2, ix_2m, ix_8a, ix_16a, ix_a0, ix_a1, ix_a2, ix_a3, ix_a4, ix_a5, ix_a6, ix_a7, ix_a8, ix_a9, nI_add, nI_clamp]
  exact ⟨vp_in_nI (by omega) (by omega), h⟩
theorem x_getParent {post : Int32 → Prop} {c : Nat} (hN : N ≤ 8) (hc : c < N) (h : post (pa c)) : wpX_getParent post (gx N C L tm RW dr ti pa pl ms md lu ec es ed) (nI c) := by
  unfold wpX_getParent
  refine x_isClock_t hN hc (br_f (by decide) ⟨vp_in_nI (by omega) (by omega), ?_⟩)
  rw [nI_clamp (by omega)]
  exact h
theorem x_getTime {post : Int64 → Prop} {c : Nat} (hN : N ≤ 8) (hc : c < N) (h : post (ti c)) : wpX_getTime post (gx N C L tm RW dr ti pa pl ms md lu ec es ed) (nI c) := by
  unfold wpX_getTime
  refine x_isClock_t hN hc (br_f (by decide) ⟨vp_in_nI (by omega) (by omega), ?_⟩)
  rw [nI_clamp (by omega)]
  exact h
theorem x_getMeasure {post : Int64 → Prop} {c w : Nat} (hN : N ≤ 8) (hc : c < N) (hw : w < 9) (h : post (ms (c * 9 + w))) : wpX_getMeasure post (gx N C L tm RW dr ti pa pl ms md lu ec es ed) (nI c) (nI w) := by
  unfold wpX_getMeasure
  refine x_isClock_t hN hc (br_f (by decide) (br_f (nI_pos (by omega)) (br_t (nI_lt (b := 9) hw (by omega)) (x_measureRow ?_))))
  rw [nI_add, nI_clamp (by omega)]
  exact ⟨vp_in_nI (by omega) (by omega), h⟩
theorem x_cmpD {post : Int32 → Prop} {a b : Nat} (hN : N ≤ 8) (ha : a < N) (hb : b < N) (h : post (gs_cmp RW (a * 10) (b * 10) 6)) : wpX_compareDatasets post (gx N C L tm RW dr ti pa pl ms md lu ec es ed) (nI a) (nI b) := by
  unfold wpX_compareDatasets
  exact x_isClock_t hN ha (br_f (by decide) (x_isClock_t hN hb (br_f (by decide) (x_datasetRow (x_datasetRow (x_cmp (K := 6) (by omega) (by omega) h))))))
theorem x_getPort {post : Int32 → Prop} {c l e : Nat} (K : gx_ok N L lu ec) (hc : c < N) (hl : l < L) (he : gs_end L ec c (nI l) = some e) (h : post (es e)) : wpX_getPortState post (gx N C L tm RW dr ti pa pl ms md lu ec es ed) (nI c) (nI l) := by
  have hL := K.2.2.1
  have h2 := gs_end_lt hL he
  unfold wpX_getPortState
  refine x_endOf K hc ?_
  rw [he]
  refine br_f (gc_en_ne (by omega)) ⟨vp_in_nI (by omega) (by omega), ?_⟩
  rw [show gc_en (some e) = nI e from rfl, nI_clamp (by omega)]
  exact h
/-- a link made new -/
theorem x_reset {post : St2 → Prop} {l : Nat} {up : Int32} (hl : l < 16) (hup : up = 0 ∨ up = 1) (h : post (gx N C L tm (gc_cp (gc_cp RW gc_z 0 ((16 + 2 * l) * 10) 10) gc_z 0 ((16 + (2 * l + 1)) * 10) 10) dr ti pa pl ms md (upd lu l up) ec (upd (upd es (2 * l) up) (2 * l + 1) up) ed)) : wpX_resetLink post (gx N C L tm RW dr ti pa pl ms md lu ec es ed) (nI l) up := by
  have e0 : upd lu (nI l).toNatClampNeg (vp_nar .boolean up) = upd lu l up := by rw [nI_clamp (by omega), ix_v hup]
  have c0 : (nI (2 * l)).toNatClampNeg = 2 * l := nI_clamp (by omega)
  have c1 : (nI (2 * l + 1)).toNatClampNeg = 2 * l + 1 := nI_clamp (by omega)
  have v0 : vp_in (nI (2 * l)) 32 := vp_in_nI (by omega) (by omega)
  have v1 : vp_in (nI (2 * l + 1)) 32 := vp_in_nI (by omega) (by omega)
  unfold wpX_resetLink
  refine ⟨vp_in_nI (by omega) (by omega), nm_r e0 (x_firstEnd (x_otherEnd (by omega) ?_))⟩
  rw [gc_ot0]
  rcases hup with rfl | rfl
  · exact br_t rfl ⟨v0, nm_r (by rw [c0]) (br_t rfl ⟨v1, nm_r (by rw [c1]) (x_clear (by omega) (x_clear (by omega) h))⟩)⟩
  · exact br_f (by decide) ⟨v0, nm_r (by rw [c0]) (br_f (by decide) ⟨v1, nm_r (by rw [c1]) (x_clear (by omega) (x_clear (by omega) h))⟩)⟩
theorem x_setLinkUp {post : Int32 → St2 → Prop} {l : Nat} {up : Int32} (hL : L ≤ 16) (hl : l < L) (hup : up = 0 ∨ up = 1) (h0 : lu l = up → post 1 (gx N C L tm RW dr ti pa pl ms md lu ec es ed)) (h1 : ¬ lu l = up → post 1 (gx N C L tm (gc_cp (gc_cp RW gc_z 0 ((16 + 2 * l) * 10) 10) gc_z 0 ((16 + (2 * l + 1)) * 10) 10) dr ti pa pl ms md (upd lu l up) ec (upd (upd es (2 * l) up) (2 * l + 1) up) ed)) : wpX_setLinkUp post (gx N C L tm RW dr ti pa pl ms md lu ec es ed) (nI l) up := by
  unfold wpX_setLinkUp
  refine x_isLink_t hL hl (br_f (by decide) ⟨vp_in_nI (by omega) (by omega), ?_⟩)
  rw [nI_clamp (by omega)]
  exact br_c (fun d => h0 d) (fun d => x_reset (by omega) hup (h1 d))
def gw_J (L : Nat) (ec : Nat → Int32) (a b : Int32) : Prop := ∃ e, e < 2 * L ∧ ec e = a ∧ ec (gc_ot e) = b
theorem x_joinl {post : Int32 → Prop} {a b : Int32} (hL : L ≤ 16) (h1 : gw_J L ec a b → post 1) (h0 : ¬ gw_J L ec a b → post 0) : ∀ k i, i + k = 2 * L → (∀ e, e < i → ¬ (ec e = a ∧ ec (gc_ot e) = b)) → wX_areJoined_2 post a b (nI N) (nI C) tm (nI L) RW dr ti pa pl ms md lu ec es ed (k + 1) (nI i)
  | 0, i, hi, hn => br_t (by rw [ix_2m]; exact nI_le (by omega) (by omega)) (h0 (fun ⟨e, he, z⟩ => hn e (by omega) z))
  | k + 1, i, hi, hn => by
    have ho : gc_ot i < 2 * 16 := gc_otlt (by omega)
    have ih : ¬ (ec i = a ∧ ec (gc_ot i) = b) → wX_areJoined_2 post a b (nI N) (nI C) tm (nI L) RW dr ti pa pl ms md lu ec es ed (k + 1) (nI (i + 1)) := fun z => x_joinl hL h1 h0 k (i + 1) (by omega) (fun e he => by
      rcases (by omega : e < i ∨ e = i) with q | q
      · exact hn e q
      · rw [q]; exact z)
    refine br_f (by rw [ix_2m]; exact nI_ge (by omega) (by omega)) ⟨vp_in_nI (by omega) (by omega), ?_⟩
    rw [nI_clamp (by omega)]
    by_cases p : ec i = a
    · refine br_t p (x_otherEnd (by omega) ⟨vp_in_nI (by omega) (by omega), ?_⟩)
      rw [nI_clamp (by omega)]
      by_cases q : ec (gc_ot i) = b
      · exact br_t q (h1 ⟨i, by omega, p, q⟩)
      · exact br_f q (nm_r (nI_1 i) (ih (fun z => q z.2)))
    · exact br_f p (nm_r (nI_1 i) (ih (fun z => p z.1)))
theorem x_addLink {post : Int32 → St2 → Prop} {a b : Nat} {d1 d2 : Int32} (hN : N ≤ 8) (hL : L ≤ 16) (hC : C ≤ 16) (ha : a < N) (hb : b < N) (hab : a ≠ b)
    (h0 : gw_J L ec (nI a) (nI b) ∨ ¬ L < C → post (-1) (gx N C L tm RW dr ti pa pl ms md lu ec es ed))
    (h1 : ¬ gw_J L ec (nI a) (nI b) → L < C → post (nI L) (gx N C (L + 1) tm (gc_cp (gc_cp RW gc_z 0 ((16 + 2 * L) * 10) 10) gc_z 0 ((16 + (2 * L + 1)) * 10) 10) dr ti pa pl ms md (upd lu L 1) (upd (upd ec (2 * L) (nI a)) (2 * L + 1) (nI b)) (upd (upd es (2 * L) 1) (2 * L + 1) 1) (upd (upd ed (2 * L) (gc_cl d1 0 10000000)) (2 * L + 1) (gc_cl d2 0 10000000)))) : wpX_addLink post (gx N C L tm RW dr ti pa pl ms md lu ec es ed) (nI a) (nI b) d1 d2 := by
  unfold wpX_addLink
  refine x_isClock_t hN ha (br_f (by decide) (x_isClock_t hN hb (br_f (by decide) (br_f (fun z => hab ((nI_eq (by omega) (by omega)).mp z)) ⟨_, x_joinl hL ?_ ?_ (2 * L) 0 (by omega) (fun e he => absurd he (by omega))⟩))))
  · intro J
    exact br_f (by decide) (h0 (Or.inl J))
  · intro J
    refine br_t rfl ?_
    by_cases q : L < C
    · refine br_t (nI_lt q (by omega)) (nm_r (nI_1 L) (x_firstEnd (x_otherEnd (by omega) ?_)))
      rw [gc_ot0, nI_clamp (by omega), nI_clamp (by omega)]
      exact ⟨vp_in_nI (by omega) (by omega), nm_e ⟨vp_in_nI (by omega) (by omega), nm_e (x_clamp ⟨vp_in_nI (by omega) (by omega), nm_e (x_clamp ⟨vp_in_nI (by omega) (by omega), nm_e (x_reset (L := L + 1) (by omega) (Or.inr rfl) (h1 J q))⟩)⟩)⟩⟩
    · exact br_f (nI_nlt (by omega) (by omega)) (h0 (Or.inr q))
end
/-! run -/
def gw_rx (post : Int32 → St2 → Prop) (x2 : Int32) (n : Nat) (x3 : Int32) (u : St2) : Prop := match u with
  | (f1, f2, f3, f4, b1, b2, b3, b4, b5, b6, b7, b8, b9, b10, b11) => wX_run_10 post x2 n x3 f1 f2 f3 f4 b1 b2 b3 b4 b5 b6 b7 b8 b9 b10 b11
theorem x_runs {Q : Nat → St2 → Prop} (hQ : ∀ t u, Q t u → ∃ u', Q (t + 1) u' ∧ ∀ post : St2 → Prop, post u' → wpX_step post u) {K : Nat} (hK : K ≤ 64) : ∀ k i t u, i + k = K → Q t u → ∃ u', Q (t + k) u' ∧ ∀ post : Int32 → St2 → Prop, post (nI K) u' → gw_rx post (nI K) (k + 1) (nI i) u
  | 0, i, t, u, hi, I => by
    refine ⟨u, I, fun post h => ?_⟩
    obtain ⟨f1, f2, f3, f4, b1, b2, b3, b4, b5, b6, b7, b8, b9, b10, b11⟩ := u
    exact br_t (nI_le (by omega) (by omega)) h
  | k + 1, i, t, u, hi, I => by
    obtain ⟨u1, I1, w1⟩ := hQ t u I
    obtain ⟨u2, I2, w2⟩ := x_runs hQ hK k (i + 1) (t + 1) u1 (by omega) I1
    refine ⟨u2, by rw [show t + (k + 1) = t + 1 + k by omega]; exact I2, fun post h => ?_⟩
    obtain ⟨f1, f2, f3, f4, b1, b2, b3, b4, b5, b6, b7, b8, b9, b10, b11⟩ := u
    obtain ⟨g1, g2, g3, g4, d1, d2, d3, d4, d5, d6, d7, d8, d9, d10, d11⟩ := u1
    exact br_f (nI_ge (by omega) (by omega)) (w1 _ (nm_r (nI_1 i) (w2 post h)))
theorem x_run {Q : Nat → St2 → Prop} (hQ : ∀ t u, Q t u → ∃ u', Q (t + 1) u' ∧ ∀ post : St2 → Prop, post u' → wpX_step post u) {K t : Nat} {u : St2} (hK : K ≤ 64) (I : Q t u) : ∃ u', Q (t + K) u' ∧ ∀ post : Int32 → St2 → Prop, post (nI K) u' → wpX_run post u (nI K) := by
  obtain ⟨u', I', w⟩ := x_runs hQ hK K 0 t u (by omega) I
  refine ⟨u', I', fun post h => ?_⟩
  obtain ⟨f1, f2, f3, f4, b1, b2, b3, b4, b5, b6, b7, b8, b9, b10, b11⟩ := u
  unfold wpX_run
  refine x_clamp ?_
  have e : gc_cl (nI K) 0 64 = nI K := by
    unfold gc_cl
    rw [if_neg (nI_pos (by omega))]
    exact if_neg (nI_nlt (b := K) (a := 64) (by omega) (by omega))
  rw [e]
  exact ⟨_, w post h⟩
end
section
/-! rows out of the rows to paste: Int64 bits -/
theorem s_l : ∀ n, n < 32 → ((nI n &&& 31).toBitVec.smod 32).toNat = n := by decide +kernel
theorem wb_tb (n : Nat) : (lN n).toBitVec = BitVec.ofNat 64 n := rfl
theorem wb_inj {a b : Int64} (h : a.toBitVec = b.toBitVec) : a = b := Int64.toBitVec_inj.mp h
theorem wb_tn {n : Nat} (h : n < 2 ^ 64) : (lN n).toBitVec.toNat = n := by rw [wb_tb, BitVec.toNat_ofNat, Nat.mod_eq_of_lt h]
theorem wb_of (x : Int64) : ∃ n, n < 2 ^ 64 ∧ x = lN n := ⟨x.toBitVec.toNat, x.toBitVec.isLt, wb_inj (by rw [wb_tb]; simp)⟩
theorem wb_of32 (x : Int32) : ∃ n, n < 2 ^ 32 ∧ x = nI n := ⟨x.toBitVec.toNat, x.toBitVec.isLt, Int32.toBitVec_inj.mp (by show _ = BitVec.ofNat 32 _; simp)⟩
theorem wb_c : ∀ k, k < 64 → ((nI k).toInt64 &&& 63) = lN k := by decide +kernel
theorem wb_cu : ∀ k, k < 64 → ((nI k).toInt64.toUInt64 &&& Int64.toUInt64 63) = UInt64.ofNat k := by decide +kernel
theorem wb_sm : ∀ k, k < 64 → (BitVec.ofNat 64 k).smod 64 = BitVec.ofNat 64 k := by decide +kernel
theorem wb_pw {a b : Nat} (h : a ≤ b) : 2 ^ b = 2 ^ a * 2 ^ (b - a) := by rw [← Nat.pow_add]; congr 1; omega
theorem wb_lt2 {a b : Nat} (h : a < b) : 2 ^ a < 2 ^ b := Nat.pow_lt_pow_right (by decide) h
theorem wb_mod (n : Nat) : lN n = lN (n % 2 ^ 64) := wb_inj (by rw [wb_tb, wb_tb]; apply BitVec.eq_of_toNat_eq; rw [BitVec.toNat_ofNat, BitVec.toNat_ofNat, Nat.mod_mod])
theorem wb_shr {n k : Nat} (hn : n < 2 ^ 64) (hk : k < 64) : ((lN n).toUInt64 >>> ((nI k).toInt64.toUInt64 &&& Int64.toUInt64 63)).toInt64 = lN (n / 2 ^ k) := by
  rw [wb_cu k hk]
  apply wb_inj
  apply BitVec.eq_of_toNat_eq
  show ((lN n).toUInt64 >>> UInt64.ofNat k).toNat = (BitVec.ofNat 64 _).toNat
  have h1 : (UInt64.ofNat k).toNat = k := by
    show (BitVec.ofNat 64 k).toNat = k
    rw [BitVec.toNat_ofNat, Nat.mod_eq_of_lt (by omega)]
  have h2 : (lN n).toUInt64.toNat = n := wb_tn hn
  rw [UInt64.toNat_shiftRight, h1, h2, Nat.mod_eq_of_lt hk, Nat.shiftRight_eq_div_pow, BitVec.toNat_ofNat, Nat.mod_eq_of_lt (Nat.lt_of_le_of_lt (Nat.div_le_self _ _) hn)]
theorem wb_shl (n : Nat) {k : Nat} (hk : k < 64) : lN n <<< ((nI k).toInt64 &&& 63) = lN (n * 2 ^ k) := by
  rw [wb_c k hk]
  apply wb_inj
  rw [Int64.toBitVec_shiftLeft, wb_tb, wb_tb, wb_tb, wb_sm k hk]
  apply BitVec.eq_of_toNat_eq
  rw [BitVec.shiftLeft_eq', BitVec.toNat_shiftLeft, BitVec.toNat_ofNat, BitVec.toNat_ofNat, BitVec.toNat_ofNat, Nat.mod_eq_of_lt (show k < 2 ^ 64 by omega), Nat.shiftLeft_eq, Nat.mul_mod, Nat.mod_mod, ← Nat.mul_mod]
theorem wb_and {a b : Nat} (ha : a < 2 ^ 64) (hb : b < 2 ^ 64) : lN a &&& lN b = lN (a &&& b) := by
  apply wb_inj
  rw [Int64.toBitVec_and, wb_tb, wb_tb, wb_tb]
  apply BitVec.eq_of_toNat_eq
  rw [BitVec.toNat_and, BitVec.toNat_ofNat, BitVec.toNat_ofNat, BitVec.toNat_ofNat, Nat.mod_eq_of_lt ha, Nat.mod_eq_of_lt hb, Nat.mod_eq_of_lt (Nat.and_lt_two_pow _ hb)]
theorem wb_or {a b : Nat} (ha : a < 2 ^ 64) (hb : b < 2 ^ 64) : lN a ||| lN b = lN (a ||| b) := by
  apply wb_inj
  rw [Int64.toBitVec_or, wb_tb, wb_tb, wb_tb]
  apply BitVec.eq_of_toNat_eq
  rw [BitVec.toNat_or, BitVec.toNat_ofNat, BitVec.toNat_ofNat, BitVec.toNat_ofNat, Nat.mod_eq_of_lt ha, Nat.mod_eq_of_lt hb, Nat.mod_eq_of_lt (Nat.or_lt_two_pow ha hb)]
theorem wb_mask {n k : Nat} (hn : n < 2 ^ 64) (hk : k < 64) : lN n &&& lN (2 ^ k - 1) = lN (n % 2 ^ k) := by
  rw [wb_and hn (by have := wb_lt2 hk; omega), Nat.and_two_pow_sub_one_eq_mod]
theorem wb_a1 {n : Nat} (hn : n < 2 ^ 64) : lN n &&& 1 = lN (n % 2) := wb_mask (k := 1) hn (by decide)
theorem wb_bit {n k : Nat} (hn : n < 2 ^ 64) (hk : k < 64) : ((lN n).toUInt64 >>> ((nI k).toInt64.toUInt64 &&& Int64.toUInt64 63)).toInt64 &&& 1 = lN (n / 2 ^ k % 2) := by
  rw [wb_shr hn hk, wb_a1 (Nat.lt_of_le_of_lt (Nat.div_le_self _ _) hn)]
end
section
/-! masks: the law's graph -/
theorem bm_or (a b : Nat) : nI a ||| nI b = nI (a ||| b) := by
  apply Int32.toBitVec_inj.1
  show BitVec.ofNat 32 a ||| BitVec.ofNat 32 b = BitVec.ofNat 32 (a ||| b)
  apply BitVec.eq_of_getLsbD_eq
  intro i hi
  simp [hi]
theorem bm_sh {U l : Nat} (hU : U < 2 ^ 31) (hl : l < 32) : (nI U >>> (nI l &&& 31)) &&& 1 = nI (U / 2 ^ l % 2) := by
  rw [pk_shrN hU _ l (s_l l hl), ix_n1 (Nat.lt_of_le_of_lt (Nat.div_le_self _ _) (by omega))]
theorem bm_0 {U l : Nat} (hU : U < 2 ^ 31) (hl : l < 32) : (nI U >>> (nI l &&& 31)) &&& 1 = 0 ↔ U.testBit l = false := by
  rw [bm_sh hU hl, Nat.testBit_eq_decide_div_mod_eq, ← nI_0, nI_eq (by omega) (by omega), decide_eq_false_iff_not]
  omega
theorem bm_1l {l : Nat} (hl : l < 31) : (1 : Int32) <<< (nI l &&& 31) = nI (2 ^ l) := by
  have h : 2 ^ l < 2 ^ 32 := Nat.pow_lt_pow_right (by decide) (by omega)
  have := pk_shlN (n := 1) (nI l &&& 31) l (s_l l (by omega)) (by rw [Nat.one_mul]; exact h)
  rw [Nat.one_mul] at this
  exact this
theorem bm_nb {A c : Nat} (hA : A < 2 ^ 64) (hc : c < 8) : ((((lN A).toUInt64 >>> ((8 * nI c).toInt64.toUInt64 &&& Int64.toUInt64 63)).toInt64) &&& 255).toInt32 = nI (A / 2 ^ (8 * c) % 256) := by
  rw [show 8 * nI c = nI (8 * c) from pk_mul 8 c, wb_shr hA (by omega), show (255 : Int64) = lN (2 ^ 8 - 1) from rfl, wb_mask (Nat.lt_of_le_of_lt (Nat.div_le_self _ _) hA) (by decide), lN_i]
theorem l_nb {post : Int32 → Prop} {A c : Nat} (hA : A < 2 ^ 64) (hc : c < 8) (h : post (nI (A / 2 ^ (8 * c) % 256))) : wpL_nb post () (lN A) (nI c) := by
  unfold wpL_nb
  rw [bm_nb hA hc]
  exact h
def gw_gr (A M : Nat) : Nat → Nat → Nat → Nat
  | 0, _, r => r
  | k + 1, x, r => gw_gr A M k (x + 1) (if M.testBit x then r ||| (A / 2 ^ (8 * x) % 256) else r)
theorem gw_gr_lt (A M : Nat) : ∀ k x r, r < 2 ^ 8 → gw_gr A M k x r < 2 ^ 8
  | 0, _, r, h => h
  | k + 1, x, r, h => by
    rw [gw_gr]
    apply gw_gr_lt A M k (x + 1)
    split
    · exact Nat.or_lt_two_pow h (Nat.mod_lt _ (by decide))
    · exact h
theorem gw_gr_tb (A M y : Nat) : ∀ k x r, (gw_gr A M k x r).testBit y = true ↔ r.testBit y = true ∨ ∃ w, x ≤ w ∧ w < x + k ∧ M.testBit w = true ∧ y < 8 ∧ A.testBit (8 * w + y) = true
  | 0, x, r => ⟨fun h => Or.inl h, fun h => h.elim id (fun ⟨w, a, b, _⟩ => absurd b (by omega))⟩
  | k + 1, x, r => by
    rw [gw_gr, gw_gr_tb A M y k (x + 1)]
    have hb : ∀ w, (A / 2 ^ (8 * w) % 256).testBit y = true ↔ y < 8 ∧ A.testBit (8 * w + y) = true := by
      intro w
      rw [show (256 : Nat) = 2 ^ 8 from rfl, Nat.testBit_mod_two_pow, Nat.testBit_div_two_pow, Nat.add_comm y, Bool.and_eq_true, decide_eq_true_eq]
    by_cases m : M.testBit x = true
    · rw [if_pos m, Nat.testBit_or, Bool.or_eq_true, hb]
      constructor
      · rintro ((h | h) | ⟨w, a, b, d⟩)
        · exact Or.inl h
        · exact Or.inr ⟨x, Nat.le_refl x, by omega, m, h⟩
        · exact Or.inr ⟨w, by omega, by omega, d⟩
      · rintro (h | ⟨w, a, b, d⟩)
        · exact Or.inl (Or.inl h)
        · by_cases q : w = x
          · subst q; exact Or.inl (Or.inr d.2)
          · exact Or.inr ⟨w, by omega, by omega, d⟩
    · rw [if_neg m]
      constructor
      · rintro (h | ⟨w, a, b, d⟩)
        · exact Or.inl h
        · exact Or.inr ⟨w, by omega, by omega, d⟩
      · rintro (h | ⟨w, a, b, d⟩)
        · exact Or.inl h
        · by_cases q : w = x
          · subst q; exact absurd d.1 m
          · exact Or.inr ⟨w, by omega, by omega, d⟩
theorem l_growl {post : Int32 → Prop} {A M n : Nat} (hA : A < 2 ^ 64) (hM : M < 2 ^ 8) (hn : n ≤ 8) : ∀ k i r, i + k = n → post (nI (gw_gr A M k i r)) → wL_grow_6 post (lN A) (nI M) (nI n) (k + 1) (nI r) (nI i)
  | 0, i, r, hi, h => br_t (nI_le (by omega) (by omega)) h
  | k + 1, i, r, hi, h => by
    rw [gw_gr] at h
    refine br_f (nI_ge (by omega) (by omega)) ?_
    by_cases m : M.testBit i = true
    · rw [if_pos m] at h
      refine br_f (fun z => by rw [(bm_0 (by omega) (by omega)).mp z] at m; exact absurd m (by decide)) (l_nb hA (by omega) (nm_r (bm_or _ _) (nm_r (nI_1 i) (l_growl hA hM hn k (i + 1) _ (by omega) h))))
    · rw [if_neg m] at h
      exact br_t ((bm_0 (by omega) (by omega)).mpr (by simpa using m)) (nm_r (nI_1 i) (l_growl hA hM hn k (i + 1) _ (by omega) h))
theorem l_grow {post : Int32 → Prop} {A M n : Nat} (hA : A < 2 ^ 64) (hM : M < 2 ^ 8) (hn : n ≤ 8) (h : post (nI (gw_gr A M n 0 M))) : wpL_grow post () (lN A) (nI M) (nI n) :=
  ⟨_, l_growl hA hM hn n 0 M (by omega) h⟩
/-- the clocks within i hops of c -/
def gw_rc (A n c : Nat) : Nat → Nat
  | 0 => 2 ^ c
  | i + 1 => gw_gr A (gw_rc A n c i) n 0 (gw_rc A n c i)
theorem gw_rc_lt {A n c : Nat} (hc : c < 8) : ∀ i, gw_rc A n c i < 2 ^ 8
  | 0 => Nat.pow_lt_pow_right (by decide) hc
  | i + 1 => gw_gr_lt _ _ _ _ _ (gw_rc_lt hc i)
theorem l_reachl {post : Int32 → Prop} {A n c : Nat} (hA : A < 2 ^ 64) (hc : c < 8) (hn : n ≤ 8) (h : post (nI (gw_rc A n c n))) : ∀ k i, i + k = n → wL_reach_8 post (lN A) (nI n) (k + 1) (nI (gw_rc A n c i)) (nI i)
  | 0, i, hi => by
    obtain rfl : i = n := by omega
    exact br_t (nI_le (by omega) (by omega)) h
  | k + 1, i, hi => br_f (nI_ge (by omega) (by omega)) (l_grow hA (gw_rc_lt hc i) hn (nm_r (nI_1 i) (l_reachl hA hc hn h k (i + 1) (by omega))))
theorem l_reach {post : Int32 → Prop} {A n c : Nat} (hA : A < 2 ^ 64) (hc : c < 8) (hn : n ≤ 8) (h : post (nI (gw_rc A n c n))) : wpL_reach post () (lN A) (nI c) (nI n) :=
  nm_r (bm_1l (by omega)) ⟨_, l_reachl hA hc hn h n 0 (by omega)⟩
theorem l_distl {post : Int32 → Prop} {A n c to d : Nat} (hA : A < 2 ^ 64) (hc : c < 8) (hn : n ≤ 8) (hto : to < 8) (hd : d ≤ n) (h1 : (gw_rc A n c d).testBit to = true) (h0 : ∀ i, i < d → (gw_rc A n c i).testBit to = false) (h : post (nI d)) : ∀ k i, i + k = d → wL_dist_8 post (lN A) (nI to) (nI n) (k + 1) (nI (gw_rc A n c i)) (nI i)
  | 0, i, hi => by
    obtain rfl : i = d := by omega
    have hb := gw_rc_lt (A := A) (n := n) hc i
    exact br_f (nI_nlt (by omega) (by omega)) (br_f (fun z => by rw [(bm_0 (by omega) (by omega)).mp z] at h1; exact absurd h1 (by decide)) h)
  | k + 1, i, hi => by
    have hb := gw_rc_lt (A := A) (n := n) hc i
    exact br_f (nI_nlt (by omega) (by omega)) (br_t ((bm_0 (by omega) (by omega)).mpr (h0 i (by omega))) (l_grow hA hb hn (nm_r (nI_1 i) (l_distl hA hc hn hto hd h1 h0 h k (i + 1) (by omega)))))
theorem l_dist {post : Int32 → Prop} {A n c to d : Nat} (hA : A < 2 ^ 64) (hc : c < 8) (hn : n ≤ 8) (hto : to < 8) (hd : d ≤ n) (h1 : (gw_rc A n c d).testBit to = true) (h0 : ∀ i, i < d → (gw_rc A n c i).testBit to = false) (h : post (nI d)) : wpL_dist post () (lN A) (nI c) (nI to) (nI n) :=
  nm_r (bm_1l (by omega)) ⟨_, l_distl hA hc hn hto hd h1 h0 h d 0 (by omega)⟩
/-- the mask adj is the network's graph -/
def gw_G (A L : Nat) (ck : Nat → Nat) (up : Nat → Prop) : Prop := ∀ x y, x < 8 → y < 8 → (A.testBit (8 * x + y) = true ↔ ∃ e, e < 2 * L ∧ up e ∧ ck e = x ∧ ck (gc_ot e) = y)
theorem gw_rc_W {A N L c : Nat} {ck : Nat → Nat} {up : Nat → Prop} (hN : N ≤ 8) (hc : c < N) (HN : cv_Net N (2 * L) ck gc_ot up) (G : gw_G A L ck up) : ∀ i y, (gw_rc A N c i).testBit y = true ↔ ∃ j, j ≤ i ∧ cv_W (2 * L) ck gc_ot up c j y
  | 0, y => by
    show (2 ^ c).testBit y = true ↔ _
    rw [Nat.testBit_two_pow, decide_eq_true_eq]
    constructor
    · intro h; exact ⟨0, Nat.le_refl 0, h.symm⟩
    · rintro ⟨j, hj, hw⟩
      obtain rfl : j = 0 := by omega
      have : y = c := hw
      exact this.symm
  | i + 1, y => by
    show (gw_gr A (gw_rc A N c i) N 0 (gw_rc A N c i)).testBit y = true ↔ _
    rw [gw_gr_tb, gw_rc_W hN hc HN G i y]
    constructor
    · rintro (⟨j, hj, hw⟩ | ⟨w, _, hw, hm, hy, ha⟩)
      · exact ⟨j, by omega, hw⟩
      · obtain ⟨j, hj, hW⟩ := (gw_rc_W hN hc HN G i w).mp hm
        obtain ⟨e, he, hu, e1, e2⟩ := (G w y (by omega) hy).mp ha
        obtain ⟨_, h2, h3, h4⟩ := HN e he
        exact ⟨j + 1, by omega, gc_ot e, h2, h4 hu, e2, by rw [h3, e1]; exact hW⟩
    · rintro ⟨j, hj, hW⟩
      by_cases q : j ≤ i
      · exact Or.inl ⟨j, q, hW⟩
      · obtain rfl : j = i + 1 := by omega
        obtain ⟨e, he, hu, e1, hw⟩ := hW
        obtain ⟨h1, h2, h3, h4⟩ := HN e he
        have h5 := (HN _ h2).1
        refine Or.inr ⟨ck (gc_ot e), by omega, by omega, (gw_rc_W hN hc HN G i _).mpr ⟨i, Nat.le_refl i, hw⟩, by omega, (G _ _ (by omega) (by omega)).mpr ⟨gc_ot e, h2, h4 hu, rfl, by rw [h3, e1]⟩⟩
end
section
/-! the times and the measures, clock by clock -/
theorem gt_gen {σ α : Type} (f : Nat → σ → σ) (cell : σ → Nat → α) (hfr : ∀ i d s, d ≠ i → cell (f i s) d = cell s d) (hcg : ∀ i s s', cell s i = cell s' i → cell (f i s) i = cell (f i s') i) (n : Nat) (s : σ) (c : Nat) : cell (gs_it f n 0 s) c = if c < n then cell (f c s) c else cell s c := by
  have H := gb_inv f n (fun i r => cell r c = if c < i then cell (f c s) c else cell s c) (by
    intro i r hi h
    by_cases q : c = i
    · subst q
      rw [if_neg (by omega)] at h
      rw [if_pos (by omega)]
      exact hcg c r s h
    · rw [hfr i c r q, h]
      by_cases z : c < i
      · rw [if_pos z, if_pos (by omega)]
      · rw [if_neg z, if_neg (by omega)]) n 0 s (by omega) (if_neg (by omega)).symm
  exact H
/-- a clock's row of measures -/
def gt_row (ms : Nat → Int64) (c : Nat) : Nat → Int64 := fun w => if w < 9 then ms (c * 9 + w) else 0
theorem gt_row_at {ms ms' : Nat → Int64} {c w : Nat} (h : gt_row ms c = gt_row ms' c) (hw : w < 9) : ms (c * 9 + w) = ms' (c * 9 + w) := by
  have := congrFun h w
  unfold gt_row at this
  rw [if_pos hw, if_pos hw] at this
  exact this
theorem gt_row_eq {ms ms' : Nat → Int64} {c : Nat} (h : ∀ w, w < 9 → ms (c * 9 + w) = ms' (c * 9 + w)) : gt_row ms c = gt_row ms' c := by
  funext w
  unfold gt_row
  by_cases q : w < 9
  · rw [if_pos q, if_pos q]; exact h w q
  · rw [if_neg q, if_neg q]
section
variable {N L : Nat} {lu ec es ed pl md dr : Nat → Int32} {ti ms : Nat → Int64}
theorem gt_msf {c e j : Nat} (h : j < c * 9 ∨ c * 9 + 9 ≤ j) : gs_ms ec ed ti ms c e j = ms j := by
  simp only [gs_ms]
  rw [pk_uLn (by omega), pk_uLn (by omega), pk_uLn (by omega), pk_uLn (by omega), pk_uLn (by omega), pk_uLn (by omega), pk_uLn (by omega)]
def gt_off (ec ed : Nat → Int32) (ti : Nat → Int64) (c e : Nat) : Int64 := (((ti c + (ed (gc_ot e)).toInt64) - ti (ec (gc_ot e)).toNatClampNeg) - ((ti (ec (gc_ot e)).toNatClampNeg + (ed (gc_ot e)).toInt64 + (ed e).toInt64) - (ti c + (ed (gc_ot e)).toInt64))) / 2
def gt_dly (ec ed : Nat → Int32) (ti : Nat → Int64) (c e : Nat) : Int64 := (((ti c + (ed (gc_ot e)).toInt64) - ti (ec (gc_ot e)).toNatClampNeg) + ((ti (ec (gc_ot e)).toNatClampNeg + (ed (gc_ot e)).toInt64 + (ed e).toInt64) - (ti c + (ed (gc_ot e)).toInt64))) / 2
theorem gt_ms0 {c e : Nat} : gs_ms ec ed ti ms c e (c * 9 + 0) = gt_off ec ed ti c e := by
  simp only [gs_ms]
  rw [pk_uLn (by omega), pk_uLn (by omega), pk_uLn (by omega), pk_uLn (by omega), pk_uLn (by omega), pk_uLn (by omega), pk_uLs]
  rfl
theorem gt_ms1 {c e : Nat} : gs_ms ec ed ti ms c e (c * 9 + 1) = gt_dly ec ed ti c e := by
  simp only [gs_ms]
  rw [pk_uLn (by omega), pk_uLn (by omega), pk_uLn (by omega), pk_uLn (by omega), pk_uLn (by omega), pk_uLs]
  rfl
theorem gt_ms8 {c e : Nat} : gs_ms ec ed ti ms c e (c * 9 + 8) = ms (c * 9 + 8) + 1 := by
  simp only [gs_ms]
  rw [pk_uLs, pk_uLn (by omega), pk_uLn (by omega), pk_uLn (by omega), pk_uLn (by omega), pk_uLn (by omega), pk_uLn (by omega)]
theorem gt_ms6 {c e : Nat} : gs_ms ec ed ti ms c e (c * 9 + 6) = ms (c * 9 + 6) := by
  simp only [gs_ms]
  rw [pk_uLn (by omega), pk_uLn (by omega), pk_uLn (by omega), pk_uLn (by omega), pk_uLn (by omega), pk_uLn (by omega), pk_uLn (by omega)]
theorem gt_msc {ms' : Nat → Int64} {c e : Nat} (h : gt_row ms c = gt_row ms' c) : gt_row (gs_ms ec ed ti ms c e) c = gt_row (gs_ms ec ed ti ms' c e) c := by
  apply gt_row_eq
  intro w hw
  have h8 := gt_row_at h (w := 8) (by omega)
  by_cases q8 : w = 8
  · subst q8; rw [gt_ms8, gt_ms8, h8]
  · have hb := gt_row_at h hw
    have q : ¬ c * 9 + w = c * 9 + 8 := by omega
    simp only [gs_ms, vp_updL]
    rw [if_neg q, if_neg q, hb]
/-- what a clock measures in a step -/
theorem gt_meas {c : Nat} (hc : c < N) : (gs_it (gs_meas L pl lu ec es ed ti) N 0 (md, ms)).1 c = (gs_meas L pl lu ec es ed ti c (md, ms)).1 c ∧ ∀ w, w < 9 → (gs_it (gs_meas L pl lu ec es ed ti) N 0 (md, ms)).2 (c * 9 + w) = (gs_meas L pl lu ec es ed ti c (md, ms)).2 (c * 9 + w) := by
  have H := gt_gen (gs_meas L pl lu ec es ed ti) (fun s c => (s.1 c, gt_row s.2 c)) (by
    intro i d s hd
    unfold gs_meas
    have a : ∀ x : Int32, upd s.1 i x d = s.1 d := fun x => pk_un hd
    have b : ∀ e, gt_row (gs_ms ec ed ti s.2 i e) d = gt_row s.2 d := fun e => gt_row_eq (fun w hw => gt_msf (by omega))
    cases gs_end L ec i (pl i) with
    | none => dsimp only; rw [a]
    | some e =>
      dsimp only
      split
      · dsimp only; rw [a, b]
      · dsimp only; rw [a]) (by
    intro i s s' h
    have h2 : gt_row s.2 i = gt_row s'.2 i := congrArg Prod.snd h
    unfold gs_meas
    cases gs_end L ec i (pl i) with
    | none => dsimp only; rw [pk_us, pk_us, h2]
    | some e =>
      dsimp only
      split
      · dsimp only; rw [pk_us, pk_us, gt_msc h2]
      · dsimp only; rw [pk_us, pk_us, h2]) N (md, ms) c
  rw [if_pos hc] at H
  exact ⟨congrArg Prod.fst H, fun w hw => gt_row_at (congrArg Prod.snd H) hw⟩
theorem gt_steer {c : Nat} (hc : c < N) : (gs_it (gs_steer md) N 0 (ti, ms)).1 c = (gs_steer md c (ti, ms)).1 c ∧ ∀ w, w < 9 → (gs_it (gs_steer md) N 0 (ti, ms)).2 (c * 9 + w) = (gs_steer md c (ti, ms)).2 (c * 9 + w) := by
  have H := gt_gen (gs_steer md) (fun s c => (s.1 c, gt_row s.2 c)) (by
    intro i d s hd
    unfold gs_steer
    split
    · rfl
    · split
      · dsimp only; rw [pk_uLn hd]
      · dsimp only
        rw [gt_row_eq (ms' := s.2) (fun w hw => by rw [pk_uLn (by omega), pk_uLn (by omega)])]) (by
    intro i s s' h
    have h1 : s.1 i = s'.1 i := congrArg Prod.fst h
    have h2 : gt_row s.2 i = gt_row s'.2 i := congrArg Prod.snd h
    have e0 := gt_row_at h2 (w := 0) (by omega)
    have e7 := gt_row_at h2 (w := 7) (by omega)
    unfold gs_steer
    rw [e0, e7]
    split
    · exact h
    · split
      · dsimp only; rw [pk_uLs, pk_uLs, h1, h2]
      · dsimp only
        rw [h1, gt_row_eq (fun w hw => ?_)]
        have ew := gt_row_at h2 hw
        simp only [vp_updL]
        rw [ew]) N (ti, ms) c
  rw [if_pos hc] at H
  exact ⟨congrArg Prod.fst H, fun w hw => gt_row_at (congrArg Prod.snd H) hw⟩
theorem gt_adv (c : Nat) : gs_it (gs_adv dr ms) N 0 ti c = if c < N then ti c + 1000000000 + (dr c).toInt64 + ms (c * 9 + 6) else ti c := by
  have H := gt_gen (gs_adv dr ms) (fun (s : Nat → Int64) c => s c) (fun i d s hd => pk_uLn hd) (by
    intro i s s' h
    show vp_updL s i _ i = vp_updL s' i _ i
    have h' : s i = s' i := h
    rw [pk_uLs, pk_uLs, h']) N ti c
  refine H.trans ?_
  split
  · show vp_updL ti c _ c = _
    rw [pk_uLs]
  · rfl
end
/-! bounds -/
theorem iv_add {a b : Int64} (h1 : -(2 ^ 62) ≤ a.toInt + b.toInt) (h2 : a.toInt + b.toInt ≤ 2 ^ 62) : (a + b).toInt = a.toInt + b.toInt := by
  rw [Int64.toInt_add]
  exact Int.bmod_eq_of_le (by omega) (by omega)
theorem iv_sub {a b : Int64} (h1 : -(2 ^ 62) ≤ a.toInt - b.toInt) (h2 : a.toInt - b.toInt ≤ 2 ^ 62) : (a - b).toInt = a.toInt - b.toInt := by
  rw [Int64.toInt_sub]
  exact Int.bmod_eq_of_le (by omega) (by omega)
theorem iv_half {a : Int64} : (a / 2).toInt = a.toInt.tdiv 2 := by
  rw [Int64.toInt_div_of_ne_right a 2 (by decide)]
  rfl
theorem iv_hb {x y : Int} (h1 : -y ≤ x) (h2 : x ≤ y) : -y ≤ 2 * x.tdiv 2 ∧ 2 * x.tdiv 2 ≤ y ∧ x - 1 ≤ 2 * x.tdiv 2 ∧ 2 * x.tdiv 2 ≤ x + 1 := by
  rcases Int.le_total 0 x with h | h
  · rw [Int.tdiv_eq_ediv_of_nonneg h]; omega
  · obtain ⟨z, rfl⟩ : ∃ z, x = -z := ⟨-x, by omega⟩
    rw [Int.neg_tdiv, Int.tdiv_eq_ediv_of_nonneg (by omega)]; omega
/-- the offset within bounds -/
theorem iv_off {B : Int} {tc tp a b : Int64} (hB : B ≤ 2 ^ 58) (h1 : -B ≤ tc.toInt ∧ tc.toInt ≤ B) (h2 : -B ≤ tp.toInt ∧ tp.toInt ≤ B) (ha : 0 ≤ a.toInt ∧ a.toInt ≤ 10000000) (hb : 0 ≤ b.toInt ∧ b.toInt ≤ 10000000) :
    ((((tc + a) - tp) - ((tp + a + b) - (tc + a))) / 2).toInt = (2 * (tc.toInt - tp.toInt) + (a.toInt - b.toInt)).tdiv 2 ∧ ((((tc + a) - tp) + ((tp + a + b) - (tc + a))) / 2).toInt = (a.toInt + b.toInt).tdiv 2 := by
  have e1 : (tc + a).toInt = tc.toInt + a.toInt := iv_add (by omega) (by omega)
  have e2 : (tc + a - tp).toInt = tc.toInt + a.toInt - tp.toInt := by rw [iv_sub (by omega) (by omega), e1]
  have e3 : (tp + a).toInt = tp.toInt + a.toInt := iv_add (by omega) (by omega)
  have e4 : (tp + a + b).toInt = tp.toInt + a.toInt + b.toInt := by rw [iv_add (by omega) (by omega), e3]
  have e5 : (tp + a + b - (tc + a)).toInt = tp.toInt + b.toInt - tc.toInt := by rw [iv_sub (by omega) (by omega), e4, e1]; omega
  constructor
  · rw [iv_half, iv_sub (by omega) (by omega), e2, e5]
    congr 1; omega
  · rw [iv_half, iv_add (by omega) (by omega), e2, e5]
    congr 1; omega
end
section
/-! a step keeps the times within bounds; runs -/
def gt_A (N : Nat) (B : Int) (ti ms : Nat → Int64) : Prop := ∀ c, c < N → (-B ≤ (ti c).toInt ∧ (ti c).toInt ≤ B) ∧ (-500000 ≤ (ms (c * 9 + 6)).toInt ∧ (ms (c * 9 + 6)).toInt ≤ 500000)
def gt_D (L : Nat) (dr ed : Nat → Int32) : Prop := (∀ c, c < 8 → -100000 ≤ (dr c).toInt ∧ (dr c).toInt ≤ 100000) ∧ ∀ e, e < 2 * L → 0 ≤ (ed e).toInt ∧ (ed e).toInt ≤ 10000000
theorem gt_cl {v : Int64} : -500000 ≤ (gc_clL v (-500000) 500000).toInt ∧ (gc_clL v (-500000) 500000).toInt ≤ 500000 := by
  have a : (-500000 : Int64).toInt = -500000 := by decide
  have b : (500000 : Int64).toInt = 500000 := by decide
  unfold gc_clL
  by_cases h1 : v < -500000
  · rw [if_pos h1, a]; omega
  · rw [if_neg h1]
    by_cases h2 : 500000 < v
    · rw [if_pos h2, b]; omega
    · rw [if_neg h2]
      rw [Int64.lt_iff_toInt_lt, a] at h1
      rw [Int64.lt_iff_toInt_lt, b] at h2
      omega
section
variable {N C L : Nat} {tm : Int32} {RW dr pa pl md lu ec es ed : Nat → Int32} {ti ms : Nat → Int64}
/-- a clock that was measured was measured at an end of its own -/
theorem gt_md {c : Nat} (hL : L ≤ 16) (h : ¬ (gs_meas L pl lu ec es ed ti c (md, ms)).1 c = 0) : ∃ e, e < 2 * L ∧ gs_end L ec c (pl c) = some e ∧ gs_meas L pl lu ec es ed ti c (md, ms) = (upd md c 1, gs_ms ec ed ti ms c e) := by
  unfold gs_meas at h ⊢
  cases hq : gs_end L ec c (pl c) with
  | none =>
    rw [hq] at h
    exact absurd pk_us h
  | some e =>
    rw [hq] at h
    dsimp only at h ⊢
    by_cases s : ¬ lu (e / 2) = 0 ∧ es e = 2 ∧ es (gc_ot e) = 1
    · rw [if_pos s]
      exact ⟨e, gs_end_lt hL hq, rfl, rfl⟩
    · rw [if_neg s] at h
      exact absurd pk_us h
theorem gt_m6 {c : Nat} : (gs_meas L pl lu ec es ed ti c (md, ms)).2 (c * 9 + 6) = ms (c * 9 + 6) := by
  unfold gs_meas
  cases gs_end L ec c (pl c) with
  | none => rfl
  | some e =>
    dsimp only
    split
    · exact gt_ms6
    · rfl
theorem gt_st1 (c : Nat) : ((gs_steer md c (ti, ms)).1 c = ti c ∨ (¬ md c = 0 ∧ (gs_steer md c (ti, ms)).1 c = ti c - ms (c * 9 + 0))) ∧ ((gs_steer md c (ti, ms)).2 (c * 9 + 6) = ms (c * 9 + 6) ∨ (-500000 ≤ ((gs_steer md c (ti, ms)).2 (c * 9 + 6)).toInt ∧ ((gs_steer md c (ti, ms)).2 (c * 9 + 6)).toInt ≤ 500000)) ∧ ∀ w, w < 9 → w ≠ 6 → w ≠ 7 → (gs_steer md c (ti, ms)).2 (c * 9 + w) = ms (c * 9 + w) := by
  unfold gs_steer
  by_cases a : md c = 0
  · rw [if_pos a]
    exact ⟨Or.inl rfl, Or.inl rfl, fun w _ _ _ => rfl⟩
  · rw [if_neg a]
    dsimp only
    by_cases b : 1000000 < ms (c * 9 + 0) ∨ ms (c * 9 + 0) < -1000000
    · rw [if_pos b]
      exact ⟨Or.inr ⟨a, pk_uLs⟩, Or.inl rfl, fun w _ _ _ => rfl⟩
    · rw [if_neg b]
      refine ⟨Or.inl rfl, Or.inr ?_, fun w hw h6 h7 => ?_⟩
      · dsimp only
        rw [pk_uLs]; exact gt_cl
      · dsimp only
        rw [pk_uLn (by omega), pk_uLn (by omega)]
theorem gt_sum {B : Int} {x dd aa : Int64} (hB : B ≤ 2 ^ 58) (h0 : 0 ≤ B) (hx : -(B + 10000001) ≤ x.toInt ∧ x.toInt ≤ B + 10000001) (hd : -100000 ≤ dd.toInt ∧ dd.toInt ≤ 100000) (ha : -500000 ≤ aa.toInt ∧ aa.toInt ≤ 500000) : -(B + 2147483648) ≤ (x + 1000000000 + dd + aa).toInt ∧ (x + 1000000000 + dd + aa).toInt ≤ B + 2147483648 := by
  have l : (1000000000 : Int64).toInt = 1000000000 := by decide
  have e1 : (x + 1000000000).toInt = x.toInt + 1000000000 := by rw [iv_add (by omega) (by omega), l]
  have e2 : (x + 1000000000 + dd).toInt = x.toInt + 1000000000 + dd.toInt := by rw [iv_add (by omega) (by omega), e1]
  have e3 : (x + 1000000000 + dd + aa).toInt = x.toInt + 1000000000 + dd.toInt + aa.toInt := by rw [iv_add (by omega) (by omega), e2]
  omega
theorem gt_jump {B : Int} {tc o : Int64} {p a b : Int} (hB : B ≤ 2 ^ 58) (h0 : 0 ≤ B) (h1 : -B ≤ tc.toInt ∧ tc.toInt ≤ B) (h2 : -B ≤ p ∧ p ≤ B) (ha : 0 ≤ a ∧ a ≤ 10000000) (hb : 0 ≤ b ∧ b ≤ 10000000) (ho : o.toInt = (2 * (tc.toInt - p) + (a - b)).tdiv 2) : -(B + 10000001) ≤ (tc - o).toInt ∧ (tc - o).toInt ≤ B + 10000001 := by
  have hb2 := iv_hb (x := 2 * (tc.toInt - p) + (a - b)) (y := 4 * B + 10000000) (by omega) (by omega)
  rw [← ho] at hb2
  rw [iv_sub (by omega) (by omega)]
  omega
theorem gt_step {B : Int} (K : gx_ok N L lu ec) (hB : B ≤ 2 ^ 57) (h0 : 0 ≤ B) (HA : gt_A N B ti ms) (HD : gt_D L dr ed) :
    gt_A N (B + 2147483648) (gs_it (gs_adv dr (gs_it (gs_steer (gs_it (gs_meas L pl lu ec es ed ti) N 0 (md, ms)).1) N 0 (ti, (gs_it (gs_meas L pl lu ec es ed ti) N 0 (md, ms)).2)).2) N 0 (gs_it (gs_steer (gs_it (gs_meas L pl lu ec es ed ti) N 0 (md, ms)).1) N 0 (ti, (gs_it (gs_meas L pl lu ec es ed ti) N 0 (md, ms)).2)).1) (gs_it (gs_steer (gs_it (gs_meas L pl lu ec es ed ti) N 0 (md, ms)).1) N 0 (ti, (gs_it (gs_meas L pl lu ec es ed ti) N 0 (md, ms)).2)).2 := by
  intro c hcN
  have hc : c < 8 := by have := K.2.1; omega
  obtain ⟨hti, ham⟩ := HA c hcN
  rw [gt_adv, if_pos hcN]
  obtain ⟨m1, m2⟩ := gt_meas (N := N) (L := L) (lu := lu) (ec := ec) (es := es) (ed := ed) (pl := pl) (md := md) (ti := ti) (ms := ms) hcN
  generalize gs_it (gs_meas L pl lu ec es ed ti) N 0 (md, ms) = s1 at m1 m2 ⊢
  obtain ⟨t1, t2⟩ := gt_steer (N := N) (md := s1.1) (ti := ti) (ms := s1.2) hcN
  generalize gs_it (gs_steer s1.1) N 0 (ti, s1.2) = s2 at t1 t2 ⊢
  obtain ⟨g1, g2, _⟩ := gt_st1 (md := s1.1) (ti := ti) (ms := s1.2) c
  rw [← t1] at g1
  rw [← t2 6 (by omega), m2 6 (by omega), gt_m6] at g2
  have adj : -500000 ≤ (s2.2 (c * 9 + 6)).toInt ∧ (s2.2 (c * 9 + 6)).toInt ≤ 500000 := by
    rcases g2 with z | z
    · rw [z]; exact ham
    · exact z
  refine ⟨gt_sum (by omega) h0 ?_ (by rw [Int32.toInt_toInt64]; exact HD.1 c hc) adj, adj⟩
  rcases g1 with z | ⟨z0, z⟩
  · rw [z]; omega
  · rw [z]
    rw [m1] at z0
    obtain ⟨e, he, _, q⟩ := gt_md K.2.2.1 z0
    have ho := gc_otlt he
    obtain ⟨j, hj, ej⟩ := K.2.2.2.2 _ ho
    have hN := K.2.1
    have ov : s1.2 (c * 9 + 0) = gt_off ec ed ti c e := by
      rw [m2 0 (by omega), q]
      exact gt_ms0
    rw [ov]
    obtain ⟨hp, _⟩ := HA j (by omega)
    have d1 := HD.2 e he
    have d2 := HD.2 _ ho
    refine gt_jump (by omega) h0 hti hp d2 d1 ?_
    unfold gt_off
    rw [ej, nI_clamp (by omega), (iv_off (B := B) (by omega) hti hp (by rw [Int32.toInt_toInt64]; exact d2) (by rw [Int32.toInt_toInt64]; exact d1)).1, Int32.toInt_toInt64, Int32.toInt_toInt64]
end
/-- the states of a run: S t after t steps -/
def gq_S (N L : Nat) (tm : Int32) (lu ec : Nat → Int32) (s0 : (Nat → Int32) × (Nat → Int32) × (Nat → Int32) × (Nat → Int32)) : Nat → (Nat → Int32) × (Nat → Int32) × (Nat → Int32) × (Nat → Int32)
  | 0 => s0
  | t + 1 => gb_step N L tm lu ec (gq_S N L tm lu ec s0 t)
def gq_Q (N C L : Nat) (tm : Int32) (dr lu ec ed : Nat → Int32) (s0 : (Nat → Int32) × (Nat → Int32) × (Nat → Int32) × (Nat → Int32)) (B : Int) (t : Nat) (u : St2) : Prop :=
  ∃ ti ms md, u = gx N C L tm (gq_S N L tm lu ec s0 t).1 dr ti (gq_S N L tm lu ec s0 t).2.1 (gq_S N L tm lu ec s0 t).2.2.1 ms md lu ec (gq_S N L tm lu ec s0 t).2.2.2 ed ∧ (B + 2147483648 * t ≤ 2 ^ 57 → gt_A N (B + 2147483648 * t) ti ms)
section
variable {N C L : Nat} {tm : Int32} {RW dr pa pl md lu ec es ed : Nat → Int32} {ti ms : Nat → Int64} {s0 : (Nat → Int32) × (Nat → Int32) × (Nat → Int32) × (Nat → Int32)} {B : Int}
theorem gq_step (K : gx_ok N L lu ec) (h0 : 0 ≤ B) (HD : gt_D L dr ed) : ∀ t u, gq_Q N C L tm dr lu ec ed s0 B t u → ∃ u', gq_Q N C L tm dr lu ec ed s0 B (t + 1) u' ∧ ∀ post : St2 → Prop, post u' → wpX_step post u := by
  rintro t u ⟨ti, ms, md, rfl, HA⟩
  refine ⟨_, ⟨_, _, _, rfl, fun hb => ?_⟩, fun post h => x_step K h⟩
  have e : B + 2147483648 * ((t + 1 : Nat) : Int) = B + 2147483648 * t + 2147483648 := by omega
  rw [e]
  exact gt_step K (by omega) (by omega) (HA (by omega)) HD
theorem gq_run {k : Nat} (K : gx_ok N L lu ec) (h0 : 0 ≤ B) (HD : gt_D L dr ed) (hk : k ≤ 64) {t : Nat} {u : St2} (I : gq_Q N C L tm dr lu ec ed s0 B t u) : ∃ u', gq_Q N C L tm dr lu ec ed s0 B (t + k) u' ∧ ∀ post : Int32 → St2 → Prop, post (nI k) u' → wpX_run post u (nI k) :=
  x_run (gq_step K h0 HD) hk I
theorem x_run1 {post : Int32 → St2 → Prop} (K : gx_ok N L lu ec) (h : post 1 (gs_stX N C L tm RW dr ti pa pl ms md lu ec es ed)) : wpX_run post (gx N C L tm RW dr ti pa pl ms md lu ec es ed) 1 := by
  unfold wpX_run
  refine x_clamp ?_
  rw [show gc_cl 1 0 64 = nI 1 by decide]
  exact ⟨2, br_f (by decide) (x_step K (nm_r (show (0 : Int32) + 1 = nI 1 by decide) (br_t (nI_le (by omega) (by omega)) h)))⟩
end
end
section
/-! the law's packed links, its mask of links that are up, its delays -/
theorem bm_and (a b : Nat) : nI a &&& nI b = nI (a &&& b) := by
  apply Int32.toBitVec_inj.1
  show BitVec.ofNat 32 a &&& BitVec.ofNat 32 b = BitVec.ofNat 32 (a &&& b)
  apply BitVec.eq_of_getLsbD_eq
  intro i hi
  simp [hi]
theorem bm_set {U l : Nat} (hl : l < 31) : nI U ||| ((1 : Int32) <<< (nI l &&& 31)) = nI (U ||| 2 ^ l) := by
  rw [bm_1l hl, bm_or]
theorem bm_clr {U l : Nat} (hl : l < 31) : nI U &&& (((1 : Int32) <<< (nI l &&& 31)) ^^^ (-1)) = nI (U &&& (2 ^ l ^^^ (2 ^ 32 - 1))) := by
  rw [bm_1l hl, show (-1 : Int32) = nI (2 ^ 32 - 1) by decide, nx_xor, bm_and]
theorem bm_set_tb (U l j : Nat) : (U ||| 2 ^ l).testBit j = true ↔ U.testBit j = true ∨ j = l := by
  rw [Nat.testBit_or, Nat.testBit_two_pow, Bool.or_eq_true, decide_eq_true_eq]
  constructor
  · rintro (h | h)
    · exact Or.inl h
    · exact Or.inr h.symm
  · rintro (h | h)
    · exact Or.inl h
    · exact Or.inr h.symm
theorem bm_clr_tb {U l j : Nat} (hj : j < 32) : (U &&& (2 ^ l ^^^ (2 ^ 32 - 1))).testBit j = true ↔ U.testBit j = true ∧ j ≠ l := by
  rw [Nat.testBit_and, Nat.testBit_xor, Nat.testBit_two_pow, Nat.testBit_two_pow_sub_one, Bool.and_eq_true]
  by_cases q : l = j
  · rw [decide_eq_true q, decide_eq_true hj]
    constructor
    · rintro ⟨_, h⟩; exact absurd h (by decide)
    · rintro ⟨_, h⟩; exact absurd q.symm h
  · rw [decide_eq_false q, decide_eq_true hj]
    constructor
    · rintro ⟨h, _⟩; exact ⟨h, fun z => q z.symm⟩
    · rintro ⟨h, _⟩; exact ⟨h, by decide⟩
theorem bm_mask {E s : Nat} (hE : E < 2 ^ s) (hs : s ≤ 56) : lN E &&& (lN (255 * 2 ^ s) ^^^ (-1)) = lN E := by
  apply wb_inj
  rw [Int64.toBitVec_and, Int64.toBitVec_xor, wb_tb, wb_tb, show (-1 : Int64).toBitVec = BitVec.allOnes 64 from rfl]
  apply BitVec.eq_of_getLsbD_eq
  intro i hi
  rw [BitVec.getLsbD_and, BitVec.getLsbD_xor, BitVec.getLsbD_ofNat, BitVec.getLsbD_ofNat, BitVec.getLsbD_allOnes, Nat.testBit_mul_two_pow]
  by_cases q : i < s
  · have : ¬ s ≤ i := by omega
    simp [hi, this]
  · have : E.testBit i = false := Nat.testBit_lt_two_pow (Nat.lt_of_lt_of_le hE (Nat.pow_le_pow_right (by decide) (by omega)))
    simp [this]
theorem bm_put {E v s : Nat} (hE : E < 2 ^ s) (hs : s ≤ 56) (hv : v < 256) : (lN E &&& (lN (255 * 2 ^ s) ^^^ (-1))) ||| lN (v * 2 ^ s) = lN (E + v * 2 ^ s) := by
  have p56 : 2 ^ s ≤ 2 ^ 56 := Nat.pow_le_pow_right (by decide) hs
  have hv2 : v * 2 ^ s < 2 ^ 64 := by
    have : v * 2 ^ s ≤ 255 * 2 ^ 56 := Nat.mul_le_mul (by omega) p56
    omega
  rw [bm_mask hE hs, wb_or (by omega) hv2, Nat.or_comm, Nat.mul_comm v, ← Nat.two_pow_add_eq_or_of_lt hE, Nat.add_comm]
theorem l_put {post : Int64 → Prop} {E l a b : Nat} (hE : E < 2 ^ (8 * (l % 8))) (ha : a < 8) (hb : b < 8) (h : post (lN (E + (a + 16 * b) * 2 ^ (8 * (l % 8))))) (hl : l < 2 ^ 31) : wpL_put post () (lN E) (nI l) (nI a) (nI b) := by
  have e1 : 8 * (nI l &&& 7) = nI (8 * (l % 8)) := by
    rw [pk_andN (by omega) 3 (by decide)]; exact pk_mul 8 _
  have e2 : nI a ||| (nI b <<< ((4 : Int32) &&& 31)) = nI (a + 16 * b) := by
    rw [pk_shlN _ 4 (by decide) (by omega), bm_or, Nat.or_comm, Nat.mul_comm b, ← Nat.two_pow_add_eq_or_of_lt (show a < 2 ^ 4 by omega)]
    congr 1; omega
  refine nm_r e1 ?_
  have e3 : (255 : Int64) <<< ((nI (8 * (l % 8))).toInt64 &&& 63) = lN (255 * 2 ^ (8 * (l % 8))) := wb_shl 255 (by omega)
  rw [e3, e2, nI_l (by omega), wb_shl _ (by omega), bm_put hE (by omega) (by omega)]
  exact h
theorem l_byte {E m : Nat} (hE : E < 2 ^ 64) (hm : m < 8) {l : Nat} (hl : l % 8 = m) (hl2 : l < 2 ^ 31) : ((((lN E).toUInt64 >>> ((8 * (nI l &&& 7)).toInt64.toUInt64 &&& Int64.toUInt64 63)).toInt64) &&& 255).toInt32 = nI (E / 2 ^ (8 * m) % 256) := by
  rw [pk_andN (by omega) 3 (by decide), show l % 2 ^ 3 = m from hl]
  exact bm_nb hE hm
theorem l_endOf {post : Int32 → Prop} {E0 E1 l w v : Nat} (h0 : E0 < 2 ^ 64) (h1 : E1 < 2 ^ 64) (hl : l < 16) (hv : (if l < 8 then E0 / 2 ^ (8 * l) % 256 else E1 / 2 ^ (8 * (l - 8)) % 256) = v) (hw : w < 2) (h : post (if w = 0 then nI (v % 16) else nI (v / 16))) : wpL_endOf post () (lN E0) (lN E1) (nI l) (nI w) := by
  have hv8 : v < 256 := by
    rw [← hv]; split <;> exact Nat.mod_lt _ (by decide)
  have fin : ∀ E m, E < 2 ^ 64 → m < 8 → l % 8 = m → E / 2 ^ (8 * m) % 256 = v → wL_endOf_12 post (nI l) (nI w) (lN E) := by
    intro E m hE hm hlm hvm
    refine nm_r ((l_byte hE hm hlm (by omega)).trans (by rw [hvm])) ?_
    rcases (by omega : w = 0 ∨ w = 1) with q | q
    · subst q
      refine br_t rfl ?_
      rw [pk_andN (by omega) 4 (by decide)]
      exact h
    · subst q
      refine br_f (by decide) ?_
      rw [pk_shrN (by omega) _ 4 (by decide)]
      exact h
  by_cases q : l < 8
  · rw [if_pos q] at hv
    exact br_f (nI_ge (b := 8) q (by omega)) (fin E0 l h0 q (by omega) hv)
  · rw [if_neg q] at hv
    exact br_t (nI_le (a := 8) (by omega) (by omega)) (fin E1 (l - 8) h1 (by omega) (by omega) hv)
def gw_base (x y s : Int32) : Int32 := ((((x * 37) + (y * 11)) + (s * 7)) &&& 65535) * 101
def gw_dl (a b s : Int32) : Int32 := if (((s.toUInt32 >>> (((((if b ≤ a then b else a) * 8) + (if b ≤ a then a else b)) &&& 31).toUInt32 &&& Int32.toUInt32 31)).toInt32) &&& 1) = 0 then gw_base (if b ≤ a then b else a) (if b ≤ a then a else b) s else gw_base a b s
theorem l_del {post : Int32 → Prop} {a b s : Int32} (h : post (gw_dl a b s)) : wpL_del post () a b s := by
  unfold gw_dl at h
  by_cases q : b ≤ a
  · rw [if_pos q, if_pos q] at h
    refine br_t q (br_t q ?_)
    split at h
    · exact br_t (by assumption) h
    · exact br_f (by assumption) h
  · rw [if_neg q, if_neg q] at h
    refine br_f q (br_f q ?_)
    split at h
    · exact br_t (by assumption) h
    · exact br_f (by assumption) h
theorem gw_base_r (x y s : Int32) : ∃ w, w < 10000000 ∧ gw_base x y s = nI w := by
  unfold gw_base
  rw [pk_and _ 16 (by decide)]
  exact ⟨_, by omega, pk_mul _ 101⟩
theorem gw_dl_r (a b s : Int32) : ∃ w, w < 10000000 ∧ gw_dl a b s = nI w := by
  unfold gw_dl
  split <;> split <;> exact gw_base_r _ _ _
theorem gw_dl_cl (a b s : Int32) : gc_cl (gw_dl a b s) 0 10000000 = gw_dl a b s := by
  obtain ⟨w, hw, e⟩ := gw_dl_r a b s
  rw [e]
  unfold gc_cl
  rw [if_neg (nI_pos (by omega))]
  exact if_neg (nI_nlt (b := w) (a := 10000000) (by omega) (by omega))
theorem l_cell {post : Int32 → Prop} {L j : Nat} {xs : Nat → Int32} (hL : L ≤ 260) (hj : j < 2 ^ 31) (h : ∀ r, post r) : wpL_cell post L xs () (nI j) := by
  by_cases q : L ≤ j
  · exact br_t (nI_le q hj) (h _)
  · exact br_f (nI_ge (by omega) (by omega)) ⟨vp_in_nI (by omega) (by omega), h _⟩
end
section
/-! what holds between the law's variables and the object -/
/-- links: their ends, no two alike, their delays, the law's bytes and mask -/
def gl_K (N L : Nat) (seed : Int32) (lu ec ed : Nat → Int32) (ck : Nat → Nat) (E0 E1 U : Nat) : Prop :=
  2 ≤ N ∧ N ≤ 8 ∧ L ≤ 16 ∧ (∀ l, lu l = 0 ∨ lu l = 1) ∧ gv_E N L ec ck ∧ (∀ e, e < 2 * L → ck e ≠ ck (gc_ot e)) ∧
  (∀ e e', e < 2 * L → e' < 2 * L → ck e = ck e' → ck (gc_ot e) = ck (gc_ot e') → e = e') ∧
  (∀ e, e < 2 * L → ed e = gw_dl (nI (ck e)) (nI (ck (gc_ot e))) seed) ∧
  (E0 < 2 ^ 64 ∧ E1 < 2 ^ 64 ∧ (L ≤ 7 → E0 < 2 ^ (8 * L)) ∧ (L ≤ 8 → E1 = 0) ∧ (8 ≤ L → L ≤ 15 → E1 < 2 ^ (8 * (L - 8))) ∧ ∀ l, l < L → (if l < 8 then E0 / 2 ^ (8 * l) % 256 else E1 / 2 ^ (8 * (l - 8)) % 256) = ck (2 * l) + 16 * ck (2 * l + 1)) ∧
  (U < 2 ^ 16 ∧ ∀ l, l < 16 → (U.testBit l = true ↔ l < L ∧ ¬ lu l = 0))
section
variable {N L T : Nat} {seed : Int32} {lu ec ed RW : Nat → Int32} {ck : Nat → Nat} {E0 E1 U : Nat}
theorem gl_ok (H : gl_K N L seed lu ec ed ck E0 E1 U) : gx_ok N L lu ec :=
  ⟨H.1, H.2.1, H.2.2.1, H.2.2.2.1, fun e he => ⟨ck e, (H.2.2.2.2.1 e he).1, (H.2.2.2.2.1 e he).2⟩⟩
theorem gl_D (H : gl_K N L seed lu ec ed ck E0 E1 U) {dr : Nat → Int32} (hd : ∀ c, c < 8 → -100000 ≤ (dr c).toInt ∧ (dr c).toInt ≤ 100000) : gt_D L dr ed := by
  refine ⟨hd, fun e he => ?_⟩
  obtain ⟨w, hw, q⟩ := gw_dl_r (nI (ck e)) (nI (ck (gc_ot e))) seed
  rw [H.2.2.2.2.2.2.2.1 e he, q, nI_toInt (by omega)]
  omega
/-- the law's reading of a link's ends -/
theorem gl_end {post : Int32 → Prop} (H : gl_K N L seed lu ec ed ck E0 E1 U) {l w : Nat} (hl : l < L) (hw : w < 2) (h : post (nI (ck (2 * l + w)))) : wpL_endOf post () (lN E0) (lN E1) (nI l) (nI w) := by
  have hN := H.2.1
  have hL := H.2.2.1
  obtain ⟨b0, b1, _, _, _, hv⟩ := H.2.2.2.2.2.2.2.2.1
  have c0 := (H.2.2.2.2.1 (2 * l) (by omega)).1
  have c1 := (H.2.2.2.2.1 (2 * l + 1) (by omega)).1
  refine l_endOf b0 b1 (by omega) (hv l hl) hw ?_
  rcases (by omega : w = 0 ∨ w = 1) with q | q
  · subst q
    rw [if_pos rfl, show (ck (2 * l) + 16 * ck (2 * l + 1)) % 16 = ck (2 * l) by omega]
    exact h
  · subst q
    rw [if_neg (by decide), show (ck (2 * l) + 16 * ck (2 * l + 1)) / 16 = ck (2 * l + 1) by omega]
    exact h
theorem gl_up (H : gl_K N L seed lu ec ed ck E0 E1 U) {l : Nat} (hl : l < L) : (nI U >>> (nI l &&& 31)) &&& 1 = 0 ↔ lu l = 0 := by
  have hL := H.2.2.1
  obtain ⟨hU, hb⟩ := H.2.2.2.2.2.2.2.2.2
  rw [bm_0 (by omega) (by omega)]
  have := hb l (by omega)
  constructor
  · intro z
    apply Classical.byContradiction
    intro q
    rw [this.mpr ⟨hl, q⟩] at z
    exact absurd z (by decide)
  · intro z
    cases h : U.testBit l with
    | false => rfl
    | true => exact absurd z (this.mp h).2
/-- a link's state changed -/
theorem gl_setUp (H : gl_K N L seed lu ec ed ck E0 E1 U) {l : Nat} {up : Int32} (hl : l < L) (hup : up = 0 ∨ up = 1) : gl_K N L seed (upd lu l up) ec ed ck E0 E1 (if up = 0 then U &&& (2 ^ l ^^^ (2 ^ 32 - 1)) else U ||| 2 ^ l) := by
  obtain ⟨h1, h2, h3, h4, h5, h6, h7, h8, h9, hU, hb⟩ := H
  refine ⟨h1, h2, h3, fun j => ?_, h5, h6, h7, h8, h9, ?_, fun j hj => ?_⟩
  · by_cases q : j = l
    · subst q; rw [pk_us]; exact hup
    · rw [pk_un q]; exact h4 j
  · split
    · exact Nat.lt_of_le_of_lt Nat.and_le_left hU
    · exact Nat.or_lt_two_pow hU (Nat.pow_lt_pow_right (by decide) (by omega))
  · rcases hup with rfl | rfl
    · rw [if_pos rfl, bm_clr_tb (by omega), hb j hj]
      by_cases q : j = l
      · subst q; rw [pk_us]
        exact ⟨fun z => absurd rfl z.2, fun z => absurd rfl z.2⟩
      · rw [pk_un q]
        exact ⟨fun z => z.1, fun z => ⟨z, q⟩⟩
    · rw [if_neg (by decide), bm_set_tb, hb j hj]
      by_cases q : j = l
      · subst q; rw [pk_us]
        exact ⟨fun _ => ⟨hl, by decide⟩, fun _ => Or.inr rfl⟩
      · rw [pk_un q]
        exact ⟨fun z => z.elim id (fun y => absurd y q), fun z => Or.inl z⟩
theorem pb_lo {E v s r : Nat} (h : r + 8 ≤ s) : (E + v * 2 ^ s) / 2 ^ r % 256 = E / 2 ^ r % 256 := by
  obtain ⟨d, rfl⟩ : ∃ d, s = r + (8 + d) := ⟨s - r - 8, by omega⟩
  rw [show v * 2 ^ (r + (8 + d)) = 2 ^ r * (256 * (v * 2 ^ d)) by rw [Nat.pow_add, Nat.pow_add]; simp [Nat.mul_comm, Nat.mul_left_comm, Nat.mul_assoc], Nat.add_mul_div_left _ _ (Nat.two_pow_pos r), Nat.add_mul_mod_self_left]
theorem pb_at {E v s : Nat} (hE : E < 2 ^ s) (hv : v < 256) : (E + v * 2 ^ s) / 2 ^ s % 256 = v := by
  rw [Nat.add_mul_div_right _ _ (Nat.two_pow_pos s), Nat.div_eq_of_lt hE, Nat.zero_add]
  exact Nat.mod_eq_of_lt hv
theorem pb_lt {E v s : Nat} (hE : E < 2 ^ s) (hv : v < 256) : E + v * 2 ^ s < 2 ^ (s + 8) := by
  have h1 : v * 2 ^ s ≤ 255 * 2 ^ s := Nat.mul_le_mul (by omega) (Nat.le_refl _)
  rw [Nat.pow_add]
  omega
/-- a link added -/
theorem gl_add (H : gl_K N L seed lu ec ed ck E0 E1 U) {a b : Nat} (hL : L < 16) (ha : a < N) (hb : b < N) (hab : a ≠ b) (hJ : ¬ gw_J L ec (nI a) (nI b)) :
    gl_K N (L + 1) seed (upd lu L 1) (upd (upd ec (2 * L) (nI a)) (2 * L + 1) (nI b)) (upd (upd ed (2 * L) (gw_dl (nI a) (nI b) seed)) (2 * L + 1) (gw_dl (nI b) (nI a) seed)) (fun e => if e = 2 * L then a else if e = 2 * L + 1 then b else ck e) (if L < 8 then E0 + (a + 16 * b) * 2 ^ (8 * (L % 8)) else E0) (if L < 8 then E1 else E1 + (a + 16 * b) * 2 ^ (8 * (L % 8))) (U ||| 2 ^ L) := by
  obtain ⟨h1, h2, h3, h4, h5, h6, h7, h8, ⟨b0, b1, b2, b3, b4, b5⟩, hU, hu⟩ := H
  have k0 : (fun e => if e = 2 * L then a else if e = 2 * L + 1 then b else ck e) (2 * L) = a := if_pos rfl
  have k1 : (fun e => if e = 2 * L then a else if e = 2 * L + 1 then b else ck e) (2 * L + 1) = b := by
    show (if 2 * L + 1 = 2 * L then a else if 2 * L + 1 = 2 * L + 1 then b else ck (2 * L + 1)) = b
    rw [if_neg (by omega), if_pos rfl]
  have kn : ∀ e, e < 2 * L → (fun e => if e = 2 * L then a else if e = 2 * L + 1 then b else ck e) e = ck e := by
    intro e he
    show (if e = 2 * L then a else if e = 2 * L + 1 then b else ck e) = ck e
    rw [if_neg (by omega), if_neg (by omega)]
  generalize hck : (fun e => if e = 2 * L then a else if e = 2 * L + 1 then b else ck e) = ck' at k0 k1 kn
  have cs : ∀ e, e < 2 * (L + 1) → e < 2 * L ∨ e = 2 * L ∨ e = 2 * L + 1 := by intro e he; omega
  have noab : ∀ e, e < 2 * L → ¬ (ck e = a ∧ ck (gc_ot e) = b) := fun e he z => hJ ⟨e, he, by rw [(h5 e he).2, z.1], by rw [(h5 _ (gc_otlt he)).2, z.2]⟩
  have noba : ∀ e, e < 2 * L → ¬ (ck e = b ∧ ck (gc_ot e) = a) := fun e he z => noab _ (gc_otlt he) ⟨z.2, by rw [gv_ot2]; exact z.1⟩
  refine ⟨h1, h2, by omega, fun j => ?_, fun e he => ?_, fun e he => ?_, fun e e' he he' p q => ?_, fun e he => ?_, ?_, ?_, fun j hj => ?_⟩
  · by_cases q : j = L
    · subst q; rw [pk_us]; exact Or.inr rfl
    · rw [pk_un q]; exact h4 j
  · rcases cs e he with q | q | q
    · rw [kn e q, pk_un (by omega), pk_un (by omega)]; exact h5 e q
    · subst q; rw [k0, pk_un (by omega), pk_us]; exact ⟨ha, rfl⟩
    · subst q; rw [k1, pk_us]; exact ⟨hb, rfl⟩
  · rcases cs e he with q | q | q
    · rw [kn e q, kn _ (gc_otlt q)]; exact h6 e q
    · subst q; rw [gc_ot0, k0, k1]; exact hab
    · subst q; rw [gc_ot1, k0, k1]; exact fun z => hab z.symm
  · rcases cs e he with y | y | y
    · rw [kn e y] at p
      rw [kn _ (gc_otlt y)] at q
      rcases cs e' he' with y' | y' | y'
      · rw [kn e' y'] at p
        rw [kn _ (gc_otlt y')] at q
        exact h7 e e' y y' p q
      · subst y'; rw [k0] at p; rw [gc_ot0, k1] at q; exact absurd ⟨p, q⟩ (noab e y)
      · subst y'; rw [k1] at p; rw [gc_ot1, k0] at q; exact absurd ⟨p, q⟩ (noba e y)
    · subst y
      rw [k0] at p
      rw [gc_ot0, k1] at q
      rcases cs e' he' with y' | y' | y'
      · rw [kn e' y'] at p
        rw [kn _ (gc_otlt y')] at q
        exact absurd ⟨p.symm, q.symm⟩ (noab e' y')
      · exact y'.symm
      · subst y'; rw [k1] at p; exact absurd p hab
    · subst y
      rw [k1] at p
      rw [gc_ot1, k0] at q
      rcases cs e' he' with y' | y' | y'
      · rw [kn e' y'] at p
        rw [kn _ (gc_otlt y')] at q
        exact absurd ⟨p.symm, q.symm⟩ (noba e' y')
      · subst y'; rw [k0] at p; exact absurd p.symm hab
      · exact y'.symm
  · rcases cs e he with q | q | q
    · rw [kn e q, kn _ (gc_otlt q), pk_un (by omega), pk_un (by omega)]; exact h8 e q
    · subst q; rw [gc_ot0, k0, k1, pk_un (by omega), pk_us]
    · subst q; rw [gc_ot1, k0, k1, pk_us]
  · have hv : a + 16 * b < 256 := by omega
    by_cases q : L < 8
    · rw [if_pos q, if_pos q, show L % 8 = L by omega]
      have hE := b2 (by omega)
      have e1z := b3 (by omega)
      have hlt := pb_lt hE hv
      refine ⟨Nat.lt_of_lt_of_le hlt (Nat.pow_le_pow_right (by decide) (by omega)), b1, fun z => ?_, fun _ => e1z, fun y1 y2 => ?_, fun l hl => ?_⟩
      · rw [show 8 * (L + 1) = 8 * L + 8 by omega]; exact hlt
      · rw [e1z]; exact Nat.two_pow_pos _
      · by_cases z : l = L
        · subst z
          rw [if_pos q, k0, k1]
          exact pb_at hE hv
        · rw [if_pos (by omega), pb_lo (by omega), kn _ (by omega), kn _ (by omega)]
          have := b5 l (by omega)
          rw [if_pos (by omega)] at this
          exact this
    · rw [if_neg q, if_neg q, show L % 8 = L - 8 by omega]
      have hE : E1 < 2 ^ (8 * (L - 8)) := b4 (by omega) (by omega)
      have hlt := pb_lt hE hv
      refine ⟨b0, Nat.lt_of_lt_of_le hlt (Nat.pow_le_pow_right (by decide) (by omega)), fun z => absurd z (by omega), fun z => absurd z (by omega), fun y1 y2 => ?_, fun l hl => ?_⟩
      · rw [show 8 * (L + 1 - 8) = 8 * (L - 8) + 8 by omega]; exact hlt
      · by_cases z : l = L
        · subst z
          rw [if_neg q, k0, k1]
          exact pb_at hE hv
        · rw [kn _ (by omega), kn _ (by omega)]
          have := b5 l (by omega)
          by_cases y : l < 8
          · rw [if_pos y] at this ⊢
            exact this
          · rw [if_neg y] at this ⊢
            rw [pb_lo (by omega)]
            exact this
  · exact Nat.or_lt_two_pow hU (Nat.pow_lt_pow_right (by decide) (by omega))
  · rw [bm_set_tb, hu j hj]
    by_cases q : j = L
    · subst q; rw [pk_us]
      exact ⟨fun _ => ⟨by omega, by decide⟩, fun _ => Or.inr rfl⟩
    · rw [pk_un q]
      exact ⟨fun z => z.elim (fun y => ⟨by omega, y.2⟩) (fun y => absurd y q), fun z => Or.inl ⟨by omega, z.2⟩⟩
/-- the rows where two stores are cleared -/
theorem gl_clr {l : Nat} (hN : N ≤ 8) (HI : gv_I N L T ec RW) : gv_I N L T ec (gc_cp (gc_cp RW gc_z 0 ((16 + 2 * l) * 10) 10) gc_z 0 ((16 + (2 * l + 1)) * 10) 10) := by
  have lo : ∀ j, j < 160 → gc_cp (gc_cp RW gc_z 0 ((16 + 2 * l) * 10) 10) gc_z 0 ((16 + (2 * l + 1)) * 10) 10 j = RW j := fun j hj => (gc_cp_out (by omega)).trans (gc_cp_out (by omega))
  refine ⟨fun c hc => ?_, fun c hc => ?_, fun e he => ?_⟩
  · rw [lo _ (by omega), lo _ (by omega), lo _ (by omega), lo _ (by omega), lo _ (by omega)]; exact HI.1 c hc
  · rw [lo _ (by omega), lo _ (by omega), lo _ (by omega), lo _ (by omega), lo _ (by omega)]; exact HI.2.1 c hc
  · by_cases q1 : e = 2 * l + 1
    · subst q1; exact Or.inl (gc_cp_in (by omega))
    · by_cases q0 : e = 2 * l
      · subst q0; exact Or.inl ((gc_cp_out (by omega)).trans (gc_cp_in (by omega)))
      · have st : ∀ f, f < 10 → gc_cp (gc_cp RW gc_z 0 ((16 + 2 * l) * 10) 10) gc_z 0 ((16 + (2 * l + 1)) * 10) 10 ((16 + e) * 10 + f) = RW ((16 + e) * 10 + f) := fun f hf => (gc_cp_out (by omega)).trans (gc_cp_out (by omega))
        rw [st 8 (by omega), st 6 (by omega), st 5 (by omega), st 7 (by omega), st 9 (by omega)]
        exact HI.2.2 e he
theorem gl_addI {a b : Int32} (hN : N ≤ 8) (HI : gv_I N L T ec RW) : gv_I N (L + 1) T (upd (upd ec (2 * L) a) (2 * L + 1) b) (gc_cp (gc_cp RW gc_z 0 ((16 + 2 * L) * 10) 10) gc_z 0 ((16 + (2 * L + 1)) * 10) 10) := by
  obtain ⟨c1, c2, c3⟩ := gl_clr (l := L) hN HI
  refine ⟨c1, c2, fun e he => ?_⟩
  by_cases q1 : e = 2 * L + 1
  · subst q1; exact Or.inl (gc_cp_in (by omega))
  · by_cases q0 : e = 2 * L
    · subst q0; exact Or.inl ((gc_cp_out (by omega)).trans (gc_cp_in (by omega)))
    · have ho : gc_ot e < 2 * L := gc_otlt (by omega)
      rw [pk_un (k := 2 * L + 1) (j := e) (by omega), pk_un (k := 2 * L) (j := e) (by omega), pk_un (k := 2 * L + 1) (j := gc_ot e) (by omega), pk_un (k := 2 * L) (j := gc_ot e) (by omega)]
      exact c3 e (by omega)
theorem gl_dsI {c f : Nat} {x : Int32} (hN : N ≤ 8) (hc : c < N) (hf : f < 5) (HI : gv_I N L T ec RW) : gv_I N L T ec (upd RW (c * 10 + f) x) := by
  refine ⟨fun d hd => ?_, fun d hd => ?_, fun e he => ?_⟩
  · rw [pk_un (by omega), pk_un (by omega), pk_un (by omega), pk_un (by omega), pk_un (by omega)]; exact HI.1 d hd
  · rw [pk_un (by omega), pk_un (by omega), pk_un (by omega), pk_un (by omega), pk_un (by omega)]; exact HI.2.1 d hd
  · rw [pk_un (by omega), pk_un (by omega), pk_un (by omega), pk_un (by omega), pk_un (by omega)]; exact HI.2.2 e he
end
end
section
/-! the law's operations -/
def gl_I (N L T : Nat) (seed : Int32) (lu ec ed : Nat → Int32) (ck : Nat → Nat) (E0 E1 U : Nat) (RW dr : Nat → Int32) (ti ms : Nat → Int64) (B : Int) : Prop :=
  gl_K N L seed lu ec ed ck E0 E1 U ∧ gv_I N L T ec RW ∧ (∀ c, c < 8 → -100000 ≤ (dr c).toInt ∧ (dr c).toInt ≤ 100000) ∧ gt_A N B ti ms ∧ (1 ≤ T ∧ T ≤ 4)
def gl_J (N T : Nat) (seed : Int32) (B : Int) (k i : Nat) (J : Int64 → Int64 → Int32 → Int32 → Int32 → Int32 → Int32 → Int32 → Int32 → Int32 → (Nat → Int32) → (Nat → Int32) → (Nat → Int64) → (Nat → Int32) → (Nat → Int32) → (Nat → Int64) → (Nat → Int32) → (Nat → Int32) → (Nat → Int32) → (Nat → Int32) → (Nat → Int32) → Prop) : Prop :=
  ∀ (L E0 E1 U : Nat) (ck : Nat → Nat) (RW dr : Nat → Int32) (ti : Nat → Int64) (pa pl : Nat → Int32) (ms : Nat → Int64) (md lu ec es ed : Nat → Int32), gl_I N L T seed lu ec ed ck E0 E1 U RW dr ti ms B → J (lN E0) (lN E1) (nI L) (nI U) (nI k) (nI i) (nI N) (nI 16) (nI T) (nI L) RW dr ti pa pl ms md lu ec es ed
theorem gt_mono {N : Nat} {B B' : Int} {ti ms : Nat → Int64} (h : B ≤ B') (H : gt_A N B ti ms) : gt_A N B' ti ms := by
  intro c hc
  obtain ⟨h1, h2⟩ := H c hc
  exact ⟨by omega, h2⟩
theorem gl_drb {v : Int32} : -100000 ≤ (gc_cl v (-100000) 100000).toInt ∧ (gc_cl v (-100000) 100000).toInt ≤ 100000 := by
  have a : (-100000 : Int32).toInt = -100000 := by decide
  have b : (100000 : Int32).toInt = 100000 := by decide
  unfold gc_cl
  by_cases h1 : v < -100000
  · rw [if_pos h1, a]; omega
  · rw [if_neg h1]
    by_cases h2 : 100000 < v
    · rw [if_pos h2, b]; omega
    · rw [if_neg h2]
      rw [Int32.lt_iff_toInt_lt, a] at h1
      rw [Int32.lt_iff_toInt_lt, b] at h2
      omega
theorem gl_tv (x : Int32) : ∃ w, w < 16777216 * 1000003 ∧ ((x &&& 16777215).toInt64) * 1000003 = lN w := by
  obtain ⟨w, hw, e⟩ := pk_andE x 24 (m := 16777215) (by decide)
  refine ⟨w * 1000003, by omega, ?_⟩
  rw [e, nI_l (by omega)]
  exact lN_mul w 1000003
theorem gl_clT {w : Nat} (h : w < 16777216 * 1000003) : gc_clL (lN w) 0 1000000000000000000 = lN w ∧ (lN w).toInt = (w : Int) := by
  have e : (lN w).toInt = (w : Int) := pk_lT (by omega)
  have z : (0 : Int64).toInt = 0 := by decide
  have m : (1000000000000000000 : Int64).toInt = 1000000000000000000 := by decide
  refine ⟨?_, e⟩
  unfold gc_clL
  rw [if_neg (by rw [Int64.lt_iff_toInt_lt, e, z]; omega), if_neg (by rw [Int64.lt_iff_toInt_lt, e, m]; omega)]
theorem gl_mod {c r n : Nat} (hc : c < n) (hr : r < n - 1) : (c + 1 + r) % n < n ∧ (c + 1 + r) % n ≠ c := by
  refine ⟨Nat.mod_lt _ (by omega), ?_⟩
  by_cases q : c + 1 + r < n
  · rw [Nat.mod_eq_of_lt q]; omega
  · rw [Nat.mod_eq_sub_mod (by omega), Nat.mod_eq_of_lt (by omega)]; omega
section
variable {N L T : Nat} {seed : Int32} {lu ec ed RW dr pa pl md es : Nat → Int32} {ti ms : Nat → Int64} {ck : Nat → Nat} {E0 E1 U : Nat}
theorem l_op {post : Int32 → Prop} {LS : Nat} {xs : Nat → Int32} {J : _} {B B' : Int} {k i : Nat} {x12 x13 z0 : Int32} {kc ks : Nat} (hLS : LS ≤ 260) (hk : k ≤ 100000) (hi : i ≤ 100000) (hB0 : 2 ^ 45 ≤ B) (hB : B + 2147483648 * 16 ≤ B') (hB2 : B' ≤ 2 ^ 57) (hJ : gl_J N T seed B' (k + 4) (i + 1) J) (H : gl_I N L T seed lu ec ed ck E0 E1 U RW dr ti ms B) :
    wL_law_122 post LS xs J (nI N) seed (lN E0) (lN E1) (nI L) (nI U) (nI k) x12 x13 (nI i) z0 kc ks (nI N) (nI 16) (nI T) (nI L) RW dr ti pa pl ms md lu ec es ed := by
  obtain ⟨HK, HI, HD, HA, hT⟩ := H
  have K := gl_ok HK
  have hN2 := HK.1
  have hN := HK.2.1
  have hL := HK.2.2.1
  have HA' := gt_mono (B' := B') (by omega) HA
  have same := hJ L E0 E1 U ck RW dr ti pa pl ms md lu ec es ed ⟨HK, HI, HD, HA', hT⟩
  unfold wL_law_122
  rw [nI_1 k, ix_a2, ix_a3]
  refine l_cell hLS (by omega) (fun r1 => l_cell hLS (by omega) (fun r2 => l_cell hLS (by omega) (fun r3 => nm_r (ix_a4 k) ⟨nI_ne0 (by omega) (by omega), ?_⟩)))
  obtain ⟨w1, hw1, ew1⟩ := pk_andE r1 8 (m := 255) (by decide)
  obtain ⟨w2, hw2, ew2⟩ := pk_andE r2 8 (m := 255) (by decide)
  have hc : w1 % N < N := Nat.mod_lt _ (by omega)
  refine nm_r (e' := nI (w1 % N)) (by rw [ew1]; exact pk_rem (by omega) (by omega) (by omega)) ?_
  generalize w1 % N = c at hc
  refine br_c (fun _ => ?_) (fun _ => br_c (fun _ => ?_) (fun _ => br_c (fun _ => ?_) (fun _ => br_c (fun _ => ?_) (fun _ => br_c (fun _ => ?_) (fun _ => br_c (fun _ => ?_) (fun _ => ?_))))))
  · exact x_setPriority hN hc (nm_r (nI_1 i) (hJ _ _ _ _ ck _ _ _ _ _ _ _ _ _ _ _ ⟨HK, gl_dsI hN hc (by omega) (gl_dsI hN hc (by omega) HI), HD, HA', hT⟩))
  · exact x_setQuality hN hc (nm_r (nI_1 i) (hJ _ _ _ _ ck _ _ _ _ _ _ _ _ _ _ _ ⟨HK, gl_dsI hN hc (by omega) (gl_dsI hN hc (by omega) (gl_dsI hN hc (by omega) HI)), HD, HA', hT⟩))
  · refine ⟨by decide, x_setDrift hN hc (nm_r (nI_1 i) (hJ _ _ _ _ ck _ _ _ _ _ _ _ _ _ _ _ ⟨HK, HI, fun d hd => ?_, HA', hT⟩))⟩
    by_cases q : d = c
    · subst q; rw [pk_us]; exact gl_drb
    · rw [pk_un q]; exact HD d hd
  · obtain ⟨w, hw, ew⟩ := gl_tv r2
    rw [ew]
    obtain ⟨c1, c2⟩ := gl_clT hw
    refine x_setTime hN hc (nm_r (nI_1 i) (hJ _ _ _ _ ck _ _ _ _ _ _ _ _ _ _ _ ⟨HK, HI, HD, fun d hd => ?_, hT⟩))
    obtain ⟨a1, a2⟩ := HA' d hd
    refine ⟨?_, a2⟩
    by_cases q : d = c
    · subst q; rw [pk_uLs, c1, c2]; omega
    · rw [pk_uLn q]; exact a1
  · by_cases q : L = 0
    · subst q
      exact br_t (nI_le (a := 0) (b := 0) (by omega) (by omega)) (nm_r (nI_1 i) same)
    · refine br_f (nI_nle (by omega) (by omega)) ⟨nI_ne0 (by omega) (by omega), ?_⟩
      have hl : w2 % L < L := Nat.mod_lt _ (by omega)
      refine nm_r (e' := nI (w2 % L)) (by rw [ew2]; exact pk_rem (by omega) (by omega) (by omega)) ?_
      generalize w2 % L = l at hl
      have lk : ∀ up : Int32, (up = 0 ∨ up = 1) → wL_law_329 post LS xs J (nI N) seed (lN E0) (lN E1) (nI L) (nI U) (nI (k + 4)) x12 x13 (nI i) (nI l) up kc ks (nI N) (nI 16) (nI T) (nI L) RW dr ti pa pl ms md lu ec es ed := by
        intro up hup
        have K2 := gl_setUp HK hl hup
        unfold wL_law_329
        refine x_setLinkUp hL hl hup (fun z => br_f (by decide) ?_) (fun z => br_f (by decide) ?_)
        · have e : upd lu l up = lu := by
            funext j
            by_cases y : j = l
            · subst y; rw [pk_us]; exact z.symm
            · rw [pk_un y]
          rw [e] at K2
          rcases hup with rfl | rfl
          · rw [if_pos rfl] at K2
            exact br_t rfl (nm_r (bm_clr (by omega)) (nm_r (nI_1 i) (hJ _ _ _ _ ck _ _ _ _ _ _ _ _ _ _ _ ⟨K2, HI, HD, HA', hT⟩)))
          · rw [if_neg (by decide)] at K2
            exact br_f (by decide) (nm_r (bm_set (by omega)) (nm_r (nI_1 i) (hJ _ _ _ _ ck _ _ _ _ _ _ _ _ _ _ _ ⟨K2, HI, HD, HA', hT⟩)))
        · have I2 := gl_clr (l := l) hN HI
          rcases hup with rfl | rfl
          · rw [if_pos rfl] at K2
            exact br_t rfl (nm_r (bm_clr (by omega)) (nm_r (nI_1 i) (hJ _ _ _ _ ck _ _ _ _ _ _ _ _ _ _ _ ⟨K2, I2, HD, HA', hT⟩)))
          · rw [if_neg (by decide)] at K2
            exact br_f (by decide) (nm_r (bm_set (by omega)) (nm_r (nI_1 i) (hJ _ _ _ _ ck _ _ _ _ _ _ _ _ _ _ _ ⟨K2, I2, HD, HA', hT⟩)))
      exact br_c (fun _ => lk 1 (Or.inr rfl)) (fun _ => lk 0 (Or.inl rfl))
  · have e1 : nI N - 1 = nI (N - 1) := pk_sub (b := 1) (by omega)
    rw [e1, ew2]
    have hr : w2 % (N - 1) < N - 1 := Nat.mod_lt _ (by omega)
    obtain ⟨hb, hbc⟩ := gl_mod hc hr
    refine ⟨nI_ne0 (by omega) (by omega), nI_ne0 (by omega) (by omega), nm_r (e' := nI ((c + 1 + w2 % (N - 1)) % N)) ?_ ?_⟩
    · rw [nI_1 c, pk_rem (by omega) (by omega) (by omega), nI_add]
      exact pk_rem (by omega) (by omega) (by omega)
    · generalize (c + 1 + w2 % (N - 1)) % N = b at hb hbc
      refine l_del (l_del (x_addLink hN hL (by omega) hc hb (fun z => hbc z.symm) (fun _ => br_t (by decide) (nm_r (nI_1 i) same)) (fun nJ hlt => ?_)))
      refine br_f (nI_pos (by omega)) (br_f (nI_ge (b := 16) hlt (by omega)) ?_)
      have K2 := gl_add HK hlt hc hb (fun z => hbc z.symm) nJ
      have I2 := gl_addI (a := nI c) (b := nI b) hN HI
      rw [gw_dl_cl, gw_dl_cl]
      obtain ⟨_, _, q2, q3, q4, _⟩ := HK.2.2.2.2.2.2.2.2.1
      by_cases g : L < 8
      · rw [if_pos g, if_pos g] at K2
        refine br_f (nI_ge (b := 8) g (by omega)) (l_put (by rw [show L % 8 = L by omega]; exact q2 (by omega)) (by omega) (by omega) ?_ (by omega))
        exact nm_r (bm_set (by omega)) (nm_r (nI_1 L) (nm_r (nI_1 i) (hJ _ _ _ _ _ _ _ _ _ _ _ _ _ _ _ _ ⟨K2, I2, HD, HA', hT⟩)))
      · rw [if_neg g, if_neg g] at K2
        refine br_t (nI_le (a := 8) (by omega) (by omega)) (l_put (by rw [show L % 8 = L - 8 by omega]; exact q4 (by omega) (by omega)) (by omega) (by omega) ?_ (by omega))
        exact nm_r (bm_set (by omega)) (nm_r (nI_1 L) (nm_r (nI_1 i) (hJ _ _ _ _ _ _ _ _ _ _ _ _ _ _ _ _ ⟨K2, I2, HD, HA', hT⟩)))
  · obtain ⟨w, hw, ew⟩ := pk_andE r2 4 (m := 15) (by decide)
    rw [ew]
    have I0 : gq_Q N 16 L (nI T) dr lu ec ed (RW, pa, pl, es) B 0 (gx N 16 L (nI T) RW dr ti pa pl ms md lu ec es ed) := ⟨ti, ms, md, rfl, fun _ => gt_mono (by omega) HA⟩
    obtain ⟨u', ⟨ti', ms', md', rfl, HA2⟩, wk⟩ := gq_run K (by omega) (gl_D HK HD) (k := w) (by omega) I0
    have SH : sq_H N L T lu ec ck (gq_S N L (nI T) lu ec (RW, pa, pl, es)) := ⟨hN, hL, hT, HK.2.2.2.2.1, HI, fun _ => rfl⟩
    exact wk _ (nm_r (nI_1 i) (hJ _ _ _ _ ck _ _ _ _ _ _ _ _ _ _ _ ⟨HK, sq_I SH _, HD, gt_mono (by omega) (HA2 (by omega)), hT⟩))
theorem l_ops {post : Int32 → Prop} {LS : Nat} {xs : Nat → Int32} {m tot kc ks : Nat} (hLS : LS ≤ 260) (hm : m ≤ 16) (ht : tot ≤ 47)
    (hfin : gl_J N T seed (2 ^ 46) (5 + 4 * tot) tot (wL_law_95 post LS xs (nI N) seed (nI m) (nI tot) kc ks 1)) : ∀ d i, i + d = tot → gl_J N T seed (2 ^ 45 + 2147483648 * 16 * i) (5 + 4 * i) i (wL_law_95 post LS xs (nI N) seed (nI m) (nI tot) kc ks (d + 1))
  | 0, i, hi => by
    obtain rfl : i = tot := by omega
    intro L E0 E1 U ck RW dr ti pa pl ms md lu ec es ed H
    exact hfin L E0 E1 U ck RW dr ti pa pl ms md lu ec es ed ⟨H.1, H.2.1, H.2.2.1, gt_mono (by omega) H.2.2.2.1, H.2.2.2.2⟩
  | d + 1, i, hi => by
    intro L E0 E1 U ck RW dr ti pa pl ms md lu ec es ed H
    have ih := l_ops hLS hm ht hfin d (i + 1) (by omega)
    rw [show 5 + 4 * (i + 1) = 5 + 4 * i + 4 by omega] at ih
    have op := fun z0 => l_op (post := post) (xs := xs) (pa := pa) (pl := pl) (md := md) (es := es) (x12 := nI m) (x13 := nI tot) (z0 := z0) (kc := kc) (ks := ks) (k := 5 + 4 * i) (i := i) hLS (by omega) (by omega) (by omega) (by omega) (by omega) ih H
    refine br_f (nI_ge (by omega) (by omega)) ?_
    by_cases q : m ≤ i
    · exact br_t (nI_le q (by omega)) (l_cell hLS (by omega) (fun r => op _))
    · exact br_f (nI_ge (by omega) (by omega)) (op 5)
end
end
section
/-! the law's graph, and the order of datasets -/
section
variable {N L T : Nat} {seed : Int32} {lu ec ed RW dr pa pl md es : Nat → Int32} {ti ms : Nat → Int64} {ck : Nat → Nat} {E0 E1 U : Nat}
theorem gl_end0 {post : Int32 → Prop} (H : gl_K N L seed lu ec ed ck E0 E1 U) {l : Nat} (hl : l < L) (h : post (nI (ck (2 * l)))) : wpL_endOf post () (lN E0) (lN E1) (nI l) 0 := gl_end H (w := 0) hl (by omega) h
theorem gl_end1 {post : Int32 → Prop} (H : gl_K N L seed lu ec ed ck E0 E1 U) {l : Nat} (hl : l < L) (h : post (nI (ck (2 * l + 1)))) : wpL_endOf post () (lN E0) (lN E1) (nI l) 1 := gl_end H (w := 1) hl (by omega) h
theorem l_adj {post : Int32 → Prop} {LS : Nat} {xs : Nat → Int32} {x3 x11 : Int32} {kc ks : Nat} (HK : gl_K N L seed lu ec ed ck E0 E1 U)
    (h : ∀ A, A < 2 ^ 64 → gw_G A L ck (fun e => ¬ lu (e / 2) = 0) → ∃ n, wL_law_596 post LS xs (nI N) x3 (lN E0) (lN E1) (nI L) (nI U) x11 (lN A) kc ks (nI N) (nI 16) (nI T) (nI L) RW dr ti pa pl ms md lu ec es ed n 0) :
    ∀ k l A, l + k = L → A < 2 ^ 64 → (∀ x y, x < 8 → y < 8 → (A.testBit (8 * x + y) = true ↔ ∃ e, e < 2 * l ∧ ¬ lu (e / 2) = 0 ∧ ck e = x ∧ ck (gc_ot e) = y)) → wL_law_520 post LS xs (nI N) x3 (lN E0) (lN E1) (nI L) (nI U) x11 kc ks (nI N) (nI 16) (nI T) (nI L) RW dr ti pa pl ms md lu ec es ed (k + 1) (lN A) (nI l)
  | 0, l, A, hl, hA, G => by
    obtain rfl : l = L := by omega
    exact br_t (nI_le (by omega) (by have := HK.2.2.1; omega)) (h A hA G)
  | k + 1, l, A, hl, hA, G => by
    have hN := HK.2.1
    have hL := HK.2.2.1
    refine br_f (nI_ge (by omega) (by omega)) ?_
    by_cases q : lu l = 0
    · refine br_t ((gl_up HK (by omega)).mpr q) (nm_r (nI_1 l) (l_adj HK h k (l + 1) A (by omega) hA (fun x y hx hy => ?_)))
      rw [G x y hx hy]
      constructor
      · rintro ⟨e, he, z⟩; exact ⟨e, by omega, z⟩
      · rintro ⟨e, he, z1, z2⟩
        by_cases w : e < 2 * l
        · exact ⟨e, w, z1, z2⟩
        · exact absurd q (by rw [show e / 2 = l by omega] at z1; exact z1)
    · have c0 := (HK.2.2.2.2.1 (2 * l) (by omega)).1
      have c1 := (HK.2.2.2.2.1 (2 * l + 1) (by omega)).1
      have p64 : ∀ s, s < 64 → 2 ^ s < 2 ^ 64 := fun s hs => Nat.pow_lt_pow_right (by decide) hs
      have sh : ∀ a b, a < 8 → b < 8 → (1 : Int64) <<< ((8 * nI a + nI b).toInt64 &&& 63) = lN (2 ^ (8 * a + b)) := by
        intro a b ha hb
        rw [show 8 * nI a = nI (8 * a) from pk_mul 8 a, nI_add]
        have := wb_shl 1 (k := 8 * a + b) (by omega)
        rw [Nat.one_mul] at this
        exact this
      refine br_f (fun z => q ((gl_up HK (by omega)).mp z)) (gl_end0 HK (by omega) (gl_end1 HK (by omega) ?_))
      refine nm_r (e' := lN (A ||| (2 ^ (8 * ck (2 * l) + ck (2 * l + 1)) ||| 2 ^ (8 * ck (2 * l + 1) + ck (2 * l))))) ?_ (nm_r (nI_1 l) (l_adj HK h k (l + 1) _ (by omega) ?_ (fun x y hx hy => ?_)))
      · rw [sh _ _ (by omega) (by omega), sh _ _ (by omega) (by omega), wb_or (p64 _ (by omega)) (p64 _ (by omega)), wb_or hA (Nat.or_lt_two_pow (p64 _ (by omega)) (p64 _ (by omega)))]
      · exact Nat.or_lt_two_pow hA (Nat.or_lt_two_pow (p64 _ (by omega)) (p64 _ (by omega)))
      · rw [Nat.testBit_or, Nat.testBit_or, Bool.or_eq_true, Bool.or_eq_true, Nat.testBit_two_pow, Nat.testBit_two_pow, decide_eq_true_eq, decide_eq_true_eq, G x y hx hy]
        constructor
        · rintro (⟨e, he, z⟩ | z | z)
          · exact ⟨e, by omega, z⟩
          · exact ⟨2 * l, by omega, by rw [show 2 * l / 2 = l by omega]; exact q, by omega, by rw [gc_ot0]; omega⟩
          · exact ⟨2 * l + 1, by omega, by rw [show (2 * l + 1) / 2 = l by omega]; exact q, by omega, by rw [gc_ot1]; omega⟩
        · rintro ⟨e, he, z1, z2, z3⟩
          by_cases w : e < 2 * l
          · exact Or.inl ⟨e, w, z1, z2, z3⟩
          · rcases (by omega : e = 2 * l ∨ e = 2 * l + 1) with y' | y'
            · subst y'
              rw [gc_ot0] at z3
              exact Or.inr (Or.inl (by omega))
            · subst y'
              rw [gc_ot1] at z3
              exact Or.inr (Or.inr (by omega))
/-- comparing datasets -/
theorem gl_cne (HI : gv_I N L T ec RW) (hN : N ≤ 8) {a b : Nat} (ha : a < N) (hb : b < N) (hab : a ≠ b) : gs_cmp RW (a * 10) (b * 10) 6 = 1 ∨ gs_cmp RW (a * 10) (b * 10) 6 = -1 := by
  rcases cq_01 (fun f => RW (a * 10 + f)) (fun f => RW (b * 10 + f)) 6 0 with z | z | z
  · have this : RW (a * 10 + 5) = RW (b * 10 + 5) := (cq_eq0 _ _ 6 0).mp z 5 (by omega) (by omega)
    rw [(HI.1 a ha).1, (HI.1 b hb).1] at this
    exact absurd ((nI_eq (by omega) (by omega)).mp this) hab
  · exact Or.inr z
  · exact Or.inl z
theorem l_668 {post : Int32 → Prop} {LS : Nat} {xs : Nat → Int32} {J5 J6 : Int32 → Prop} {x3 x9 x10 x11 : Int32} {x5 x7 x14 : Int64} {kc ks a b : Nat} (hN : N ≤ 8) (ha : a < N) (hb : b < N) (hJ : J6 (nI (b + 1))) : ∀ k i, i + k = N → wL_law_668 post LS xs J5 J6 (nI N) x3 x5 x7 x9 x10 x11 x14 (nI a) (nI b) (gs_cmp RW (a * 10) (b * 10) 6) kc ks (nI N) (nI 16) (nI T) (nI L) RW dr ti pa pl ms md lu ec es ed (k + 1) (nI i)
  | 0, i, hi => br_t (nI_le (by omega) (by omega)) (nm_r (nI_1 b) hJ)
  | k + 1, i, hi => by
    have ih := l_668 (post := post) (J5 := J5) (x3 := x3) (x9 := x9) (x10 := x10) (x11 := x11) (x5 := x5) (x7 := x7) (x14 := x14) (LS := LS) (xs := xs) (kc := kc) (ks := ks) hN ha hb hJ k (i + 1) (by omega)
    refine br_f (nI_ge (by omega) (by omega)) (br_c (fun v => x_cmpD hN hb (by omega) (br_c (fun w => x_cmpD hN ha (by omega) (br_t ?_ (nm_r (nI_1 i) ih))) (fun _ => nm_r (nI_1 i) ih))) (fun _ => nm_r (nI_1 i) ih))
    exact (cq_lt _ _ 6 0).mp (cq_trans 6 0 ((cq_lt _ _ 6 0).mpr v) ((cq_lt _ _ 6 0).mpr w))
theorem l_605 {post : Int32 → Prop} {LS : Nat} {xs : Nat → Int32} {J5 : Int32 → Prop} {x3 x9 x10 x11 : Int32} {x5 x7 x14 : Int64} {kc ks a : Nat} (HI : gv_I N L T ec RW) (hN : N ≤ 8) (ha : a < N) (hJ : J5 (nI (a + 1))) : ∀ k i, i + k = N → wL_law_605 post LS xs J5 (nI N) x3 x5 x7 x9 x10 x11 x14 (nI a) kc ks (nI N) (nI 16) (nI T) (nI L) RW dr ti pa pl ms md lu ec es ed (k + 1) (nI i)
  | 0, i, hi => br_t (nI_le (by omega) (by omega)) (nm_r (nI_1 a) hJ)
  | k + 1, i, hi => by
    have ih := l_605 (post := post) (x3 := x3) (x9 := x9) (x10 := x10) (x11 := x11) (x5 := x5) (x7 := x7) (x14 := x14) (LS := LS) (xs := xs) (kc := kc) (ks := ks) HI hN ha hJ k (i + 1) (by omega)
    refine br_f (nI_ge (by omega) (by omega)) (x_cmpD hN ha (by omega) ?_)
    by_cases q : a = i
    · subst q
      exact br_t rfl (br_t (gc_cmp_self _ _ _) (nm_r (nI_1 a) ih))
    · refine br_f (fun z => q ((nI_eq (by omega) (by omega)).mp z)) ?_
      have f : wL_law_648 post LS xs J5 (wL_law_605 post LS xs J5 (nI N) x3 x5 x7 x9 x10 x11 x14 (nI a) kc ks (nI N) (nI 16) (nI T) (nI L) RW dr ti pa pl ms md lu ec es ed (k + 1)) (nI N) x3 x5 x7 x9 x10 x11 x14 (nI a) (nI i) (gs_cmp RW (a * 10) (i * 10) 6) kc ks (nI N) (nI 16) (nI T) (nI L) RW dr ti pa pl ms md lu ec es ed := by
        refine x_cmpD hN (by omega) ha (br_t ?_ ⟨_, l_668 hN ha (by omega) ih N 0 (by omega)⟩)
        show gs_cmp RW (a * 10) (i * 10) 6 = - gs_cmp RW (i * 10) (a * 10) 6
        exact cq_neg _ _ 6 0
      rcases gl_cne HI hN ha (b := i) (by omega) q with z | z
      · exact br_t z f
      · exact br_f (by rw [z]; decide) (br_t z f)
theorem l_596 {post : Int32 → Prop} {LS : Nat} {xs : Nat → Int32} {x3 x9 x10 x11 : Int32} {x5 x7 x14 : Int64} {kc ks : Nat} (HI : gv_I N L T ec RW) (hN : N ≤ 8) (h : ∃ n, wL_law_729 post LS xs (nI N) x3 x5 x7 x9 x10 x14 kc ks n x11 0 (nI N) (nI 16) (nI T) (nI L) RW dr ti pa pl ms md lu ec es ed) : ∀ k i, i + k = N → wL_law_596 post LS xs (nI N) x3 x5 x7 x9 x10 x11 x14 kc ks (nI N) (nI 16) (nI T) (nI L) RW dr ti pa pl ms md lu ec es ed (k + 1) (nI i)
  | 0, i, hi => br_t (nI_le (by omega) (by omega)) h
  | k + 1, i, hi => br_f (nI_ge (by omega) (by omega)) ⟨_, l_605 HI hN (by omega) (l_596 HI hN h k (i + 1) (by omega)) N 0 (by omega)⟩
end
end
section
/-! the law's checks of one clock -/
/-- what is fixed while the clocks are checked: the run S, the graph, the bound of the times -/
def gf_H (N L T : Nat) (seed : Int32) (lu ec ed dr : Nat → Int32) (ck : Nat → Nat) (E0 E1 U A : Nat) (S : Nat → (Nat → Int32) × (Nat → Int32) × (Nat → Int32) × (Nat → Int32)) : Prop :=
  gl_K N L seed lu ec ed ck E0 E1 U ∧ sq_H N L T lu ec ck S ∧ (∀ c, c < 8 → -100000 ≤ (dr c).toInt ∧ (dr c).toInt ≤ 100000) ∧ A < 2 ^ 64 ∧ gw_G A L ck (fun e => ¬ lu (e / 2) = 0)
section
variable {N L T : Nat} {seed : Int32} {lu ec ed dr md : Nat → Int32} {ti ms : Nat → Int64} {ck : Nat → Nat} {E0 E1 U A : Nat} {S : Nat → (Nat → Int32) × (Nat → Int32) × (Nat → Int32) × (Nat → Int32)}
theorem gf_cmp (H : gf_H N L T seed lu ec ed dr ck E0 E1 U A S) {t a b : Nat} (ha : a < N) (hb : b < N) : gs_cmp (S t).1 (a * 10) (b * 10) 6 = -1 ↔ kl_r (sq_D S a) (sq_D S b) := by
  have hN := H.2.1.1
  unfold kl_r
  rw [cq_lt]
  unfold sq_D
  rw [← kl_cmp, gb_cmpc (R := (S t).1) (RW := (S 0).1) (x := a * 10) (y := b * 10) (x' := a * 10) (y' := b * 10) (k := 6) (fun f hf => sq_ds H.2.1 (by omega) t) (fun f hf => sq_ds H.2.1 (by omega) t)]
theorem gf_tot (H : gf_H N L T seed lu ec ed dr ck E0 E1 U A S) {a b : Nat} (ha : a < N) (hb : b < N) (hab : a ≠ b) (h : ¬ kl_r (sq_D S a) (sq_D S b)) : kl_r (sq_D S b) (sq_D S a) := by
  have hN := H.2.1.1
  rcases gl_cne (sq_I H.2.1 0) hN hb ha (fun z => hab z.symm) with z | z
  · have y : gs_cmp (S 0).1 (a * 10) (b * 10) 6 = -1 := by
      have q : gs_cmp (S 0).1 (a * 10) (b * 10) 6 = - gs_cmp (S 0).1 (b * 10) (a * 10) 6 := cq_neg _ _ 6 0
      rw [q, z]
    exact absurd ((gf_cmp H ha hb).mp y) h
  · exact (gf_cmp H hb ha).mp z
theorem gf_in (H : gf_H N L T seed lu ec ed dr ck E0 E1 U A S) {c : Nat} (hc : c < N) (y : Nat) : (gw_rc A N c N).testBit y = true ↔ ∃ j, cv_W (2 * L) ck gc_ot (fun e => ¬ lu (e / 2) = 0) c j y := by
  have hN := H.2.1.1
  rw [gw_rc_W hN hc (sq_net H.2.1) H.2.2.2.2 N y]
  constructor
  · rintro ⟨j, _, hw⟩; exact ⟨j, hw⟩
  · rintro ⟨j, hw⟩
    obtain ⟨d, _, hd⟩ := cv_hasd hw
    have := cv_dlt (sq_net H.2.1) hc hd
    exact ⟨d, by omega, hd.1⟩
theorem gf_dsym (H : gf_H N L T seed lu ec ed dr ck E0 E1 U A S) {b c d : Nat} (h : cv_d (2 * L) ck gc_ot (fun e => ¬ lu (e / 2) = 0) c b d) : cv_d (2 * L) ck gc_ot (fun e => ¬ lu (e / 2) = 0) b c d :=
  ⟨cv_rev (sq_net H.2.1) _ _ h.1, fun i hi hw => h.2 i hi (cv_rev (sq_net H.2.1) _ _ hw)⟩
/-- the law's distance -/
theorem gf_dist {post : Int32 → Prop} (H : gf_H N L T seed lu ec ed dr ck E0 E1 U A S) {c b d : Nat} (hc : c < N) (hb : b < N) (hd : cv_d (2 * L) ck gc_ot (fun e => ¬ lu (e / 2) = 0) c b d) (h : post (nI d)) : wpL_dist post () (lN A) (nI c) (nI b) (nI N) := by
  have hN := H.2.1.1
  have hdn := cv_dlt (sq_net H.2.1) hc hd
  refine l_dist H.2.2.2.1 (by omega) hN (by omega) (by omega) ((gw_rc_W hN hc (sq_net H.2.1) H.2.2.2.2 d b).mpr ⟨d, Nat.le_refl d, hd.1⟩) (fun i hi => ?_) h
  cases q : (gw_rc A N c i).testBit b with
  | false => rfl
  | true =>
    obtain ⟨j, hj, hw⟩ := (gw_rc_W hN hc (sq_net H.2.1) H.2.2.2.2 i b).mp q
    exact absurd hw (hd.2 j (by omega))
/-- the best of what c reaches -/
def gf_B (N L : Nat) (lu : Nat → Int32) (ck : Nat → Nat) (S : Nat → (Nat → Int32) × (Nat → Int32) × (Nat → Int32) × (Nat → Int32)) (c b : Nat) : Prop :=
  b < N ∧ (∃ j, cv_W (2 * L) ck gc_ot (fun e => ¬ lu (e / 2) = 0) c j b) ∧ ∀ x, x < N → (∃ j, cv_W (2 * L) ck gc_ot (fun e => ¬ lu (e / 2) = 0) c j x) → ¬ kl_r (sq_D S x) (sq_D S b)
theorem gf_best (H : gf_H N L T seed lu ec ed dr ck E0 E1 U A S) {c b : Nat} (hB : gf_B N L lu ck S c b) : ∀ g, g < N → (∃ j, cv_W (2 * L) ck gc_ot (fun e => ¬ lu (e / 2) = 0) g j b) → g ≠ b → kl_r (sq_D S b) (sq_D S g) := by
  intro g hg ⟨j, hw⟩ hne
  obtain ⟨hb, ⟨i, hi⟩, hm⟩ := hB
  exact gf_tot H hg hb hne (hm g hg ⟨_, cv_trans hi _ _ (cv_rev (sq_net H.2.1) _ _ hw)⟩)
theorem gl_gend (HK : gl_K N L seed lu ec ed ck E0 E1 U) {e : Nat} (he : e < 2 * L) : gs_end L ec (ck e) (nI (e / 2)) = some e := by
  have hN := HK.2.1
  have hL := HK.2.2.1
  obtain ⟨c0, e0⟩ := HK.2.2.2.2.1 e he
  have ne := HK.2.2.2.2.2.1 e he
  obtain ⟨c1, e1⟩ := HK.2.2.2.2.1 _ (gc_otlt he)
  unfold gs_end
  rw [if_neg (fun z => z.elim (nI_pos (by omega)) (nI_ge (by omega) (by omega))), nI_clamp (by omega)]
  rcases (by omega : e = 2 * (e / 2) ∨ e = 2 * (e / 2) + 1) with q | q
  · rw [← q, if_pos e0]
  · have o : gc_ot e = 2 * (e / 2) := by
      have := gc_ot1 (e / 2)
      rw [← q] at this
      exact this
    rw [o] at e1 ne c1
    rw [if_neg (by rw [e1]; exact fun z => ne ((nI_eq (by omega) (by omega)).mp z).symm), ← q, if_pos e0]
/-- the measures of the law's last step -/
theorem l_1182 {post : Int32 → Prop} {LS : Nat} {xs : Nat → Int32} {J : _} {x3 x9 x10 x11 : Int32} {x5 x7 x14 : Int64} {kc ks t c b : Nat} {B : Int} (H : gf_H N L T seed lu ec ed dr ck E0 E1 U A S) (hb : b < 2 * L) (hbc : ck b = c) (hu : ¬ lu (b / 2) = 0) (hpl : (S t).2.2.1 c = nI (b / 2)) (h2 : (S t).2.2.2 b = 2) (h1 : (S t).2.2.2 (gc_ot b) = 1)
    (heq : gw_dl (nI (ck (gc_ot b))) (nI c) seed = gw_dl (nI c) (nI (ck (gc_ot b))) seed) (h0 : 0 ≤ B) (hB : B ≤ 2 ^ 56) (HA : gt_A N B ti ms)
    (hJ : ∀ ti' ms' md', gt_A N (B + 2147483648) ti' ms' → J x11 (nI (c + 1)) (nI N) (nI 16) (nI T) (nI L) (S (t + 1)).1 dr ti' (S (t + 1)).2.1 (S (t + 1)).2.2.1 ms' md' lu ec (S (t + 1)).2.2.2 ed) :
    wL_law_1182 post LS xs J (nI N) x3 x5 x7 x9 x10 x11 x14 (nI c) (nI (ck (gc_ot b))) (gw_dl (nI (ck (gc_ot b))) (nI c) seed) kc ks (nI N) (nI 16) (nI T) (nI L) (S t).1 dr ti (S t).2.1 (S t).2.2.1 ms md lu ec (S t).2.2.2 ed := by
  obtain ⟨HK, HS, HD, _⟩ := H
  have K := gl_ok HK
  have hN := HK.2.1
  have hL := HK.2.2.1
  obtain ⟨hc, eb⟩ := HK.2.2.2.2.1 b hb
  obtain ⟨hp, ep⟩ := HK.2.2.2.2.1 _ (gc_otlt hb)
  rw [hbc] at hc eb
  have d1 : ed b = gw_dl (nI (ck (gc_ot b))) (nI c) seed := by rw [HK.2.2.2.2.2.2.2.1 b hb, hbc]; exact heq.symm
  have d2 : ed (gc_ot b) = gw_dl (nI (ck (gc_ot b))) (nI c) seed := by rw [HK.2.2.2.2.2.2.2.1 _ (gc_otlt hb), gv_ot2, hbc]
  have ge : gs_end L ec c ((S t).2.2.1 c) = some b := by
    rw [hpl]
    have := gl_gend HK hb
    rw [hbc] at this
    exact this
  have gm : gs_meas L (S t).2.2.1 lu ec (S t).2.2.2 ed ti c (md, ms) = (upd md c 1, gs_ms ec ed ti ms c b) := by
    unfold gs_meas
    rw [ge]
    exact if_pos ⟨hu, h2, h1⟩
  obtain ⟨w, hw, ew⟩ := gw_dl_r (nI (ck (gc_ot b))) (nI c) seed
  have dw : (gw_dl (nI (ck (gc_ot b))) (nI c) seed).toInt64.toInt = (w : Int) := by rw [Int32.toInt_toInt64, ew, nI_toInt (by omega)]
  obtain ⟨hti, _⟩ := HA c hc
  obtain ⟨htp, _⟩ := HA _ hp
  have io := iv_off (B := B) (tc := ti c) (tp := ti (ck (gc_ot b))) (a := (gw_dl (nI (ck (gc_ot b))) (nI c) seed).toInt64) (b := (gw_dl (nI (ck (gc_ot b))) (nI c) seed).toInt64) (by omega) hti htp (by rw [dw]; omega) (by rw [dw]; omega)
  have vo : gt_off ec ed ti c b = ti c - ti (ck (gc_ot b)) := by
    apply Int64.toInt_inj.mp
    unfold gt_off
    rw [ep, nI_clamp (by omega), d1, d2, io.1, iv_sub (by omega) (by omega), dw]
    have := iv_hb (x := 2 * ((ti c).toInt - (ti (ck (gc_ot b))).toInt) + ((w : Int) - w)) (y := 4 * B) (by omega) (by omega)
    omega
  have vd : gt_dly ec ed ti c b = (gw_dl (nI (ck (gc_ot b))) (nI c) seed).toInt64 := by
    apply Int64.toInt_inj.mp
    unfold gt_dly
    rw [ep, nI_clamp (by omega), d1, d2, io.2, dw]
    have := iv_hb (x := (w : Int) + w) (y := 4 * w) (by omega) (by omega)
    omega
  obtain ⟨m1, m2⟩ := gt_meas (N := N) (L := L) (lu := lu) (ec := ec) (es := (S t).2.2.2) (ed := ed) (pl := (S t).2.2.1) (md := md) (ti := ti) (ms := ms) hc
  obtain ⟨_, s2⟩ := gt_steer (N := N) (md := (gs_it (gs_meas L (S t).2.2.1 lu ec (S t).2.2.2 ed ti) N 0 (md, ms)).1) (ti := ti) (ms := (gs_it (gs_meas L (S t).2.2.1 lu ec (S t).2.2.2 ed ti) N 0 (md, ms)).2) hc
  obtain ⟨_, _, g3⟩ := gt_st1 (md := (gs_it (gs_meas L (S t).2.2.1 lu ec (S t).2.2.2 ed ti) N 0 (md, ms)).1) (ti := ti) (ms := (gs_it (gs_meas L (S t).2.2.1 lu ec (S t).2.2.2 ed ti) N 0 (md, ms)).2) c
  have v : ∀ w, w < 9 → w ≠ 6 → w ≠ 7 → (gs_it (gs_steer (gs_it (gs_meas L (S t).2.2.1 lu ec (S t).2.2.2 ed ti) N 0 (md, ms)).1) N 0 (ti, (gs_it (gs_meas L (S t).2.2.1 lu ec (S t).2.2.2 ed ti) N 0 (md, ms)).2)).2 (c * 9 + w) = gs_ms ec ed ti ms c b (c * 9 + w) := by
    intro w hw h6 h7
    rw [s2 w hw, g3 w hw h6 h7, m2 w hw, gm]
  unfold wL_law_1182
  refine x_getTime hN hc (x_getTime hN hp (x_getMeasure (w := 8) hN hc (by omega) (x_run1 K ?_)))
  refine x_getMeasure (w := 8) hN hc (by omega) (br_t ((v 8 (by omega) (by omega) (by omega)).trans gt_ms8) (x_getMeasure (w := 0) hN hc (by omega) (br_t ((v 0 (by omega) (by omega) (by omega)).trans (gt_ms0.trans vo)) (x_getMeasure (w := 1) hN hc (by omega) (br_t ((v 1 (by omega) (by omega) (by omega)).trans (gt_ms1.trans vd)) (nm_r (nI_1 c) ?_))))))
  have hj := hJ _ _ (gs_it (gs_meas L (S t).2.2.1 lu ec (S t).2.2.2 ed ti) N 0 (md, ms)).1 (gt_step (md := md) (pl := (S t).2.2.1) (es := (S t).2.2.2) K (by omega) h0 HA (gl_D HK HD))
  rw [HS.2.2.2.2.2 t] at hj
  exact hj
end
end
section
/-! the law's loops over the clocks -/
section
variable {N L T : Nat} {seed : Int32} {lu ec ed dr md : Nat → Int32} {ti ms : Nat → Int64} {ck : Nat → Nat} {E0 E1 U A : Nat} {S : Nat → (Nat → Int32) × (Nat → Int32) × (Nat → Int32) × (Nat → Int32)}
/-- what the next clock's check asks -/
def gf_J (N L T : Nat) (lu ec ed dr : Nat → Int32) (S : Nat → (Nat → Int32) × (Nat → Int32) × (Nat → Int32) × (Nat → Int32)) (B : Int) (t k c : Nat) (J : Int32 → Int32 → Int32 → Int32 → Int32 → Int32 → (Nat → Int32) → (Nat → Int32) → (Nat → Int64) → (Nat → Int32) → (Nat → Int32) → (Nat → Int64) → (Nat → Int32) → (Nat → Int32) → (Nat → Int32) → (Nat → Int32) → (Nat → Int32) → Prop) : Prop :=
  ∀ (t' k' : Nat) (ti ms : Nat → Int64) (md : Nat → Int32), (t' = t ∨ t' = t + 1) → k' ≤ k + 1 → gt_A N (B + 2147483648) ti ms → J (nI k') (nI (c + 1)) (nI N) (nI 16) (nI T) (nI L) (S t').1 dr ti (S t').2.1 (S t').2.2.1 ms md lu ec (S t').2.2.2 ed
/-- the link between a clock and its parent, and what is checked there -/
theorem l_1006 {post : Int32 → Prop} {LS : Nat} {xs : Nat → Int32} {J : _} {kc ks t c b k : Nat} {B : Int} (hLS : LS ≤ 260) (hk : k ≤ 100000) (H : gf_H N L T seed lu ec ed dr ck E0 E1 U A S) (hb : b < 2 * L) (hbc : ck b = c) (hu : ¬ lu (b / 2) = 0) (hpl : (S t).2.2.1 c = nI (b / 2)) (h2 : (S t).2.2.2 b = 2) (h1 : (S t).2.2.2 (gc_ot b) = 1) (h0 : 2 ^ 45 ≤ B) (hB : B ≤ 2 ^ 55) (HA : gt_A N B ti ms)
    (hJ : gf_J N L T lu ec ed dr S B t k c J) : ∀ d l, l + d = L → wL_law_1006 post LS xs J (nI N) seed (lN E0) (lN E1) (nI L) (nI U) (nI k) (lN A) (nI c) (nI (ck (gc_ot b))) kc ks (nI N) (nI 16) (nI T) (nI L) (S t).1 dr ti (S t).2.1 (S t).2.2.1 ms md lu ec (S t).2.2.2 ed (d + 1) (if b / 2 < l then nI (b / 2) else -1) (nI l)
  | 0, l, hl => by
    obtain rfl : l = L := by omega
    have HK := H.1
    have K := gl_ok HK
    have hN := HK.2.1
    have hL := HK.2.2.1
    have hc := (HK.2.2.2.2.1 b hb).1
    have hp := (HK.2.2.2.2.1 _ (gc_otlt hb)).1
    have g1 := gl_gend HK hb
    have g2 := gl_gend HK (gc_otlt hb)
    rw [gv_oth] at g2
    rw [hbc] at hc g1
    have HA2 : gt_A N (B + 2147483648) ti ms := gt_mono (by omega) HA
    rw [if_pos (by omega)]
    refine br_t (nI_le (by omega) (by omega)) (br_f (nI_pos (by omega)) (x_getPort K hc (by omega) g1 (br_t h2 (x_getPort K hp (by omega) g2 (br_t h1 (l_del (l_del ?_)))))))
    refine br_c (fun heq => ?_) (fun _ => nm_r (nI_1 c) (hJ t k ti ms md (Or.inl rfl) (by omega) HA2))
    refine nm_r (nI_1 k) (l_cell hLS (by omega) (fun r => br_c (fun _ => ?_) (fun _ => ?_)))
    · exact l_1182 H hb hbc hu hpl h2 h1 heq (by omega) (by omega) HA (fun ti' ms' md' a => hJ (t + 1) (k + 1) ti' ms' md' (Or.inr rfl) (by omega) a)
    · obtain ⟨w, hw, ew⟩ := gl_tv ((r.toUInt32 >>> ((1 : Int32).toUInt32 &&& Int32.toUInt32 31)).toInt32)
      rw [ew]
      obtain ⟨c1, c2⟩ := gl_clT hw
      refine x_setTime hN hc (l_1182 H hb hbc hu hpl h2 h1 heq (by omega) (by omega) (fun d hd => ?_) (fun ti' ms' md' a => hJ (t + 1) (k + 1) ti' ms' md' (Or.inr rfl) (by omega) a))
      obtain ⟨a1, a2⟩ := HA d hd
      refine ⟨?_, a2⟩
      by_cases q : d = c
      · subst q; rw [pk_uLs, c1, c2]; omega
      · rw [pk_uLn q]; exact a1
  | d + 1, l, hl => by
    have HK := H.1
    have hN := HK.2.1
    have hL := HK.2.2.1
    have hc := (HK.2.2.2.2.1 b hb).1
    have hp := (HK.2.2.2.2.1 _ (gc_otlt hb)).1
    have e0 := (HK.2.2.2.2.1 (2 * l) (by omega)).1
    have e1 := (HK.2.2.2.2.1 (2 * l + 1) (by omega)).1
    have ih := l_1006 (post := post) (xs := xs) (kc := kc) (ks := ks) hLS hk H hb hbc hu hpl h2 h1 h0 hB HA hJ d (l + 1) (by omega)
    refine br_f (nI_ge (by omega) (by omega)) ?_
    by_cases q : lu l = 0
    · have : ¬ b / 2 = l := fun z => hu (by rw [z]; exact q)
      have e : (if b / 2 < l + 1 then nI (b / 2) else (-1 : Int32)) = if b / 2 < l then nI (b / 2) else -1 := by
        by_cases z : b / 2 < l
        · rw [if_pos z, if_pos (by omega)]
        · rw [if_neg z, if_neg (by omega)]
      rw [e] at ih
      exact br_t ((gl_up HK (by omega)).mpr q) (nm_r (nI_1 l) ih)
    · refine br_f (fun z => q ((gl_up HK (by omega)).mp z)) (gl_end0 HK (by omega) (gl_end1 HK (by omega) ?_))
      by_cases z : b / 2 = l
      · rw [if_pos (by omega), z] at ih
        rcases (by omega : b = 2 * l ∨ b = 2 * l + 1) with y | y
        · have a1 : ck (2 * l) = c := by rw [← y]; exact hbc
          have a2 : ck (2 * l + 1) = ck (gc_ot b) := by rw [y, gc_ot0]
          exact br_t (by rw [a1]) (br_t (by rw [a2]) (nm_r (nI_1 l) ih))
        · have a1 : ck (2 * l + 1) = c := by rw [← y]; exact hbc
          have a2 : ck (2 * l) = ck (gc_ot b) := by rw [y, gc_ot1]
          have ne : ck (2 * l) ≠ c := by
            have := HK.2.2.2.2.2.1 (2 * l) (by omega)
            rw [gc_ot0, a1] at this
            exact this
          exact br_f (fun z => ne ((nI_eq (by omega) (by omega)).mp z)) (br_t (by rw [a2]) (br_t (by rw [a1]) (nm_r (nI_1 l) ih)))
      · have e : (if b / 2 < l + 1 then nI (b / 2) else (-1 : Int32)) = if b / 2 < l then nI (b / 2) else -1 := by
          by_cases z : b / 2 < l
          · rw [if_pos z, if_pos (by omega)]
          · rw [if_neg z, if_neg (by omega)]
        rw [e] at ih
        have no1 : ¬ (ck (2 * l) = c ∧ ck (2 * l + 1) = ck (gc_ot b)) := fun y => by
          have := HK.2.2.2.2.2.2.1 (2 * l) b (by omega) hb (by rw [y.1, hbc]) (by rw [gc_ot0]; exact y.2)
          omega
        have no2 : ¬ (ck (2 * l) = ck (gc_ot b) ∧ ck (2 * l + 1) = c) := fun y => by
          have := HK.2.2.2.2.2.2.1 (2 * l + 1) b (by omega) hb (by rw [y.2, hbc]) (by rw [gc_ot1]; exact y.1)
          omega
        have inj : ∀ x y : Nat, x < 8 → y < 8 → nI x = nI y → x = y := fun x y hx hy h => (nI_eq (by omega) (by omega)).mp h
        rw [hbc] at hc
        have f61 : wL_law_1061 post LS xs J (wL_law_1006 post LS xs J (nI N) seed (lN E0) (lN E1) (nI L) (nI U) (nI k) (lN A) (nI c) (nI (ck (gc_ot b))) kc ks (nI N) (nI 16) (nI T) (nI L) (S t).1 dr ti (S t).2.1 (S t).2.2.1 ms md lu ec (S t).2.2.2 ed (d + 1)) (nI N) seed (lN E0) (lN E1) (nI L) (nI U) (nI k) (lN A) (nI c) (nI (ck (gc_ot b))) (if b / 2 < l then nI (b / 2) else -1) (nI l) (nI (ck (2 * l))) (nI (ck (2 * l + 1))) kc ks (nI N) (nI 16) (nI T) (nI L) (S t).1 dr ti (S t).2.1 (S t).2.2.1 ms md lu ec (S t).2.2.2 ed := by
          unfold wL_law_1061
          refine br_c (fun y1 => br_c (fun y2 => ?_) (fun _ => nm_r (nI_1 l) ih)) (fun _ => nm_r (nI_1 l) ih)
          exact absurd ⟨inj _ _ (by omega) (by omega) y1, inj _ _ (by omega) (by omega) y2⟩ no2
        refine br_c (fun y1 => br_c (fun y2 => ?_) (fun _ => f61)) (fun _ => f61)
        exact absurd ⟨inj _ _ (by omega) (by omega) y1, inj _ _ (by omega) (by omega) y2⟩ no1
/-- the ports of a clock that is the best -/
theorem l_856 {post : Int32 → Prop} {LS : Nat} {xs : Nat → Int32} {J : _} {kc ks t c k : Nat} (H : gf_H N L T seed lu ec ed dr ck E0 E1 U A S) (hc : c < N) (hp : ∀ e, e < 2 * L → ¬ lu (e / 2) = 0 → ck e = c → (S t).2.2.2 e = 1) (hJ : J (nI k) (nI (c + 1)) (nI N) (nI 16) (nI T) (nI L) (S t).1 dr ti (S t).2.1 (S t).2.2.1 ms md lu ec (S t).2.2.2 ed) : ∀ d l, l + d = L → wL_law_856 post LS xs J (nI N) seed (lN E0) (lN E1) (nI L) (nI U) (nI k) (lN A) (nI c) kc ks (nI N) (nI 16) (nI T) (nI L) (S t).1 dr ti (S t).2.1 (S t).2.2.1 ms md lu ec (S t).2.2.2 ed (d + 1) (nI l)
  | 0, l, hl => br_t (nI_le (by omega) (by have := H.1.2.2.1; omega)) (nm_r (nI_1 c) hJ)
  | d + 1, l, hl => by
    have HK := H.1
    have K := gl_ok HK
    have hN := HK.2.1
    have hL := HK.2.2.1
    have e0 := (HK.2.2.2.2.1 (2 * l) (by omega)).1
    have e1 := (HK.2.2.2.2.1 (2 * l + 1) (by omega)).1
    have ih := l_856 (post := post) (LS := LS) (xs := xs) (kc := kc) (ks := ks) H hc hp hJ d (l + 1) (by omega)
    refine br_f (nI_ge (by omega) (by omega)) ?_
    by_cases q : lu l = 0
    · exact br_t ((gl_up HK (by omega)).mpr q) (nm_r (nI_1 l) ih)
    · have f : ∀ e, e < 2 * L → e / 2 = l → ck e = c → wL_law_903 post LS xs J (wL_law_856 post LS xs J (nI N) seed (lN E0) (lN E1) (nI L) (nI U) (nI k) (lN A) (nI c) kc ks (nI N) (nI 16) (nI T) (nI L) (S t).1 dr ti (S t).2.1 (S t).2.2.1 ms md lu ec (S t).2.2.2 ed (d + 1)) (nI N) seed (lN E0) (lN E1) (nI L) (nI U) (nI k) (lN A) (nI c) (nI l) kc ks (nI N) (nI 16) (nI T) (nI L) (S t).1 dr ti (S t).2.1 (S t).2.2.1 ms md lu ec (S t).2.2.2 ed := by
        intro e he hel hec
        have g := gl_gend HK he
        rw [hel, hec] at g
        unfold wL_law_903
        exact x_getPort K hc (by omega) g (br_t (hp e he (by rw [hel]; exact q) hec) (nm_r (nI_1 l) ih))
      refine br_f (fun z => q ((gl_up HK (by omega)).mp z)) (gl_end0 HK (by omega) ?_)
      refine br_c (fun y => f (2 * l) (by omega) (by omega) ((nI_eq (by omega) (by omega)).mp y)) (fun _ => gl_end1 HK (by omega) (br_c (fun y => f (2 * l + 1) (by omega) (by omega) ((nI_eq (by omega) (by omega)).mp y)) (fun _ => nm_r (nI_1 l) ih)))
end
end
section
/-! the law's loops over clocks, and the whole -/
section
variable {N L T : Nat} {seed : Int32} {lu ec ed dr md : Nat → Int32} {ti ms : Nat → Int64} {ck : Nat → Nat} {E0 E1 U A : Nat} {S : Nat → (Nat → Int32) × (Nat → Int32) × (Nat → Int32) × (Nat → Int32)}
def gf_cand (L : Nat) (lu : Nat → Int32) (ck : Nat → Nat) (g c m x : Nat) : Prop := (∃ e, e < 2 * L ∧ ¬ lu (e / 2) = 0 ∧ ck e = c ∧ ck (gc_ot e) = x) ∧ cv_W (2 * L) ck gc_ot (fun e => ¬ lu (e / 2) = 0) g m x
theorem l_933 {post : Int32 → Prop} {LS : Nat} {xs : Nat → Int32} {J : _} {kc ks t c b k g m : Nat} {B : Int} (hLS : LS ≤ 260) (hk : k ≤ 100000) (H : gf_H N L T seed lu ec ed dr ck E0 E1 U A S) (hc : c < N) (hg : g < N) (hd : cv_d (2 * L) ck gc_ot (fun e => ¬ lu (e / 2) = 0) g c (m + 1)) (hb : b < 2 * L) (hbc : ck b = c) (hu : ¬ lu (b / 2) = 0) (hpl : (S t).2.2.1 c = nI (b / 2)) (hpa : (S t).2.1 c = nI (ck (gc_ot b))) (h2 : (S t).2.2.2 b = 2) (h1 : (S t).2.2.2 (gc_ot b) = 1) (hw : cv_W (2 * L) ck gc_ot (fun e => ¬ lu (e / 2) = 0) g m (ck (gc_ot b))) (hmin : ∀ e, e < 2 * L → ¬ lu (e / 2) = 0 → ck e = c → cv_W (2 * L) ck gc_ot (fun e => ¬ lu (e / 2) = 0) g m (ck (gc_ot e)) → ck (gc_ot b) ≤ ck (gc_ot e)) (h0 : 2 ^ 45 ≤ B) (hB : B ≤ 2 ^ 55) (HA : gt_A N B ti ms)
    (hJ : gf_J N L T lu ec ed dr S B t k c J) : ∀ d i bo, i + d = N → (bo = none → ∀ x, x < i → ¬ gf_cand L lu ck g c m x) → (∀ p, bo = some p → p < N ∧ gf_cand L lu ck g c m p ∧ ∀ x, x < p → ¬ gf_cand L lu ck g c m x) → wL_law_933 post LS xs J (nI N) seed (lN E0) (lN E1) (nI L) (nI U) (nI k) (lN A) (nI c) (nI g) (nI (m + 1)) kc ks (nI N) (nI 16) (nI T) (nI L) (S t).1 dr ti (S t).2.1 (S t).2.2.1 ms md lu ec (S t).2.2.2 ed (d + 1) (gc_en bo) (nI i)
  | 0, i, bo, hi, n0, n1 => by
    have hN := H.1.2.1
    have hp := (H.1.2.2.2.2.1 _ (gc_otlt hb)).1
    have cp : gf_cand L lu ck g c m (ck (gc_ot b)) := ⟨⟨b, hb, hu, hbc, rfl⟩, hw⟩
    have e : gc_en bo = nI (ck (gc_ot b)) := by
      cases bo with
      | none => exact absurd cp (n0 rfl _ (by omega))
      | some p =>
        obtain ⟨_, ⟨⟨e, he, he2, he3, he4⟩, pw⟩, pm⟩ := n1 p rfl
        have a1 : ck (gc_ot b) ≤ p := by
          rw [← he4]
          exact hmin e he he2 he3 (by rw [he4]; exact pw)
        have a2 : ¬ ck (gc_ot b) < p := fun z => pm _ z cp
        show nI p = nI (ck (gc_ot b))
        rw [show p = ck (gc_ot b) by omega]
    have l := l_1006 (md := md) (post := post) (LS := LS) (xs := xs) (kc := kc) (ks := ks) hLS hk H hb hbc hu hpl h2 h1 h0 hB HA hJ L 0 (by omega)
    rw [if_neg (by omega)] at l
    rw [e]
    exact br_t (nI_le (by omega) (by omega)) (x_getParent hN hc (br_t hpa ⟨_, l⟩))
  | d + 1, i, some p, hi, n0, n1 => br_f (nI_ge (by omega) (by have := H.1.2.1; omega)) (br_t (nI_pos' (by have := (n1 p rfl).1; have := H.1.2.1; omega)) (nm_r (nI_1 i) (l_933 hLS hk H hc hg hd hb hbc hu hpl hpa h2 h1 hw hmin h0 hB HA hJ d (i + 1) (some p) (by omega) (fun z => absurd z (Option.some_ne_none p)) n1)))
  | d + 1, i, none, hi, n0, n1 => by
    have hN := H.1.2.1
    have hA := H.2.2.2.1
    have next0 : ¬ gf_cand L lu ck g c m i → wL_law_933 post LS xs J (nI N) seed (lN E0) (lN E1) (nI L) (nI U) (nI k) (lN A) (nI c) (nI g) (nI (m + 1)) kc ks (nI N) (nI 16) (nI T) (nI L) (S t).1 dr ti (S t).2.1 (S t).2.2.1 ms md lu ec (S t).2.2.2 ed (d + 1) (gc_en none) (nI (i + 1)) := fun nc =>
      l_933 hLS hk H hc hg hd hb hbc hu hpl hpa h2 h1 hw hmin h0 hB HA hJ d (i + 1) none (by omega) (fun _ x hx => by
        rcases (by omega : x < i ∨ x = i) with q | q
        · exact n0 rfl x q
        · rw [q]; exact nc) (fun p z => absurd z.symm (Option.some_ne_none p))
    have next1 : gf_cand L lu ck g c m i → wL_law_933 post LS xs J (nI N) seed (lN E0) (lN E1) (nI L) (nI U) (nI k) (lN A) (nI c) (nI g) (nI (m + 1)) kc ks (nI N) (nI 16) (nI T) (nI L) (S t).1 dr ti (S t).2.1 (S t).2.2.1 ms md lu ec (S t).2.2.2 ed (d + 1) (gc_en (some i)) (nI (i + 1)) := fun yc =>
      l_933 hLS hk H hc hg hd hb hbc hu hpl hpa h2 h1 hw hmin h0 hB HA hJ d (i + 1) (some i) (by omega) (fun z => absurd z (Option.some_ne_none i)) (fun p z => by
        obtain rfl := Option.some.inj z
        exact ⟨by omega, yc, fun x hx => n0 rfl x hx⟩)
    refine br_f (nI_ge (by omega) (by omega)) (br_f (by decide) (l_nb hA (by omega) ?_))
    have tb : (A / 2 ^ (8 * c) % 256).testBit i = true ↔ i < 8 ∧ A.testBit (8 * c + i) = true := by
      rw [show (256 : Nat) = 2 ^ 8 from rfl, Nat.testBit_mod_two_pow, Nat.testBit_div_two_pow, Nat.add_comm i, Bool.and_eq_true, decide_eq_true_eq]
    have hlt : A / 2 ^ (8 * c) % 256 < 2 ^ 31 := by omega
    by_cases q : (A / 2 ^ (8 * c) % 256).testBit i = true
    · obtain ⟨_, qa⟩ := tb.mp q
      obtain ⟨e, he, heu, he1, he2⟩ := (H.2.2.2.2 c i (by omega) (by omega)).mp qa
      obtain ⟨_, o2, o3, o4⟩ := sq_net H.2.1 e he
      have wi : cv_W (2 * L) ck gc_ot (fun e => ¬ lu (e / 2) = 0) g (m + 2) i := ⟨gc_ot e, o2, o4 heu, he2, by rw [o3, he1]; exact hd.1⟩
      obtain ⟨d', _, hd'⟩ := cv_hasd (cv_rev (sq_net H.2.1) _ _ wi)
      have ddn := cv_dlt (sq_net H.2.1) (show i < N by omega) hd'
      have hm7 := cv_dlt (sq_net H.2.1) hg hd
      refine br_f (fun z => by rw [(bm_0 hlt (by omega)).mp z] at q; exact absurd q (by decide)) (gf_dist H (by omega) hg hd' (br_c (fun y => nm_r (nI_1 i) (next1 ?_)) (fun y => nm_r (nI_1 i) (next0 ?_))))
      · rw [nI_pred] at y
        have := (nI_eq (by omega) (by omega)).mp y
        subst this
        exact ⟨⟨e, he, heu, he1, he2⟩, cv_rev (sq_net H.2.1) _ _ hd'.1⟩
      · rintro ⟨_, wm⟩
        apply y
        rw [nI_pred]
        have a1 : d' ≤ m := by
          apply Classical.byContradiction
          intro z
          exact hd'.2 m (by omega) (cv_rev (sq_net H.2.1) _ _ wm)
        have a2 : m ≤ d' := by
          apply Classical.byContradiction
          intro z
          exact hd.2 (d' + 1) (by omega) ⟨e, he, heu, he1, by rw [he2]; exact cv_rev (sq_net H.2.1) _ _ hd'.1⟩
        rw [show d' = m by omega]
    · refine br_t ((bm_0 hlt (by omega)).mpr (by simpa using q)) (nm_r (nI_1 i) (next0 ?_))
      rintro ⟨⟨e, he, heu, he1, he2⟩, _⟩
      exact q (tb.mpr ⟨by omega, (H.2.2.2.2 c i (by omega) (by omega)).mpr ⟨e, he, heu, he1, he2⟩⟩)
/-- one clock: what it shows -/
theorem l_one {post : Int32 → Prop} {LS : Nat} {xs : Nat → Int32} {J : _} {kc ks t c k g : Nat} {x17 : Int32} {B : Int} (hLS : LS ≤ 260) (hk : k ≤ 100000) (ht : 44 ≤ t) (H : gf_H N L T seed lu ec ed dr ck E0 E1 U A S) (hc : c < N) (hg : gf_B N L lu ck S c g) (h0 : 2 ^ 45 ≤ B) (hB : B ≤ 2 ^ 55) (HA : gt_A N B ti ms)
    (hJ : gf_J N L T lu ec ed dr S B t k c J) : wL_law_751 post LS xs J (nI N) seed (lN E0) (lN E1) (nI L) (nI U) (nI k) (lN A) (nI c) x17 kc ks (nI N) (nI 16) (nI T) (nI L) (S t).1 dr ti (S t).2.1 (S t).2.2.1 ms md lu ec (S t).2.2.2 ed 1 (nI g) (nI N) := by
  have hN := H.1.2.1
  have hbest := gf_best H hg
  obtain ⟨hgN, ⟨j, hj⟩, _⟩ := hg
  obtain ⟨d, _, hd⟩ := cv_hasd hj
  have hd' := gf_dsym H hd
  obtain ⟨d7, s5, s6, s3, s4, s7⟩ := sq_settle H.2.1 hgN hbest ht hc hd'
  refine br_t (nI_le (by omega) (by omega)) (gf_dist H hc hgN hd (x_getGM hN hc (br_t s5 (x_getSteps hN hc (br_t s6 ?_)))))
  by_cases q : c = g
  · subst q
    have dz : d = 0 := by
      apply Classical.byContradiction
      intro z
      exact hd.2 0 (by omega) rfl
    obtain ⟨y1, y2⟩ := s4 dz
    exact br_t rfl (x_getParent hN hc (br_t y1 ⟨_, l_856 H hc y2 (hJ t k ti ms md (Or.inl rfl) (by omega) (gt_mono (by omega) HA)) L 0 (by omega)⟩))
  · obtain ⟨m, rfl⟩ : ∃ m, d = m + 1 := by
      refine ⟨d - 1, ?_⟩
      have : d ≠ 0 := fun z => by
        rw [z] at hd
        have w : g = c := hd.1
        exact q w.symm
      omega
    obtain ⟨b, hb, hu, hbc, hpl, hpa, h2, hw, hmin⟩ := s7 m rfl
    obtain ⟨o1, o2, o3, o4⟩ := sq_net H.2.1 b hb
    have hp := (sq_net H.2.1 _ o2).1
    have hdp : cv_d (2 * L) ck gc_ot (fun e => ¬ lu (e / 2) = 0) g (ck (gc_ot b)) m := ⟨hw, fun i hi hwi => hd'.2 (i + 1) (by omega) ⟨b, hb, hu, hbc, hwi⟩⟩
    have h1 := (sq_settle H.2.1 hgN hbest ht hp hdp).2.2.2.1 (gc_ot b) o2 (o4 hu) rfl (fun i hi => by rw [o3, hbc]; exact hd'.2 i (by omega))
    exact br_f (fun z => q ((nI_eq (by omega) (by omega)).mp z)) ⟨_, l_933 hLS hk H hc hgN hd' hb hbc hu hpl hpa h2 h1 hw hmin h0 hB HA hJ N 0 none (by omega) (fun _ x hx => absurd hx (by omega)) (fun p z => absurd z.symm (Option.some_ne_none p))⟩
/-- the best of what a clock reaches -/
theorem l_751 {post : Int32 → Prop} {LS : Nat} {xs : Nat → Int32} {J : _} {kc ks t c k : Nat} {B : Int} (hLS : LS ≤ 260) (hk : k ≤ 100000) (ht : 44 ≤ t) (H : gf_H N L T seed lu ec ed dr ck E0 E1 U A S) (hc : c < N) (h0 : 2 ^ 45 ≤ B) (hB : B ≤ 2 ^ 55) (HA : gt_A N B ti ms)
    (hJ : gf_J N L T lu ec ed dr S B t k c J) : ∀ d i bo, i + d = N → (bo = none → ∀ x, x < i → ¬ (gw_rc A N c N).testBit x = true) → (∀ b, bo = some b → b < N ∧ (gw_rc A N c N).testBit b = true ∧ ∀ x, x < i → (gw_rc A N c N).testBit x = true → ¬ kl_r (sq_D S x) (sq_D S b)) → wL_law_751 post LS xs J (nI N) seed (lN E0) (lN E1) (nI L) (nI U) (nI k) (lN A) (nI c) (nI (gw_rc A N c N)) kc ks (nI N) (nI 16) (nI T) (nI L) (S t).1 dr ti (S t).2.1 (S t).2.2.1 ms md lu ec (S t).2.2.2 ed (d + 1) (gc_en bo) (nI i)
  | 0, i, none, hi, n0, n1 => absurd ((gf_in H hc c).mpr ⟨0, rfl⟩) (n0 rfl c (by omega))
  | 0, i, some b, hi, n0, n1 => by
    obtain rfl : i = N := by omega
    obtain ⟨hb, hr, hm⟩ := n1 b rfl
    exact l_one hLS hk ht H hc ⟨hb, (gf_in H hc b).mp hr, fun x hx hw => hm x hx ((gf_in H hc x).mpr hw)⟩ h0 hB HA hJ
  | d + 1, i, bo, hi, n0, n1 => by
    have hN := H.1.2.1
    have hlt : gw_rc A N c N < 2 ^ 31 := by have := gw_rc_lt (A := A) (n := N) (c := c) (by omega) N; omega
    have ih := l_751 (post := post) (LS := LS) (xs := xs) (kc := kc) (ks := ks) hLS hk ht H hc h0 hB HA hJ d (i + 1)
    refine br_f (nI_ge (by omega) (by omega)) ?_
    by_cases q : (gw_rc A N c N).testBit i = true
    · refine br_f (fun z => by rw [(bm_0 hlt (by omega)).mp z] at q; exact absurd q (by decide)) ?_
      cases bo with
      | none =>
        refine br_t (by decide) (nm_r (nI_1 i) (ih (some i) (by omega) (fun z => absurd z (Option.some_ne_none i)) (fun b z => ?_)))
        obtain rfl := Option.some.inj z
        refine ⟨by omega, q, fun x hx hr => ?_⟩
        by_cases w : x = i
        · subst w; exact kl_ir _
        · exact absurd hr (n0 rfl x (by omega))
      | some b =>
        obtain ⟨hb, hr, hm⟩ := n1 b rfl
        refine br_f (nI_pos (by omega)) (x_cmpD hN (by omega) hb (br_c (fun y => ?_) (fun y => ?_)))
        · have y' := (gf_cmp H (t := t) (by omega) hb).mp y
          refine nm_r (nI_1 i) (ih (some i) (by omega) (fun z => absurd z (Option.some_ne_none i)) (fun b' z => ?_))
          obtain rfl := Option.some.inj z
          refine ⟨by omega, q, fun x hx hr' => ?_⟩
          by_cases w : x = i
          · subst w; exact kl_ir _
          · exact fun z' => hm x (by omega) hr' (cq_trans 6 0 z' y')
        · refine nm_r (nI_1 i) (ih (some b) (by omega) (fun z => absurd z (Option.some_ne_none b)) (fun b' z => ?_))
          obtain rfl := Option.some.inj z
          refine ⟨hb, hr, fun x hx hr' => ?_⟩
          by_cases w : x = i
          · subst w; exact fun z' => y ((gf_cmp H (t := t) (by omega) hb).mpr z')
          · exact hm x (by omega) hr'
    · refine br_t ((bm_0 hlt (by omega)).mpr (by simpa using q)) (nm_r (nI_1 i) (ih bo (by omega) (fun z x hx => ?_) (fun b z => ?_)))
      · rcases (by omega : x < i ∨ x = i) with w | w
        · exact n0 z x w
        · rw [w]; exact q
      · obtain ⟨hb, hr, hm⟩ := n1 b z
        refine ⟨hb, hr, fun x hx hr' => ?_⟩
        rcases (by omega : x < i ∨ x = i) with w | w
        · exact hm x w hr'
        · rw [w] at hr'; exact absurd hr' q
/-- all clocks -/
theorem l_729 {post : Int32 → Prop} {LS : Nat} {xs : Nat → Int32} {kc ks : Nat} (hp : post 1) (hLS : LS ≤ 260) (H : gf_H N L T seed lu ec ed dr ck E0 E1 U A S) : ∀ d c t k ti ms md, c + d = N → 44 ≤ t → k ≤ 1000 + c → gt_A N (2 ^ 47 + 2147483648 * c) ti ms → wL_law_729 post LS xs (nI N) seed (lN E0) (lN E1) (nI L) (nI U) (lN A) kc ks (d + 1) (nI k) (nI c) (nI N) (nI 16) (nI T) (nI L) (S t).1 dr ti (S t).2.1 (S t).2.2.1 ms md lu ec (S t).2.2.2 ed
  | 0, c, t, k, ti, ms, md, hc, ht, hk, HA => br_t (nI_le (by omega) (by have := H.1.2.1; omega)) hp
  | d + 1, c, t, k, ti, ms, md, hc, ht, hk, HA => by
    have hN := H.1.2.1
    refine br_f (nI_ge (by omega) (by omega)) (l_reach H.2.2.2.1 (by omega) hN ⟨_, l_751 (B := 2 ^ 47 + 2147483648 * c) hLS (by omega) ht H (by omega) (by omega) (by omega) HA ?_ N 0 none (by omega) (fun _ x hx => absurd hx (by omega)) (fun b z => absurd z.symm (Option.some_ne_none b))⟩)
    intro t' k' ti' ms' md' h1 h2 h3
    exact l_729 hp hLS H d (c + 1) t' k' ti' ms' md' (by omega) (by omega) (by omega) (gt_mono (by omega) h3)
end
end
section
/-! the constructor, and the law as a whole -/
def gd_ (c f : Nat) : Int32 := [128, 248, 254, 65535, 128, nI c, 0, nI c, 1, 0].getD f 0
def gi_X (i : Nat) (RW : Nat → Int32) : Prop := ∀ c, c < i → (∀ f, f < 10 → RW (c * 10 + f) = gd_ c f) ∧ (∀ f, f < 10 → RW ((8 + c) * 10 + f) = gd_ c f)
theorem gi_Xs {i : Nat} {RW : Nat → Int32} (hi : i < 8) (H : gi_X i RW) : gi_X (i + 1) (gc_cp (gc_cp RW (gd_ i) 0 (i * 10) 10) (gc_cp RW (gd_ i) 0 (i * 10) 10) (i * 10) ((8 + i) * 10) 10) := by
  intro c hc
  by_cases q : c = i
  · subst q
    refine ⟨fun f hf => ?_, fun f hf => ?_⟩
    · rw [gc_cp_out (by omega), gc_cp_in hf, Nat.zero_add]
    · rw [gc_cp_in hf, gc_cp_in hf, Nat.zero_add]
  · obtain ⟨h1, h2⟩ := H c (by omega)
    refine ⟨fun f hf => ?_, fun f hf => ?_⟩
    · rw [gc_cp_out (by omega), gc_cp_out (by omega)]; exact h1 f hf
    · rw [gc_cp_out (by omega), gc_cp_out (by omega)]; exact h2 f hf
section
variable {N C L : Nat} {tm : Int32} {RW dr pa pl md lu ec es ed : Nat → Int32} {ti ms : Nat → Int64}
theorem x_start {post : St2 → Prop} {c : Nat} (hc : c < 8) (h : post (gx N C L tm (gc_cp RW (gd_ c) 0 (c * 10) 10) dr ti pa pl ms md lu ec es ed)) : wpX_startDataset post (gx N C L tm RW dr ti pa pl ms md lu ec es ed) (nI c) := by
  unfold wpX_startDataset
  refine x_datasetRow ?_
  simp (disch := omega) only [ix_m6, ix_m8, ix_m9, ix_m10, ix_m2, ix_2m, ix_8a, ix_16a, ix_a0, ix_a1, ix_a2, ix_a3, ix_a4, ix_a5, ix_a6, ix_a7, ix_a8, ix_a9, nI_add, nI_clamp]
  have e0 : upd RW (c * 10 + 0) 128 = gc_cp RW (gd_ c) 0 (c * 10) 1 := by
    have := gc_cpS RW (gd_ c) 0 (c * 10) 0
    rw [gc_cp0] at this
    exact this
  exact ⟨vp_in_nI (by omega) (by omega), nm_r e0 ⟨vp_in_nI (by omega) (by omega), nm_r (gc_cpS RW (gd_ c) 0 (c * 10) 1) ⟨vp_in_nI (by omega) (by omega), nm_r (gc_cpS RW (gd_ c) 0 (c * 10) 2) ⟨vp_in_nI (by omega) (by omega), nm_r (gc_cpS RW (gd_ c) 0 (c * 10) 3) ⟨vp_in_nI (by omega) (by omega), nm_r (gc_cpS RW (gd_ c) 0 (c * 10) 4) ⟨vp_in_nI (by omega) (by omega), nm_r (gc_cpS RW (gd_ c) 0 (c * 10) 5) ⟨vp_in_nI (by omega) (by omega), nm_r (gc_cpS RW (gd_ c) 0 (c * 10) 6) ⟨vp_in_nI (by omega) (by omega), nm_r (gc_cpS RW (gd_ c) 0 (c * 10) 7) ⟨vp_in_nI (by omega) (by omega), nm_r (gc_cpS RW (gd_ c) 0 (c * 10) 8) ⟨vp_in_nI (by omega) (by omega), nm_r (gc_cpS RW (gd_ c) 0 (c * 10) 9) h⟩⟩⟩⟩⟩⟩⟩⟩⟩⟩
theorem x_initl {post : St2 → Prop} {mc mm kc ks : Nat} (hN : N ≤ 8) (h : ∀ RW pa pl, gi_X N RW → post (gx N C 0 tm RW dr ti pa pl ms md lu ec es ed)) : ∀ k i RW pa pl, i + k = N → gi_X i RW → wX_init_133 post mc mm kc ks (k + 1) (nI i) (nI N) (nI C) tm (nI 0) RW dr ti pa pl ms md lu ec es ed
  | 0, i, RW, pa, pl, hi, H => by
    obtain rfl : i = N := by omega
    exact br_t (nI_le (by omega) (by omega)) (h _ _ _ H)
  | k + 1, i, RW, pa, pl, hi, H => by
    refine br_f (nI_ge (by omega) (by omega)) (x_start (L := 0) (by omega) (x_self (L := 0) (by omega) (by omega) (nm_r (nI_1 i) ?_)))
    have ih := x_initl (mc := mc) (mm := mm) (kc := kc) (ks := ks) hN h k (i + 1) _ (upd pa i (-1)) (upd pl i (-1)) (by omega) (gi_Xs (by omega) H)
    have e : gc_fol ec lu es (fun _ => 1) i (2 * 0) = es := gc_fol0 _ _ _ _ _
    rw [← e] at ih
    exact ih
end
theorem gl_cl {N a b : Nat} {lo hi : Int32} (h1 : a ≤ N) (h2 : N ≤ b) (hb : b < 2 ^ 31) (ea : lo = nI a) (eb : hi = nI b) : gc_cl (nI N) lo hi = nI N := by
  subst ea eb
  unfold gc_cl
  rw [if_neg (nI_nlt h1 (by omega)), if_neg (nI_nlt h2 hb)]
theorem gl_0 {N T : Nat} {seed : Int32} {RW : Nat → Int32} (h2 : 2 ≤ N) (hN : N ≤ 8) (hT : 1 ≤ T ∧ T ≤ 4) (H : gi_X N RW) : gl_I N 0 T seed (fun _ => 0) (fun _ => 0) (fun _ => 0) (fun _ => 0) 0 0 0 RW (fun _ => 0) (fun _ => 0) (fun _ => 0) (2 ^ 45) := by
  refine ⟨⟨h2, hN, by omega, fun _ => Or.inl rfl, fun e he => absurd he (by omega), fun e he => absurd he (by omega), fun e e' he => absurd he (by omega), fun e he => absurd he (by omega), ⟨by decide, by decide, fun _ => by decide, fun _ => rfl, fun z => absurd z (by omega), fun l hl => absurd hl (by omega)⟩, by decide, fun l hl => ?_⟩, ⟨fun c hc => ?_, fun c hc => ?_, fun e he => absurd he (by omega)⟩, fun c hc => ?_, fun c hc => ?_, hT⟩
  · rw [Nat.zero_testBit]
    exact ⟨fun z => absurd z (by decide), fun z => absurd z.1 (by omega)⟩
  · obtain ⟨h1, _⟩ := H c hc
    exact ⟨h1 5 (by omega), h1 6 (by omega), h1 7 (by omega), h1 8 (by omega), h1 9 (by omega)⟩
  · obtain ⟨_, h1⟩ := H c hc
    exact ⟨⟨0, by omega, h1 6 (by omega)⟩, ⟨c, by omega, h1 5 (by omega)⟩, h1 7 (by omega), h1 8 (by omega), h1 9 (by omega)⟩
  · have z : (0 : Int32).toInt = 0 := by decide
    show -100000 ≤ (0 : Int32).toInt ∧ (0 : Int32).toInt ≤ 100000
    rw [z]; omega
  · have z : (0 : Int64).toInt = 0 := by decide
    show (-(2 ^ 45) ≤ (0 : Int64).toInt ∧ (0 : Int64).toInt ≤ 2 ^ 45) ∧ (-500000 ≤ (0 : Int64).toInt ∧ (0 : Int64).toInt ≤ 500000)
    rw [z]; omega
/-- behind the last operation -/
theorem l_fin {post : Int32 → Prop} {LS N T m tot kc ks : Nat} {xs : Nat → Int32} {seed : Int32} (hp : post 1) (hLS : LS ≤ 260) (ht : tot ≤ 47) : gl_J N T seed (2 ^ 46) (5 + 4 * tot) tot (wL_law_95 post LS xs (nI N) seed (nI m) (nI tot) kc ks 1) := by
  intro L E0 E1 U ck RW dr ti pa pl ms md lu ec es ed ⟨HK, HI, HD, HA, hT⟩
  have K := gl_ok HK
  have hN := HK.2.1
  have hL := HK.2.2.1
  have I0 : gq_Q N 16 L (nI T) dr lu ec ed (RW, pa, pl, es) (2 ^ 46) 0 (gx N 16 L (nI T) RW dr ti pa pl ms md lu ec es ed) := ⟨ti, ms, md, rfl, fun _ => gt_mono (by omega) HA⟩
  obtain ⟨u', ⟨ti', ms', md', rfl, HA2⟩, wk⟩ := gq_run K (by omega) (gl_D HK HD) (k := 64) (by omega) I0
  have SH : sq_H N L T lu ec ck (gq_S N L (nI T) lu ec (RW, pa, pl, es)) := ⟨hN, hL, hT, HK.2.2.2.2.1, HI, fun _ => rfl⟩
  have HA3 : gt_A N (2 ^ 47 + 2147483648 * ((0 : Nat) : Int)) ti' ms' := gt_mono (by omega) (HA2 (by omega))
  refine br_t (nI_le (by omega) (by omega)) (wk _ ⟨_, l_adj (T := T) HK (fun A hA G => ⟨_, l_596 (sq_I SH _) hN ⟨_, l_729 hp hLS ⟨HK, SH, HD, hA, G⟩ N 0 (0 + 64) (5 + 4 * tot) ti' ms' md' (by omega) (by omega) (by omega) HA3⟩ N 0 (by omega)⟩) L 0 0 (by omega) (by decide) (fun x y _ _ => ?_)⟩)
  rw [Nat.zero_testBit]
  exact ⟨fun z => absurd z (by decide), fun ⟨e, he, _⟩ => absurd he (by omega)⟩
theorem i_vc (xs : Nat → Int32) (L : Nat) (hL : L ≤ 260) : wpL_law (fun r => r = 1) L xs := by
  unfold wpL_law
  refine l_cell (j := 0) hL (by omega) (fun r1 => ⟨by decide, ?_⟩)
  obtain ⟨w1, hw1, e1⟩ := pk_andE r1 8 (m := 255) (by decide)
  refine nm_r (e' := nI (2 + w1 % 7)) ?_ ?_
  · rw [e1, show nI w1 - nI w1 / 7 * 7 = nI (w1 % 7) from pk_rem (d := 7) (by omega) (by omega) (by omega)]
    exact nI_add 2 (w1 % 7)
  · have h7 : w1 % 7 < 7 := Nat.mod_lt _ (by omega)
    generalize hNN : 2 + w1 % 7 = N
    refine l_cell (j := 1) hL (by omega) (fun r2 => ?_)
    obtain ⟨w2, hw2, e2⟩ := pk_andE r2 2 (m := 3) (by decide)
    refine nm_r (e' := nI (1 + w2)) (by rw [e2]; exact nI_add 1 w2) ?_
    refine l_cell (j := 2) hL (by omega) (fun seed => ⟨11, 704, by omega, by omega, ?_⟩)
    unfold wpX_init
    refine ⟨by omega, by omega, by omega, by omega, by omega, by omega, by omega, by omega, by omega, by omega, by omega, by omega, by omega, by omega, by omega, by omega, by omega, by omega, by omega, by omega, by omega, by omega, x_clamp ?_⟩
    have eN : gc_cl (nI N) 2 8 = nI N := gl_cl (a := 2) (b := 8) (by omega) (by omega) (by omega) rfl rfl
    rw [eN]
    refine x_clamp ?_
    rw [show gc_cl 16 1 16 = nI 16 by decide]
    refine x_clamp ?_
    have eT : gc_cl (nI (1 + w2)) 1 4 = nI (1 + w2) := gl_cl (a := 1) (b := 4) (by omega) (by omega) (by omega) rfl rfl
    rw [eT]
    refine ⟨_, x_initl (C := 16) (by omega) (fun RW pa pl HX => ?_) N 0 _ _ _ (by omega) (fun c hc => absurd hc (by omega))⟩
    refine nm_r (e' := nI 4) (by decide) (l_cell (j := 3) hL (by omega) (fun r3 => ?_))
    obtain ⟨w3, hw3, e3⟩ := pk_andE r3 4 (m := 15) (by decide)
    refine nm_r (e' := nI (1 + w3)) (by rw [e3]; exact nI_add 1 w3) (nm_r (e' := nI 5) (by decide) (l_cell (j := 4) hL (by omega) (fun r4 => ?_)))
    obtain ⟨w4, hw4, e4⟩ := pk_andE r4 5 (m := 31) (by decide)
    refine nm_r (e' := nI (1 + w3 + w4)) (by rw [e4]; exact nI_add (1 + w3) w4) ⟨1 + w3 + w4 + 1, ?_⟩
    exact l_ops (N := N) (T := 1 + w2) (m := 1 + w3) (tot := 1 + w3 + w4) hL (by omega) (by omega) (l_fin (post := fun r => r = 1) (LS := L) (N := N) (T := 1 + w2) (m := 1 + w3) (tot := 1 + w3 + w4) (kc := 1 + 11) (ks := 15 + 704) (xs := xs) (seed := seed) rfl hL (by omega)) (1 + w3 + w4) 0 (by omega) 0 0 0 0 (fun _ => 0) RW (fun _ => 0) (fun _ => 0) pa pl (fun _ => 0) (fun _ => 0) (fun _ => 0) (fun _ => 0) (fun _ => 0) (fun _ => 0) (gl_0 (by omega) (by omega) (by omega) HX)
end
