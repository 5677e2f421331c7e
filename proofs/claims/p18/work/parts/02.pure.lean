/-! pure pictures: clamp, copies, comparison, the parts of the relation -/
def gc_cl (v lo hi : Int32) : Int32 := if v < lo then lo else if hi < v then hi else v
def gc_clL (v lo hi : Int64) : Int64 := if v < lo then lo else if hi < v then hi else v
/-- a with k cells from y on taken from s from x on -/
def gc_cp (a s : Nat → Int32) (x y k : Nat) : Nat → Int32 := fun j => if y ≤ j ∧ j < y + k then s (x + (j - y)) else a j
def gc_z : Nat → Int32 := fun _ => 0
theorem gc_cp0 (a s : Nat → Int32) (x y : Nat) : gc_cp a s x y 0 = a := by
  funext j
  exact if_neg (by omega)
theorem gc_cpS (a s : Nat → Int32) (x y i : Nat) : upd (gc_cp a s x y i) (y + i) (s (x + i)) = gc_cp a s x y (i + 1) := by
  funext j
  by_cases h : j = y + i
  · subst h
    have e : x + (y + i - y) = x + i := by omega
    simp only [upd, gc_cp, if_true]
    rw [if_pos (by omega), e]
  · simp only [upd, gc_cp]
    rw [if_neg h]
    by_cases h2 : y ≤ j ∧ j < y + i
    · rw [if_pos h2, if_pos (by omega)]
    · rw [if_neg h2, if_neg (by omega)]
theorem gc_cp_in {a s : Nat → Int32} {x y k i : Nat} (h : i < k) : gc_cp a s x y k (y + i) = s (x + i) := by
  have e : x + (y + i - y) = x + i := by omega
  simp only [gc_cp]
  rw [if_pos (by omega), e]
theorem gc_cp_out {a s : Nat → Int32} {x y k j : Nat} (h : j < y ∨ y + k ≤ j) : gc_cp a s x y k j = a j := by
  simp only [gc_cp]
  exact if_neg (by omega)
/-- the comparison of k columns from column i on -/
def gc_cmp (f g : Nat → Int32) : Nat → Nat → Int32
  | 0, _ => 0
  | k + 1, i => if f i = g i then gc_cmp f g k (i + 1) else if f i < g i then -1 else 1
theorem gc_cmp_self (f : Nat → Int32) : ∀ k i, gc_cmp f f k i = 0
  | 0, _ => rfl
  | k + 1, i => by
    rw [gc_cmp, if_pos rfl]
    exact gc_cmp_self f k (i + 1)
/-- dataset rows -/
def gc_D (N : Nat) (RW ds : Nat → Int32) : Prop := ∀ c, c < N → (∀ f, f < 6 → RW (c * 10 + f) = ds (c * 6 + f)) ∧ RW (c * 10 + 6) = 0 ∧ RW (c * 10 + 7) = nI c ∧ RW (c * 10 + 8) = 1 ∧ RW (c * 10 + 9) = 0
/-- vector rows -/
def gc_V (N : Nat) (RW vc : Nat → Int32) : Prop := ∀ c, c < N → (∀ f, f < 8 → RW ((8 + c) * 10 + f) = vc (c * 8 + f)) ∧ RW ((8 + c) * 10 + 7) = nI c ∧ RW ((8 + c) * 10 + 8) = 1 ∧ RW ((8 + c) * 10 + 9) = 0
/-- store rows -/
def gc_S (RW st sv sa : Nat → Int32) : Prop := ∀ e, e < 32 → (∀ f, f < 8 → RW ((16 + e) * 10 + f) = st (e * 8 + f)) ∧ RW ((16 + e) * 10 + 8) = sv e ∧ RW ((16 + e) * 10 + 9) = sa e ∧ (sv e = 0 ∨ sv e = 1)
/-- measures -/
def gc_M (ms off dl t1 t2 t3 t4 aj ig ct : Nat → Int64) : Prop := ∀ c, c < 8 → ms (c * 9 + 0) = off c ∧ ms (c * 9 + 1) = dl c ∧ ms (c * 9 + 2) = t1 c ∧ ms (c * 9 + 3) = t2 c ∧ ms (c * 9 + 4) = t3 c ∧ ms (c * 9 + 5) = t4 c ∧ ms (c * 9 + 6) = aj c ∧ ms (c * 9 + 7) = ig c ∧ ms (c * 9 + 8) = ct c
/-- ends and their clocks -/
def gc_E (N L : Nat) (ec la lb : Nat → Int32) : Prop := ∀ l, l < L → ec (2 * l) = la l ∧ ec (2 * l + 1) = lb l ∧ (∃ j, j < N ∧ la l = nI j) ∧ (∃ j, j < N ∧ lb l = nI j)
/-- delays -/
def gc_W (L : Nat) (ed da db : Nat → Int32) : Prop := ∀ l, l < L → ed (2 * l) = da l ∧ ed (2 * l + 1) = db l
def gc_P (N : Nat) (a b : Nat → Int32) : Prop := ∀ c, c < N → a c = b c
def gc_B (a : Nat → Int32) : Prop := ∀ l, a l = 0 ∨ a l = 1
section
variable {N : Nat} {RW RW' ds vc st sv sa : Nat → Int32}
theorem gc_Dfr (hN : N ≤ 8) (h : ∀ j, j < 80 → RW' j = RW j) (H : gc_D N RW ds) : gc_D N RW' ds := by
  intro c hc
  obtain ⟨h1, h2, h3, h4, h5⟩ := H c hc
  refine ⟨fun f hf => ?_, ?_, ?_, ?_, ?_⟩
  · rw [h _ (by omega)]; exact h1 f hf
  · rw [h _ (by omega)]; exact h2
  · rw [h _ (by omega)]; exact h3
  · rw [h _ (by omega)]; exact h4
  · rw [h _ (by omega)]; exact h5
theorem gc_Vfr (hN : N ≤ 8) (h : ∀ j, 80 ≤ j → j < 160 → RW' j = RW j) (H : gc_V N RW vc) : gc_V N RW' vc := by
  intro c hc
  obtain ⟨h1, h2, h3, h4⟩ := H c hc
  refine ⟨fun f hf => ?_, ?_, ?_, ?_⟩
  · rw [h _ (by omega) (by omega)]; exact h1 f hf
  · rw [h _ (by omega) (by omega)]; exact h2
  · rw [h _ (by omega) (by omega)]; exact h3
  · rw [h _ (by omega) (by omega)]; exact h4
theorem gc_Sfr (h : ∀ j, 160 ≤ j → RW' j = RW j) (H : gc_S RW st sv sa) : gc_S RW' st sv sa := by
  intro e he
  obtain ⟨h1, h2, h3, h4⟩ := H e he
  refine ⟨fun f hf => ?_, ?_, ?_, h4⟩
  · rw [h _ (by omega)]; exact h1 f hf
  · rw [h _ (by omega)]; exact h2
  · rw [h _ (by omega)]; exact h3
theorem gc_Dset {c f : Nat} (a : Int32) (hc : c < N) (hf : f < 6) (H : gc_D N RW ds) : gc_D N (upd RW (c * 10 + f) a) (upd ds (c * 6 + f) a) := by
  intro c' hc'
  obtain ⟨h1, h2, h3, h4, h5⟩ := H c' hc'
  refine ⟨fun g hg => ?_, ?_, ?_, ?_, ?_⟩
  · by_cases e : c' = c ∧ g = f
    · obtain ⟨rfl, rfl⟩ := e
      rw [pk_us, pk_us]
    · rw [pk_un (by omega), pk_un (by omega)]; exact h1 g hg
  · rw [pk_un (by omega)]; exact h2
  · rw [pk_un (by omega)]; exact h3
  · rw [pk_un (by omega)]; exact h4
  · rw [pk_un (by omega)]; exact h5
/-- a store cleared -/
theorem gc_Sclr {e : Nat} (he : e < 32) (H : gc_S RW st sv sa) : gc_S (gc_cp RW gc_z 0 ((16 + e) * 10) 10) (gc_cp st gc_z 0 (e * 8) 8) (upd sv e 0) (upd sa e 0) := by
  intro e' he'
  obtain ⟨h1, h2, h3, h4⟩ := H e' he'
  by_cases q : e' = e
  · subst q
    refine ⟨fun f hf => ?_, ?_, ?_, ?_⟩
    · rw [gc_cp_in (by omega), gc_cp_in hf]
    · rw [gc_cp_in (by omega), pk_us]; rfl
    · rw [gc_cp_in (by omega), pk_us]; rfl
    · rw [pk_us]; exact Or.inl rfl
  · refine ⟨fun f hf => ?_, ?_, ?_, ?_⟩
    · rw [gc_cp_out (by omega), gc_cp_out (by omega)]; exact h1 f hf
    · rw [gc_cp_out (by omega), pk_un q]; exact h2
    · rw [gc_cp_out (by omega), pk_un q]; exact h3
    · rw [pk_un q]; exact h4
/-- a vector taken into a store -/
theorem gc_Scpy {e c : Nat} (he : e < 32) (hc : c < N) (HV : gc_V N RW vc) (H : gc_S RW st sv sa) : gc_S (gc_cp RW RW ((8 + c) * 10) ((16 + e) * 10) 10) (gc_cp st vc (c * 8) (e * 8) 8) (upd sv e 1) (upd sa e 0) := by
  obtain ⟨g1, _, g3, g4⟩ := HV c hc
  intro e' he'
  obtain ⟨h1, h2, h3, h4⟩ := H e' he'
  by_cases q : e' = e
  · subst q
    refine ⟨fun f hf => ?_, ?_, ?_, ?_⟩
    · rw [gc_cp_in (by omega), gc_cp_in hf]; exact g1 f hf
    · rw [gc_cp_in (by omega), pk_us]; exact g3
    · rw [gc_cp_in (by omega), pk_us]; exact g4
    · rw [pk_us]; exact Or.inr rfl
  · refine ⟨fun f hf => ?_, ?_, ?_, ?_⟩
    · rw [gc_cp_out (by omega), gc_cp_out (by omega)]; exact h1 f hf
    · rw [gc_cp_out (by omega), pk_un q]; exact h2
    · rw [gc_cp_out (by omega), pk_un q]; exact h3
    · rw [pk_un q]; exact h4
/-- a store's age set -/
theorem gc_Sage {e : Nat} (a : Int32) (he : e < 32) (H : gc_S RW st sv sa) : gc_S (upd RW ((16 + e) * 10 + 9) a) st sv (upd sa e a) := by
  intro e' he'
  obtain ⟨h1, h2, h3, h4⟩ := H e' he'
  by_cases q : e' = e
  · subst q
    refine ⟨fun f hf => ?_, ?_, ?_, h4⟩
    · rw [pk_un (by omega)]; exact h1 f hf
    · rw [pk_un (by omega)]; exact h2
    · rw [pk_us, pk_us]
  · refine ⟨fun f hf => ?_, ?_, ?_, h4⟩
    · rw [pk_un (by omega)]; exact h1 f hf
    · rw [pk_un (by omega)]; exact h2
    · rw [pk_un (by omega), pk_un q]; exact h3
/-- a clock that follows itself -/
theorem gc_Vown {c : Nat} (hN : N ≤ 8) (hc : c < N) (HD : gc_D N RW ds) (H : gc_V N RW vc) : gc_V N (gc_cp RW RW (c * 10) ((8 + c) * 10) 10) (upd (upd (gc_cp vc ds (c * 6) (c * 8) 6) (c * 8 + 6) 0) (c * 8 + 7) (nI c)) := by
  obtain ⟨g1, g2, g3, g4, g5⟩ := HD c hc
  intro c' hc'
  obtain ⟨h1, h2, h3, h4⟩ := H c' hc'
  by_cases q : c' = c
  · subst q
    refine ⟨fun f hf => ?_, ?_, ?_, ?_⟩
    · rw [gc_cp_in (by omega)]
      rcases (by omega : f < 6 ∨ f = 6 ∨ f = 7) with h | rfl | rfl
      · rw [pk_un (by omega), pk_un (by omega), gc_cp_in h]; exact g1 f h
      · rw [pk_un (by omega), pk_us]; exact g2
      · rw [pk_us]; exact g3
    · rw [gc_cp_in (by omega)]; exact g3
    · rw [gc_cp_in (by omega)]; exact g4
    · rw [gc_cp_in (by omega)]; exact g5
  · refine ⟨fun f hf => ?_, ?_, ?_, ?_⟩
    · rw [gc_cp_out (by omega), pk_un (by omega), pk_un (by omega), gc_cp_out (by omega)]; exact h1 f hf
    · rw [gc_cp_out (by omega)]; exact h2
    · rw [gc_cp_out (by omega)]; exact h3
    · rw [gc_cp_out (by omega)]; exact h4
/-- a clock's vector out of a store -/
def gc_fR (RW : Nat → Int32) (c b : Nat) : Nat → Int32 := upd (upd (upd (gc_cp RW RW ((16 + b) * 10) ((8 + c) * 10) 10) ((8 + c) * 10 + 6) (RW ((16 + b) * 10 + 6) + 1)) ((8 + c) * 10 + 7) (nI c)) ((8 + c) * 10 + 9) 0
def gc_fV (vc st : Nat → Int32) (c b : Nat) : Nat → Int32 := upd (upd (gc_cp vc st (b * 8) (c * 8) 6) (c * 8 + 6) (st (b * 8 + 6) + 1)) (c * 8 + 7) (nI c)
theorem gc_fRout {c b j : Nat} (h : j < (8 + c) * 10 ∨ (8 + c) * 10 + 10 ≤ j) : gc_fR RW c b j = RW j := by
  unfold gc_fR
  rw [pk_un (by omega), pk_un (by omega), pk_un (by omega), gc_cp_out (by omega)]
theorem gc_Vfol {c b : Nat} (hN : N ≤ 8) (hc : c < N) (hb : b < 32) (HS : gc_S RW st sv sa) (h1v : sv b = 1) (H : gc_V N RW vc) : gc_V N (gc_fR RW c b) (gc_fV vc st c b) := by
  obtain ⟨g1, g2, g3, g4⟩ := HS b hb
  intro c' hc'
  obtain ⟨h1, h2, h3, h4⟩ := H c' hc'
  by_cases q : c' = c
  · subst q
    refine ⟨fun f hf => ?_, ?_, ?_, ?_⟩
    · unfold gc_fR gc_fV
      rcases (by omega : f < 6 ∨ f = 6 ∨ f = 7) with h | rfl | rfl
      · rw [pk_un (by omega), pk_un (by omega), pk_un (by omega), gc_cp_in (by omega), pk_un (by omega), pk_un (by omega), gc_cp_in h]; exact g1 f hf
      · rw [pk_un (by omega), pk_un (by omega), pk_us, pk_un (by omega), pk_us, g1 6 (by omega)]
      · rw [pk_un (by omega), pk_us, pk_us]
    · unfold gc_fR
      rw [pk_un (by omega), pk_us]
    · unfold gc_fR
      rw [pk_un (by omega), pk_un (by omega), pk_un (by omega), gc_cp_in (by omega), g2]; exact h1v
    · unfold gc_fR
      rw [pk_us]
  · refine ⟨fun f hf => ?_, ?_, ?_, ?_⟩
    · rw [gc_fRout (by omega)]
      unfold gc_fV
      rw [pk_un (by omega), pk_un (by omega), gc_cp_out (by omega)]; exact h1 f hf
    · rw [gc_fRout (by omega)]; exact h2
    · rw [gc_fRout (by omega)]; exact h3
    · rw [gc_fRout (by omega)]; exact h4
end
/-- the ends of clock c that are up, below i, given the state p of their own -/
def gc_fol (ec lu es p : Nat → Int32) (c i : Nat) : Nat → Int32 := fun e => if e < i ∧ ec e = nI c ∧ ¬ lu (e / 2) = 0 then p e else es e
theorem gc_fol0 (ec lu es p : Nat → Int32) (c : Nat) : gc_fol ec lu es p c 0 = es := by
  funext e
  exact if_neg (fun h => absurd h.1 (by omega))
theorem gc_folT {ec lu es p : Nat → Int32} {c i : Nat} (h : ec i = nI c) (h2 : ¬ lu (i / 2) = 0) : upd (gc_fol ec lu es p c i) i (p i) = gc_fol ec lu es p c (i + 1) := by
  funext e
  by_cases q : e = i
  · subst q
    rw [pk_us]
    exact (if_pos ⟨by omega, h, h2⟩).symm
  · rw [pk_un q]
    simp only [gc_fol]
    by_cases r : e < i
    · simp only [r, (by omega : e < i + 1), true_and]
    · rw [if_neg (fun z => r z.1), if_neg (fun z => absurd z.1 (by omega))]
theorem gc_folF {ec lu es p : Nat → Int32} {c i : Nat} (h : ¬ (ec i = nI c ∧ ¬ lu (i / 2) = 0)) : gc_fol ec lu es p c i = gc_fol ec lu es p c (i + 1) := by
  funext e
  by_cases q : e = i
  · subst q
    simp only [gc_fol]
    rw [if_neg (fun z => absurd z.1 (by omega)), if_neg (fun z => h z.2)]
  · simp only [gc_fol]
    by_cases r : e < i
    · simp only [r, (by omega : e < i + 1), true_and]
    · rw [if_neg (fun z => r z.1), if_neg (fun z => absurd z.1 (by omega))]
/-- the end that is followed, written last or in its turn -/
theorem gc_folB {ec lu es p q : Nat → Int32} {c i b : Nat} (hb : b < i) (h : ec b = nI c) (h2 : ¬ lu (b / 2) = 0) (hq : q b = 2) (hn : ∀ e, e ≠ b → q e = p e) : upd (gc_fol ec lu es p c i) b 2 = gc_fol ec lu es q c i := by
  funext e
  by_cases z : e = b
  · subst z
    rw [pk_us]
    exact (Eq.trans (if_pos ⟨hb, h, h2⟩) hq).symm
  · rw [pk_un z]
    simp only [gc_fol]
    rw [hn e z]
section
variable {ms off dl t1 t2 t3 t4 aj ig ct : Nat → Int64}
theorem gc_M0 {c : Nat} {v : Int64} (hc : c < 8) (H : gc_M ms off dl t1 t2 t3 t4 aj ig ct) : gc_M (vp_updL ms (c * 9 + 0) v) (vp_updL off c v) dl t1 t2 t3 t4 aj ig ct := by
  intro c' hc'
  obtain ⟨h0, h1, h2, h3, h4, h5, h6, h7, h8⟩ := H c' hc'
  by_cases q : c' = c
  · subst q
    refine ⟨?_, ?_, ?_, ?_, ?_, ?_, ?_, ?_, ?_⟩
    · rw [pk_uLs, pk_uLs]
    · rw [pk_uLn (by omega)]; exact h1
    · rw [pk_uLn (by omega)]; exact h2
    · rw [pk_uLn (by omega)]; exact h3
    · rw [pk_uLn (by omega)]; exact h4
    · rw [pk_uLn (by omega)]; exact h5
    · rw [pk_uLn (by omega)]; exact h6
    · rw [pk_uLn (by omega)]; exact h7
    · rw [pk_uLn (by omega)]; exact h8
  · refine ⟨?_, ?_, ?_, ?_, ?_, ?_, ?_, ?_, ?_⟩
    · rw [pk_uLn (by omega), pk_uLn q]; exact h0
    · rw [pk_uLn (by omega)]; exact h1
    · rw [pk_uLn (by omega)]; exact h2
    · rw [pk_uLn (by omega)]; exact h3
    · rw [pk_uLn (by omega)]; exact h4
    · rw [pk_uLn (by omega)]; exact h5
    · rw [pk_uLn (by omega)]; exact h6
    · rw [pk_uLn (by omega)]; exact h7
    · rw [pk_uLn (by omega)]; exact h8
theorem gc_M1 {c : Nat} {v : Int64} (hc : c < 8) (H : gc_M ms off dl t1 t2 t3 t4 aj ig ct) : gc_M (vp_updL ms (c * 9 + 1) v) off (vp_updL dl c v) t1 t2 t3 t4 aj ig ct := by
  intro c' hc'
  obtain ⟨h0, h1, h2, h3, h4, h5, h6, h7, h8⟩ := H c' hc'
  by_cases q : c' = c
  · subst q
    refine ⟨?_, ?_, ?_, ?_, ?_, ?_, ?_, ?_, ?_⟩
    · rw [pk_uLn (by omega)]; exact h0
    · rw [pk_uLs, pk_uLs]
    · rw [pk_uLn (by omega)]; exact h2
    · rw [pk_uLn (by omega)]; exact h3
    · rw [pk_uLn (by omega)]; exact h4
    · rw [pk_uLn (by omega)]; exact h5
    · rw [pk_uLn (by omega)]; exact h6
    · rw [pk_uLn (by omega)]; exact h7
    · rw [pk_uLn (by omega)]; exact h8
  · refine ⟨?_, ?_, ?_, ?_, ?_, ?_, ?_, ?_, ?_⟩
    · rw [pk_uLn (by omega)]; exact h0
    · rw [pk_uLn (by omega), pk_uLn q]; exact h1
    · rw [pk_uLn (by omega)]; exact h2
    · rw [pk_uLn (by omega)]; exact h3
    · rw [pk_uLn (by omega)]; exact h4
    · rw [pk_uLn (by omega)]; exact h5
    · rw [pk_uLn (by omega)]; exact h6
    · rw [pk_uLn (by omega)]; exact h7
    · rw [pk_uLn (by omega)]; exact h8
theorem gc_M2 {c : Nat} {v : Int64} (hc : c < 8) (H : gc_M ms off dl t1 t2 t3 t4 aj ig ct) : gc_M (vp_updL ms (c * 9 + 2) v) off dl (vp_updL t1 c v) t2 t3 t4 aj ig ct := by
  intro c' hc'
  obtain ⟨h0, h1, h2, h3, h4, h5, h6, h7, h8⟩ := H c' hc'
  by_cases q : c' = c
  · subst q
    refine ⟨?_, ?_, ?_, ?_, ?_, ?_, ?_, ?_, ?_⟩
    · rw [pk_uLn (by omega)]; exact h0
    · rw [pk_uLn (by omega)]; exact h1
    · rw [pk_uLs, pk_uLs]
    · rw [pk_uLn (by omega)]; exact h3
    · rw [pk_uLn (by omega)]; exact h4
    · rw [pk_uLn (by omega)]; exact h5
    · rw [pk_uLn (by omega)]; exact h6
    · rw [pk_uLn (by omega)]; exact h7
    · rw [pk_uLn (by omega)]; exact h8
  · refine ⟨?_, ?_, ?_, ?_, ?_, ?_, ?_, ?_, ?_⟩
    · rw [pk_uLn (by omega)]; exact h0
    · rw [pk_uLn (by omega)]; exact h1
    · rw [pk_uLn (by omega), pk_uLn q]; exact h2
    · rw [pk_uLn (by omega)]; exact h3
    · rw [pk_uLn (by omega)]; exact h4
    · rw [pk_uLn (by omega)]; exact h5
    · rw [pk_uLn (by omega)]; exact h6
    · rw [pk_uLn (by omega)]; exact h7
    · rw [pk_uLn (by omega)]; exact h8
theorem gc_M3 {c : Nat} {v : Int64} (hc : c < 8) (H : gc_M ms off dl t1 t2 t3 t4 aj ig ct) : gc_M (vp_updL ms (c * 9 + 3) v) off dl t1 (vp_updL t2 c v) t3 t4 aj ig ct := by
  intro c' hc'
  obtain ⟨h0, h1, h2, h3, h4, h5, h6, h7, h8⟩ := H c' hc'
  by_cases q : c' = c
  · subst q
    refine ⟨?_, ?_, ?_, ?_, ?_, ?_, ?_, ?_, ?_⟩
    · rw [pk_uLn (by omega)]; exact h0
    · rw [pk_uLn (by omega)]; exact h1
    · rw [pk_uLn (by omega)]; exact h2
    · rw [pk_uLs, pk_uLs]
    · rw [pk_uLn (by omega)]; exact h4
    · rw [pk_uLn (by omega)]; exact h5
    · rw [pk_uLn (by omega)]; exact h6
    · rw [pk_uLn (by omega)]; exact h7
    · rw [pk_uLn (by omega)]; exact h8
  · refine ⟨?_, ?_, ?_, ?_, ?_, ?_, ?_, ?_, ?_⟩
    · rw [pk_uLn (by omega)]; exact h0
    · rw [pk_uLn (by omega)]; exact h1
    · rw [pk_uLn (by omega)]; exact h2
    · rw [pk_uLn (by omega), pk_uLn q]; exact h3
    · rw [pk_uLn (by omega)]; exact h4
    · rw [pk_uLn (by omega)]; exact h5
    · rw [pk_uLn (by omega)]; exact h6
    · rw [pk_uLn (by omega)]; exact h7
    · rw [pk_uLn (by omega)]; exact h8
theorem gc_M4 {c : Nat} {v : Int64} (hc : c < 8) (H : gc_M ms off dl t1 t2 t3 t4 aj ig ct) : gc_M (vp_updL ms (c * 9 + 4) v) off dl t1 t2 (vp_updL t3 c v) t4 aj ig ct := by
  intro c' hc'
  obtain ⟨h0, h1, h2, h3, h4, h5, h6, h7, h8⟩ := H c' hc'
  by_cases q : c' = c
  · subst q
    refine ⟨?_, ?_, ?_, ?_, ?_, ?_, ?_, ?_, ?_⟩
    · rw [pk_uLn (by omega)]; exact h0
    · rw [pk_uLn (by omega)]; exact h1
    · rw [pk_uLn (by omega)]; exact h2
    · rw [pk_uLn (by omega)]; exact h3
    · rw [pk_uLs, pk_uLs]
    · rw [pk_uLn (by omega)]; exact h5
    · rw [pk_uLn (by omega)]; exact h6
    · rw [pk_uLn (by omega)]; exact h7
    · rw [pk_uLn (by omega)]; exact h8
  · refine ⟨?_, ?_, ?_, ?_, ?_, ?_, ?_, ?_, ?_⟩
    · rw [pk_uLn (by omega)]; exact h0
    · rw [pk_uLn (by omega)]; exact h1
    · rw [pk_uLn (by omega)]; exact h2
    · rw [pk_uLn (by omega)]; exact h3
    · rw [pk_uLn (by omega), pk_uLn q]; exact h4
    · rw [pk_uLn (by omega)]; exact h5
    · rw [pk_uLn (by omega)]; exact h6
    · rw [pk_uLn (by omega)]; exact h7
    · rw [pk_uLn (by omega)]; exact h8
theorem gc_M5 {c : Nat} {v : Int64} (hc : c < 8) (H : gc_M ms off dl t1 t2 t3 t4 aj ig ct) : gc_M (vp_updL ms (c * 9 + 5) v) off dl t1 t2 t3 (vp_updL t4 c v) aj ig ct := by
  intro c' hc'
  obtain ⟨h0, h1, h2, h3, h4, h5, h6, h7, h8⟩ := H c' hc'
  by_cases q : c' = c
  · subst q
    refine ⟨?_, ?_, ?_, ?_, ?_, ?_, ?_, ?_, ?_⟩
    · rw [pk_uLn (by omega)]; exact h0
    · rw [pk_uLn (by omega)]; exact h1
    · rw [pk_uLn (by omega)]; exact h2
    · rw [pk_uLn (by omega)]; exact h3
    · rw [pk_uLn (by omega)]; exact h4
    · rw [pk_uLs, pk_uLs]
    · rw [pk_uLn (by omega)]; exact h6
    · rw [pk_uLn (by omega)]; exact h7
    · rw [pk_uLn (by omega)]; exact h8
  · refine ⟨?_, ?_, ?_, ?_, ?_, ?_, ?_, ?_, ?_⟩
    · rw [pk_uLn (by omega)]; exact h0
    · rw [pk_uLn (by omega)]; exact h1
    · rw [pk_uLn (by omega)]; exact h2
    · rw [pk_uLn (by omega)]; exact h3
    · rw [pk_uLn (by omega)]; exact h4
    · rw [pk_uLn (by omega), pk_uLn q]; exact h5
    · rw [pk_uLn (by omega)]; exact h6
    · rw [pk_uLn (by omega)]; exact h7
    · rw [pk_uLn (by omega)]; exact h8
theorem gc_M6 {c : Nat} {v : Int64} (hc : c < 8) (H : gc_M ms off dl t1 t2 t3 t4 aj ig ct) : gc_M (vp_updL ms (c * 9 + 6) v) off dl t1 t2 t3 t4 (vp_updL aj c v) ig ct := by
  intro c' hc'
  obtain ⟨h0, h1, h2, h3, h4, h5, h6, h7, h8⟩ := H c' hc'
  by_cases q : c' = c
  · subst q
    refine ⟨?_, ?_, ?_, ?_, ?_, ?_, ?_, ?_, ?_⟩
    · rw [pk_uLn (by omega)]; exact h0
    · rw [pk_uLn (by omega)]; exact h1
    · rw [pk_uLn (by omega)]; exact h2
    · rw [pk_uLn (by omega)]; exact h3
    · rw [pk_uLn (by omega)]; exact h4
    · rw [pk_uLn (by omega)]; exact h5
    · rw [pk_uLs, pk_uLs]
    · rw [pk_uLn (by omega)]; exact h7
    · rw [pk_uLn (by omega)]; exact h8
  · refine ⟨?_, ?_, ?_, ?_, ?_, ?_, ?_, ?_, ?_⟩
    · rw [pk_uLn (by omega)]; exact h0
    · rw [pk_uLn (by omega)]; exact h1
    · rw [pk_uLn (by omega)]; exact h2
    · rw [pk_uLn (by omega)]; exact h3
    · rw [pk_uLn (by omega)]; exact h4
    · rw [pk_uLn (by omega)]; exact h5
    · rw [pk_uLn (by omega), pk_uLn q]; exact h6
    · rw [pk_uLn (by omega)]; exact h7
    · rw [pk_uLn (by omega)]; exact h8
theorem gc_M7 {c : Nat} {v : Int64} (hc : c < 8) (H : gc_M ms off dl t1 t2 t3 t4 aj ig ct) : gc_M (vp_updL ms (c * 9 + 7) v) off dl t1 t2 t3 t4 aj (vp_updL ig c v) ct := by
  intro c' hc'
  obtain ⟨h0, h1, h2, h3, h4, h5, h6, h7, h8⟩ := H c' hc'
  by_cases q : c' = c
  · subst q
    refine ⟨?_, ?_, ?_, ?_, ?_, ?_, ?_, ?_, ?_⟩
    · rw [pk_uLn (by omega)]; exact h0
    · rw [pk_uLn (by omega)]; exact h1
    · rw [pk_uLn (by omega)]; exact h2
    · rw [pk_uLn (by omega)]; exact h3
    · rw [pk_uLn (by omega)]; exact h4
    · rw [pk_uLn (by omega)]; exact h5
    · rw [pk_uLn (by omega)]; exact h6
    · rw [pk_uLs, pk_uLs]
    · rw [pk_uLn (by omega)]; exact h8
  · refine ⟨?_, ?_, ?_, ?_, ?_, ?_, ?_, ?_, ?_⟩
    · rw [pk_uLn (by omega)]; exact h0
    · rw [pk_uLn (by omega)]; exact h1
    · rw [pk_uLn (by omega)]; exact h2
    · rw [pk_uLn (by omega)]; exact h3
    · rw [pk_uLn (by omega)]; exact h4
    · rw [pk_uLn (by omega)]; exact h5
    · rw [pk_uLn (by omega)]; exact h6
    · rw [pk_uLn (by omega), pk_uLn q]; exact h7
    · rw [pk_uLn (by omega)]; exact h8
theorem gc_M8 {c : Nat} {v : Int64} (hc : c < 8) (H : gc_M ms off dl t1 t2 t3 t4 aj ig ct) : gc_M (vp_updL ms (c * 9 + 8) v) off dl t1 t2 t3 t4 aj ig (vp_updL ct c v) := by
  intro c' hc'
  obtain ⟨h0, h1, h2, h3, h4, h5, h6, h7, h8⟩ := H c' hc'
  by_cases q : c' = c
  · subst q
    refine ⟨?_, ?_, ?_, ?_, ?_, ?_, ?_, ?_, ?_⟩
    · rw [pk_uLn (by omega)]; exact h0
    · rw [pk_uLn (by omega)]; exact h1
    · rw [pk_uLn (by omega)]; exact h2
    · rw [pk_uLn (by omega)]; exact h3
    · rw [pk_uLn (by omega)]; exact h4
    · rw [pk_uLn (by omega)]; exact h5
    · rw [pk_uLn (by omega)]; exact h6
    · rw [pk_uLn (by omega)]; exact h7
    · rw [pk_uLs, pk_uLs]
  · refine ⟨?_, ?_, ?_, ?_, ?_, ?_, ?_, ?_, ?_⟩
    · rw [pk_uLn (by omega)]; exact h0
    · rw [pk_uLn (by omega)]; exact h1
    · rw [pk_uLn (by omega)]; exact h2
    · rw [pk_uLn (by omega)]; exact h3
    · rw [pk_uLn (by omega)]; exact h4
    · rw [pk_uLn (by omega)]; exact h5
    · rw [pk_uLn (by omega)]; exact h6
    · rw [pk_uLn (by omega)]; exact h7
    · rw [pk_uLn (by omega), pk_uLn q]; exact h8
end
