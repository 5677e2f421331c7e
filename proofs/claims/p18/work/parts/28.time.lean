/-! the times and the measures, clock by clock -/
theorem gt_gen {σ α : Type} (f : Nat → σ → σ) (cell : σ → Nat → α) (hfr : ∀ i d s, d ≠ i → cell (f i s) d = cell s d) (hcg : ∀ i s s', cell s i = cell s' i → cell (f i s) i = cell (f i s') i) (n : Nat) (s : σ) (c : Nat) : cell (gs_it f n 0 s) c = if c < n then cell (f c s) c else cell s c := by
  have H := gb_inv f n (fun i r => cell r c = if c < i then cell (f c s) c else cell s c) (by
    intro i r hi h
    by_cases q : c = i
    · subst q
      rw [if_neg (by omega)] at h
      rw [if_pos (by omega)]
      exact hcg c r s h
    · rw [hfr i c r q, h]
      by_cases z : c < i
      · rw [if_pos z, if_pos (by omega)]
      · rw [if_neg z, if_neg (by omega)]) n 0 s (by omega) (if_neg (by omega)).symm
  exact H
/-- a clock's row of measures -/
def gt_row (ms : Nat → Int64) (c : Nat) : Nat → Int64 := fun w => if w < 9 then ms (c * 9 + w) else 0
theorem gt_row_at {ms ms' : Nat → Int64} {c w : Nat} (h : gt_row ms c = gt_row ms' c) (hw : w < 9) : ms (c * 9 + w) = ms' (c * 9 + w) := by
  have := congrFun h w
  unfold gt_row at this
  rw [if_pos hw, if_pos hw] at this
  exact this
theorem gt_row_eq {ms ms' : Nat → Int64} {c : Nat} (h : ∀ w, w < 9 → ms (c * 9 + w) = ms' (c * 9 + w)) : gt_row ms c = gt_row ms' c := by
  funext w
  unfold gt_row
  by_cases q : w < 9
  · rw [if_pos q, if_pos q]; exact h w q
  · rw [if_neg q, if_neg q]
section
variable {N L : Nat} {lu ec es ed pl md dr : Nat → Int32} {ti ms : Nat → Int64}
theorem gt_msf {c e j : Nat} (h : j < c * 9 ∨ c * 9 + 9 ≤ j) : gs_ms ec ed ti ms c e j = ms j := by
  simp only [gs_ms]
  rw [pk_uLn (by omega), pk_uLn (by omega), pk_uLn (by omega), pk_uLn (by omega), pk_uLn (by omega), pk_uLn (by omega), pk_uLn (by omega)]
def gt_off (ec ed : Nat → Int32) (ti : Nat → Int64) (c e : Nat) : Int64 := (((ti c + (ed (gc_ot e)).toInt64) - ti (ec (gc_ot e)).toNatClampNeg) - ((ti (ec (gc_ot e)).toNatClampNeg + (ed (gc_ot e)).toInt64 + (ed e).toInt64) - (ti c + (ed (gc_ot e)).toInt64))) / 2
def gt_dly (ec ed : Nat → Int32) (ti : Nat → Int64) (c e : Nat) : Int64 := (((ti c + (ed (gc_ot e)).toInt64) - ti (ec (gc_ot e)).toNatClampNeg) + ((ti (ec (gc_ot e)).toNatClampNeg + (ed (gc_ot e)).toInt64 + (ed e).toInt64) - (ti c + (ed (gc_ot e)).toInt64))) / 2
theorem gt_ms0 {c e : Nat} : gs_ms ec ed ti ms c e (c * 9 + 0) = gt_off ec ed ti c e := by
  simp only [gs_ms]
  rw [pk_uLn (by omega), pk_uLn (by omega), pk_uLn (by omega), pk_uLn (by omega), pk_uLn (by omega), pk_uLn (by omega), pk_uLs]
  rfl
theorem gt_ms1 {c e : Nat} : gs_ms ec ed ti ms c e (c * 9 + 1) = gt_dly ec ed ti c e := by
  simp only [gs_ms]
  rw [pk_uLn (by omega), pk_uLn (by omega), pk_uLn (by omega), pk_uLn (by omega), pk_uLn (by omega), pk_uLs]
  rfl
theorem gt_ms8 {c e : Nat} : gs_ms ec ed ti ms c e (c * 9 + 8) = ms (c * 9 + 8) + 1 := by
  simp only [gs_ms]
  rw [pk_uLs, pk_uLn (by omega), pk_uLn (by omega), pk_uLn (by omega), pk_uLn (by omega), pk_uLn (by omega), pk_uLn (by omega)]
theorem gt_ms6 {c e : Nat} : gs_ms ec ed ti ms c e (c * 9 + 6) = ms (c * 9 + 6) := by
  simp only [gs_ms]
  rw [pk_uLn (by omega), pk_uLn (by omega), pk_uLn (by omega), pk_uLn (by omega), pk_uLn (by omega), pk_uLn (by omega), pk_uLn (by omega)]
theorem gt_msc {ms' : Nat → Int64} {c e : Nat} (h : gt_row ms c = gt_row ms' c) : gt_row (gs_ms ec ed ti ms c e) c = gt_row (gs_ms ec ed ti ms' c e) c := by
  apply gt_row_eq
  intro w hw
  have h8 := gt_row_at h (w := 8) (by omega)
  by_cases q8 : w = 8
  · subst q8; rw [gt_ms8, gt_ms8, h8]
  · have hb := gt_row_at h hw
    have q : ¬ c * 9 + w = c * 9 + 8 := by omega
    simp only [gs_ms, vp_updL]
    rw [if_neg q, if_neg q, hb]
/-- what a clock measures in a step -/
theorem gt_meas {c : Nat} (hc : c < N) : (gs_it (gs_meas L pl lu ec es ed ti) N 0 (md, ms)).1 c = (gs_meas L pl lu ec es ed ti c (md, ms)).1 c ∧ ∀ w, w < 9 → (gs_it (gs_meas L pl lu ec es ed ti) N 0 (md, ms)).2 (c * 9 + w) = (gs_meas L pl lu ec es ed ti c (md, ms)).2 (c * 9 + w) := by
  have H := gt_gen (gs_meas L pl lu ec es ed ti) (fun s c => (s.1 c, gt_row s.2 c)) (by
    intro i d s hd
    unfold gs_meas
    have a : ∀ x : Int32, upd s.1 i x d = s.1 d := fun x => pk_un hd
    have b : ∀ e, gt_row (gs_ms ec ed ti s.2 i e) d = gt_row s.2 d := fun e => gt_row_eq (fun w hw => gt_msf (by omega))
    cases gs_end L ec i (pl i) with
    | none => dsimp only; rw [a]
    | some e =>
      dsimp only
      split
      · dsimp only; rw [a, b]
      · dsimp only; rw [a]) (by
    intro i s s' h
    have h2 : gt_row s.2 i = gt_row s'.2 i := congrArg Prod.snd h
    unfold gs_meas
    cases gs_end L ec i (pl i) with
    | none => dsimp only; rw [pk_us, pk_us, h2]
    | some e =>
      dsimp only
      split
      · dsimp only; rw [pk_us, pk_us, gt_msc h2]
      · dsimp only; rw [pk_us, pk_us, h2]) N (md, ms) c
  rw [if_pos hc] at H
  exact ⟨congrArg Prod.fst H, fun w hw => gt_row_at (congrArg Prod.snd H) hw⟩
theorem gt_steer {c : Nat} (hc : c < N) : (gs_it (gs_steer md) N 0 (ti, ms)).1 c = (gs_steer md c (ti, ms)).1 c ∧ ∀ w, w < 9 → (gs_it (gs_steer md) N 0 (ti, ms)).2 (c * 9 + w) = (gs_steer md c (ti, ms)).2 (c * 9 + w) := by
  have H := gt_gen (gs_steer md) (fun s c => (s.1 c, gt_row s.2 c)) (by
    intro i d s hd
    unfold gs_steer
    split
    · rfl
    · split
      · dsimp only; rw [pk_uLn hd]
      · dsimp only
        rw [gt_row_eq (ms' := s.2) (fun w hw => by rw [pk_uLn (by omega), pk_uLn (by omega)])]) (by
    intro i s s' h
    have h1 : s.1 i = s'.1 i := congrArg Prod.fst h
    have h2 : gt_row s.2 i = gt_row s'.2 i := congrArg Prod.snd h
    have e0 := gt_row_at h2 (w := 0) (by omega)
    have e7 := gt_row_at h2 (w := 7) (by omega)
    unfold gs_steer
    rw [e0, e7]
    split
    · exact h
    · split
      · dsimp only; rw [pk_uLs, pk_uLs, h1, h2]
      · dsimp only
        rw [h1, gt_row_eq (fun w hw => ?_)]
        have ew := gt_row_at h2 hw
        simp only [vp_updL]
        rw [ew]) N (ti, ms) c
  rw [if_pos hc] at H
  exact ⟨congrArg Prod.fst H, fun w hw => gt_row_at (congrArg Prod.snd H) hw⟩
theorem gt_adv (c : Nat) : gs_it (gs_adv dr ms) N 0 ti c = if c < N then ti c + 1000000000 + (dr c).toInt64 + ms (c * 9 + 6) else ti c := by
  have H := gt_gen (gs_adv dr ms) (fun (s : Nat → Int64) c => s c) (fun i d s hd => pk_uLn hd) (by
    intro i s s' h
    show vp_updL s i _ i = vp_updL s' i _ i
    have h' : s i = s' i := h
    rw [pk_uLs, pk_uLs, h']) N ti c
  refine H.trans ?_
  split
  · show vp_updL ti c _ c = _
    rw [pk_uLs]
  · rfl
end
/-! bounds -/
theorem iv_add {a b : Int64} (h1 : -(2 ^ 62) ≤ a.toInt + b.toInt) (h2 : a.toInt + b.toInt ≤ 2 ^ 62) : (a + b).toInt = a.toInt + b.toInt := by
  rw [Int64.toInt_add]
  exact Int.bmod_eq_of_le (by omega) (by omega)
theorem iv_sub {a b : Int64} (h1 : -(2 ^ 62) ≤ a.toInt - b.toInt) (h2 : a.toInt - b.toInt ≤ 2 ^ 62) : (a - b).toInt = a.toInt - b.toInt := by
  rw [Int64.toInt_sub]
  exact Int.bmod_eq_of_le (by omega) (by omega)
theorem iv_half {a : Int64} : (a / 2).toInt = a.toInt.tdiv 2 := by
  rw [Int64.toInt_div_of_ne_right a 2 (by decide)]
  rfl
theorem iv_hb {x y : Int} (h1 : -y ≤ x) (h2 : x ≤ y) : -y ≤ 2 * x.tdiv 2 ∧ 2 * x.tdiv 2 ≤ y ∧ x - 1 ≤ 2 * x.tdiv 2 ∧ 2 * x.tdiv 2 ≤ x + 1 := by
  rcases Int.le_total 0 x with h | h
  · rw [Int.tdiv_eq_ediv_of_nonneg h]; omega
  · obtain ⟨z, rfl⟩ : ∃ z, x = -z := ⟨-x, by omega⟩
    rw [Int.neg_tdiv, Int.tdiv_eq_ediv_of_nonneg (by omega)]; omega
/-- the offset within bounds -/
theorem iv_off {B : Int} {tc tp a b : Int64} (hB : B ≤ 2 ^ 58) (h1 : -B ≤ tc.toInt ∧ tc.toInt ≤ B) (h2 : -B ≤ tp.toInt ∧ tp.toInt ≤ B) (ha : 0 ≤ a.toInt ∧ a.toInt ≤ 10000000) (hb : 0 ≤ b.toInt ∧ b.toInt ≤ 10000000) :
    ((((tc + a) - tp) - ((tp + a + b) - (tc + a))) / 2).toInt = (2 * (tc.toInt - tp.toInt) + (a.toInt - b.toInt)).tdiv 2 ∧ ((((tc + a) - tp) + ((tp + a + b) - (tc + a))) / 2).toInt = (a.toInt + b.toInt).tdiv 2 := by
  have e1 : (tc + a).toInt = tc.toInt + a.toInt := iv_add (by omega) (by omega)
  have e2 : (tc + a - tp).toInt = tc.toInt + a.toInt - tp.toInt := by rw [iv_sub (by omega) (by omega), e1]
  have e3 : (tp + a).toInt = tp.toInt + a.toInt := iv_add (by omega) (by omega)
  have e4 : (tp + a + b).toInt = tp.toInt + a.toInt + b.toInt := by rw [iv_add (by omega) (by omega), e3]
  have e5 : (tp + a + b - (tc + a)).toInt = tp.toInt + b.toInt - tc.toInt := by rw [iv_sub (by omega) (by omega), e4, e1]; omega
  constructor
  · rw [iv_half, iv_sub (by omega) (by omega), e2, e5]
    congr 1; omega
  · rw [iv_half, iv_add (by omega) (by omega), e2, e5]
    congr 1; omega
