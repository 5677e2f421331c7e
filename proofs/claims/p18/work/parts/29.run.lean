/-! a step keeps the times within bounds; runs -/
def gt_A (N : Nat) (B : Int) (ti ms : Nat → Int64) : Prop := ∀ c, c < N → (-B ≤ (ti c).toInt ∧ (ti c).toInt ≤ B) ∧ (-500000 ≤ (ms (c * 9 + 6)).toInt ∧ (ms (c * 9 + 6)).toInt ≤ 500000)
def gt_D (L : Nat) (dr ed : Nat → Int32) : Prop := (∀ c, c < 8 → -100000 ≤ (dr c).toInt ∧ (dr c).toInt ≤ 100000) ∧ ∀ e, e < 2 * L → 0 ≤ (ed e).toInt ∧ (ed e).toInt ≤ 10000000
theorem gt_cl {v : Int64} : -500000 ≤ (gc_clL v (-500000) 500000).toInt ∧ (gc_clL v (-500000) 500000).toInt ≤ 500000 := by
  have a : (-500000 : Int64).toInt = -500000 := by decide
  have b : (500000 : Int64).toInt = 500000 := by decide
  unfold gc_clL
  by_cases h1 : v < -500000
  · rw [if_pos h1, a]; omega
  · rw [if_neg h1]
    by_cases h2 : 500000 < v
    · rw [if_pos h2, b]; omega
    · rw [if_neg h2]
      rw [Int64.lt_iff_toInt_lt, a] at h1
      rw [Int64.lt_iff_toInt_lt, b] at h2
      omega
section
variable {N C L : Nat} {tm : Int32} {RW dr pa pl md lu ec es ed : Nat → Int32} {ti ms : Nat → Int64}
/-- a clock that was measured was measured at an end of its own -/
theorem gt_md {c : Nat} (hL : L ≤ 16) (h : ¬ (gs_meas L pl lu ec es ed ti c (md, ms)).1 c = 0) : ∃ e, e < 2 * L ∧ gs_end L ec c (pl c) = some e ∧ gs_meas L pl lu ec es ed ti c (md, ms) = (upd md c 1, gs_ms ec ed ti ms c e) := by
  unfold gs_meas at h ⊢
  cases hq : gs_end L ec c (pl c) with
  | none =>
    rw [hq] at h
    exact absurd pk_us h
  | some e =>
    rw [hq] at h
    dsimp only at h ⊢
    by_cases s : ¬ lu (e / 2) = 0 ∧ es e = 2 ∧ es (gc_ot e) = 1
    · rw [if_pos s]
      exact ⟨e, gs_end_lt hL hq, rfl, rfl⟩
    · rw [if_neg s] at h
      exact absurd pk_us h
theorem gt_m6 {c : Nat} : (gs_meas L pl lu ec es ed ti c (md, ms)).2 (c * 9 + 6) = ms (c * 9 + 6) := by
  unfold gs_meas
  cases gs_end L ec c (pl c) with
  | none => rfl
  | some e =>
    dsimp only
    split
    · exact gt_ms6
    · rfl
theorem gt_st1 (c : Nat) : ((gs_steer md c (ti, ms)).1 c = ti c ∨ (¬ md c = 0 ∧ (gs_steer md c (ti, ms)).1 c = ti c - ms (c * 9 + 0))) ∧ ((gs_steer md c (ti, ms)).2 (c * 9 + 6) = ms (c * 9 + 6) ∨ (-500000 ≤ ((gs_steer md c (ti, ms)).2 (c * 9 + 6)).toInt ∧ ((gs_steer md c (ti, ms)).2 (c * 9 + 6)).toInt ≤ 500000)) ∧ ∀ w, w < 9 → w ≠ 6 → w ≠ 7 → (gs_steer md c (ti, ms)).2 (c * 9 + w) = ms (c * 9 + w) := by
  unfold gs_steer
  by_cases a : md c = 0
  · rw [if_pos a]
    exact ⟨Or.inl rfl, Or.inl rfl, fun w _ _ _ => rfl⟩
  · rw [if_neg a]
    dsimp only
    by_cases b : 1000000 < ms (c * 9 + 0) ∨ ms (c * 9 + 0) < -1000000
    · rw [if_pos b]
      exact ⟨Or.inr ⟨a, pk_uLs⟩, Or.inl rfl, fun w _ _ _ => rfl⟩
    · rw [if_neg b]
      refine ⟨Or.inl rfl, Or.inr ?_, fun w hw h6 h7 => ?_⟩
      · dsimp only
        rw [pk_uLs]; exact gt_cl
      · dsimp only
        rw [pk_uLn (by omega), pk_uLn (by omega)]
theorem gt_sum {B : Int} {x dd aa : Int64} (hB : B ≤ 2 ^ 58) (h0 : 0 ≤ B) (hx : -(B + 10000001) ≤ x.toInt ∧ x.toInt ≤ B + 10000001) (hd : -100000 ≤ dd.toInt ∧ dd.toInt ≤ 100000) (ha : -500000 ≤ aa.toInt ∧ aa.toInt ≤ 500000) : -(B + 2147483648) ≤ (x + 1000000000 + dd + aa).toInt ∧ (x + 1000000000 + dd + aa).toInt ≤ B + 2147483648 := by
  have l : (1000000000 : Int64).toInt = 1000000000 := by decide
  have e1 : (x + 1000000000).toInt = x.toInt + 1000000000 := by rw [iv_add (by omega) (by omega), l]
  have e2 : (x + 1000000000 + dd).toInt = x.toInt + 1000000000 + dd.toInt := by rw [iv_add (by omega) (by omega), e1]
  have e3 : (x + 1000000000 + dd + aa).toInt = x.toInt + 1000000000 + dd.toInt + aa.toInt := by rw [iv_add (by omega) (by omega), e2]
  omega
theorem gt_jump {B : Int} {tc o : Int64} {p a b : Int} (hB : B ≤ 2 ^ 58) (h0 : 0 ≤ B) (h1 : -B ≤ tc.toInt ∧ tc.toInt ≤ B) (h2 : -B ≤ p ∧ p ≤ B) (ha : 0 ≤ a ∧ a ≤ 10000000) (hb : 0 ≤ b ∧ b ≤ 10000000) (ho : o.toInt = (2 * (tc.toInt - p) + (a - b)).tdiv 2) : -(B + 10000001) ≤ (tc - o).toInt ∧ (tc - o).toInt ≤ B + 10000001 := by
  have hb2 := iv_hb (x := 2 * (tc.toInt - p) + (a - b)) (y := 4 * B + 10000000) (by omega) (by omega)
  rw [← ho] at hb2
  rw [iv_sub (by omega) (by omega)]
  omega
theorem gt_step {B : Int} (K : gx_ok N L lu ec) (hB : B ≤ 2 ^ 57) (h0 : 0 ≤ B) (HA : gt_A N B ti ms) (HD : gt_D L dr ed) :
    gt_A N (B + 2147483648) (gs_it (gs_adv dr (gs_it (gs_steer (gs_it (gs_meas L pl lu ec es ed ti) N 0 (md, ms)).1) N 0 (ti, (gs_it (gs_meas L pl lu ec es ed ti) N 0 (md, ms)).2)).2) N 0 (gs_it (gs_steer (gs_it (gs_meas L pl lu ec es ed ti) N 0 (md, ms)).1) N 0 (ti, (gs_it (gs_meas L pl lu ec es ed ti) N 0 (md, ms)).2)).1) (gs_it (gs_steer (gs_it (gs_meas L pl lu ec es ed ti) N 0 (md, ms)).1) N 0 (ti, (gs_it (gs_meas L pl lu ec es ed ti) N 0 (md, ms)).2)).2 := by
  intro c hcN
  have hc : c < 8 := by have := K.2.1; omega
  obtain ⟨hti, ham⟩ := HA c hcN
  rw [gt_adv, if_pos hcN]
  obtain ⟨m1, m2⟩ := gt_meas (N := N) (L := L) (lu := lu) (ec := ec) (es := es) (ed := ed) (pl := pl) (md := md) (ti := ti) (ms := ms) hcN
  generalize gs_it (gs_meas L pl lu ec es ed ti) N 0 (md, ms) = s1 at m1 m2 ⊢
  obtain ⟨t1, t2⟩ := gt_steer (N := N) (md := s1.1) (ti := ti) (ms := s1.2) hcN
  generalize gs_it (gs_steer s1.1) N 0 (ti, s1.2) = s2 at t1 t2 ⊢
  obtain ⟨g1, g2, _⟩ := gt_st1 (md := s1.1) (ti := ti) (ms := s1.2) c
  rw [← t1] at g1
  rw [← t2 6 (by omega), m2 6 (by omega), gt_m6] at g2
  have adj : -500000 ≤ (s2.2 (c * 9 + 6)).toInt ∧ (s2.2 (c * 9 + 6)).toInt ≤ 500000 := by
    rcases g2 with z | z
    · rw [z]; exact ham
    · exact z
  refine ⟨gt_sum (by omega) h0 ?_ (by rw [Int32.toInt_toInt64]; exact HD.1 c hc) adj, adj⟩
  rcases g1 with z | ⟨z0, z⟩
  · rw [z]; omega
  · rw [z]
    rw [m1] at z0
    obtain ⟨e, he, _, q⟩ := gt_md K.2.2.1 z0
    have ho := gc_otlt he
    obtain ⟨j, hj, ej⟩ := K.2.2.2.2 _ ho
    have hN := K.2.1
    have ov : s1.2 (c * 9 + 0) = gt_off ec ed ti c e := by
      rw [m2 0 (by omega), q]
      exact gt_ms0
    rw [ov]
    obtain ⟨hp, _⟩ := HA j (by omega)
    have d1 := HD.2 e he
    have d2 := HD.2 _ ho
    refine gt_jump (by omega) h0 hti hp d2 d1 ?_
    unfold gt_off
    rw [ej, nI_clamp (by omega), (iv_off (B := B) (by omega) hti hp (by rw [Int32.toInt_toInt64]; exact d2) (by rw [Int32.toInt_toInt64]; exact d1)).1, Int32.toInt_toInt64, Int32.toInt_toInt64]
end
/-- the states of a run: S t after t steps -/
def gq_S (N L : Nat) (tm : Int32) (lu ec : Nat → Int32) (s0 : (Nat → Int32) × (Nat → Int32) × (Nat → Int32) × (Nat → Int32)) : Nat → (Nat → Int32) × (Nat → Int32) × (Nat → Int32) × (Nat → Int32)
  | 0 => s0
  | t + 1 => gb_step N L tm lu ec (gq_S N L tm lu ec s0 t)
def gq_Q (N C L : Nat) (tm : Int32) (dr lu ec ed : Nat → Int32) (s0 : (Nat → Int32) × (Nat → Int32) × (Nat → Int32) × (Nat → Int32)) (B : Int) (t : Nat) (u : St2) : Prop :=
  ∃ ti ms md, u = gx N C L tm (gq_S N L tm lu ec s0 t).1 dr ti (gq_S N L tm lu ec s0 t).2.1 (gq_S N L tm lu ec s0 t).2.2.1 ms md lu ec (gq_S N L tm lu ec s0 t).2.2.2 ed ∧ (B + 2147483648 * t ≤ 2 ^ 57 → gt_A N (B + 2147483648 * t) ti ms)
section
variable {N C L : Nat} {tm : Int32} {RW dr pa pl md lu ec es ed : Nat → Int32} {ti ms : Nat → Int64} {s0 : (Nat → Int32) × (Nat → Int32) × (Nat → Int32) × (Nat → Int32)} {B : Int}
theorem gq_step (K : gx_ok N L lu ec) (h0 : 0 ≤ B) (HD : gt_D L dr ed) : ∀ t u, gq_Q N C L tm dr lu ec ed s0 B t u → ∃ u', gq_Q N C L tm dr lu ec ed s0 B (t + 1) u' ∧ ∀ post : St2 → Prop, post u' → wpX_step post u := by
  rintro t u ⟨ti, ms, md, rfl, HA⟩
  refine ⟨_, ⟨_, _, _, rfl, fun hb => ?_⟩, fun post h => x_step K h⟩
  have e : B + 2147483648 * ((t + 1 : Nat) : Int) = B + 2147483648 * t + 2147483648 := by omega
  rw [e]
  exact gt_step K (by omega) (by omega) (HA (by omega)) HD
theorem gq_run {k : Nat} (K : gx_ok N L lu ec) (h0 : 0 ≤ B) (HD : gt_D L dr ed) (hk : k ≤ 64) {t : Nat} {u : St2} (I : gq_Q N C L tm dr lu ec ed s0 B t u) : ∃ u', gq_Q N C L tm dr lu ec ed s0 B (t + k) u' ∧ ∀ post : Int32 → St2 → Prop, post (nI k) u' → wpX_run post u (nI k) :=
  x_run (gq_step K h0 HD) hk I
theorem x_run1 {post : Int32 → St2 → Prop} (K : gx_ok N L lu ec) (h : post 1 (gs_stX N C L tm RW dr ti pa pl ms md lu ec es ed)) : wpX_run post (gx N C L tm RW dr ti pa pl ms md lu ec es ed) 1 := by
  unfold wpX_run
  refine x_clamp ?_
  rw [show gc_cl 1 0 64 = nI 1 by decide]
  exact ⟨2, br_f (by decide) (x_step K (nm_r (show (0 : Int32) + 1 = nI 1 by decide) (br_t (nI_le (by omega) (by omega)) h)))⟩
end
