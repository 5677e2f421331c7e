/-! the component's small methods -/
abbrev gx (N C L : Nat) (tm : Int32) (RW dr : Nat → Int32) (ti : Nat → Int64) (pa pl : Nat → Int32) (ms : Nat → Int64) (md lu ec es ed : Nat → Int32) : St2 := (nI N, nI C, tm, nI L, RW, dr, ti, pa, pl, ms, md, lu, ec, es, ed)
/-- what stays as it is through a step -/
def gx_ok (N L : Nat) (lu ec : Nat → Int32) : Prop := 2 ≤ N ∧ N ≤ 8 ∧ L ≤ 16 ∧ (∀ l, lu l = 0 ∨ lu l = 1) ∧ ∀ e, e < 2 * L → ∃ j, j < N ∧ ec e = nI j
theorem x_clamp {post : Int32 → Prop} {v lo hi : Int32} (h : post (gc_cl v lo hi)) : wpX_clamp post () v lo hi := by
  unfold gc_cl at h
  by_cases h1 : v < lo
  · rw [if_pos h1] at h
    exact br_f (Int32.not_le.mpr h1) h
  · rw [if_neg h1] at h
    refine br_t (Int32.not_lt.mp h1) ?_
    by_cases h2 : hi < v
    · rw [if_pos h2] at h
      exact br_f (Int32.not_le.mpr h2) h
    · rw [if_neg h2] at h
      exact br_t (Int32.not_lt.mp h2) h
theorem x_clampL {post : Int64 → Prop} {v lo hi : Int64} (h : post (gc_clL v lo hi)) : wpX_clampLong post () v lo hi := by
  unfold gc_clL at h
  by_cases h1 : v < lo
  · rw [if_pos h1] at h
    exact br_f (Int64.not_le.mpr h1) h
  · rw [if_neg h1] at h
    refine br_t (Int64.not_lt.mp h1) ?_
    by_cases h2 : hi < v
    · rw [if_pos h2] at h
      exact br_f (Int64.not_le.mpr h2) h
    · rw [if_neg h2] at h
      exact br_t (Int64.not_lt.mp h2) h
theorem x_firstEnd {post : Int32 → Prop} {l : Nat} (h : post (nI (2 * l))) : wpX_firstEnd post () (nI l) := by
  unfold wpX_firstEnd
  rw [ix_2m]
  exact h
theorem x_otherEnd {post : Int32 → Prop} {e : Nat} (he : e < 32) (h : post (nI (gc_ot e))) : wpX_otherEnd post () (nI e) := by
  unfold wpX_otherEnd
  rw [ix_x1 he]
  exact h
theorem x_linkOf {post : Int32 → Prop} {e : Nat} (he : e < 32) (h : post (nI (e / 2))) : wpX_linkOf post () (nI e) := by
  unfold wpX_linkOf
  rw [ix_d2 (by omega)]
  exact ⟨by decide, h⟩
theorem x_datasetRow {post : Int32 → Prop} {c : Nat} (h : post (nI (c * 10))) : wpX_datasetRow post () (nI c) := by
  unfold wpX_datasetRow
  rw [ix_m10]
  exact h
theorem x_vectorRow {post : Int32 → Prop} {c : Nat} (h : post (nI ((8 + c) * 10))) : wpX_vectorRow post () (nI c) := by
  unfold wpX_vectorRow
  rw [ix_8a, ix_m10]
  exact h
theorem x_storeRow {post : Int32 → Prop} {e : Nat} (h : post (nI ((16 + e) * 10))) : wpX_storeRow post () (nI e) := by
  unfold wpX_storeRow
  rw [ix_16a, ix_m10]
  exact h
theorem x_measureRow {post : Int32 → Prop} {c : Nat} (h : post (nI (c * 9))) : wpX_measureRow post () (nI c) := by
  unfold wpX_measureRow
  rw [ix_m9]
  exact h
section
variable {N C L : Nat} {tm : Int32} {RW dr pa pl md lu ec es ed : Nat → Int32} {ti ms : Nat → Int64}
theorem x_isClock_t {post : Int32 → Prop} {c : Nat} (hN : N ≤ 8) (hc : c < N) (h : post 1) : wpX_isClock post (gx N C L tm RW dr ti pa pl ms md lu ec es ed) (nI c) :=
  br_f (nI_pos (by omega)) (br_f (nI_ge hc (by omega)) h)
theorem x_isClock_f {post : Int32 → Prop} {x : Int32} (hx : x < 0 ∨ nI N ≤ x) (h : post 0) : wpX_isClock post (gx N C L tm RW dr ti pa pl ms md lu ec es ed) x := by
  by_cases q : x < 0
  · exact br_t q h
  · exact br_f q (br_t (hx.resolve_left q) h)
theorem x_isLink_t {post : Int32 → Prop} {l : Nat} (hL : L ≤ 16) (hl : l < L) (h : post 1) : wpX_isLink post (gx N C L tm RW dr ti pa pl ms md lu ec es ed) (nI l) :=
  br_f (nI_pos (by omega)) (br_f (nI_ge hl (by omega)) h)
theorem x_isLink_f {post : Int32 → Prop} {x : Int32} (hx : x < 0 ∨ nI L ≤ x) (h : post 0) : wpX_isLink post (gx N C L tm RW dr ti pa pl ms md lu ec es ed) x := by
  by_cases q : x < 0
  · exact br_t q h
  · exact br_f q (br_t (hx.resolve_left q) h)
theorem x_endOf_f {post : Int32 → Prop} {x y : Int32} (hx : x < 0 ∨ nI N ≤ x) (h : post (-1)) : wpX_endOf post (gx N C L tm RW dr ti pa pl ms md lu ec es ed) x y := by
  unfold wpX_endOf
  dsimp only
  exact x_isClock_f hx (br_t rfl h)
theorem x_endOf {post : Int32 → Prop} {c : Nat} {x : Int32} (K : gx_ok N L lu ec) (hc : c < N) (h : post (gc_en (gs_end L ec c x))) : wpX_endOf post (gx N C L tm RW dr ti pa pl ms md lu ec es ed) (nI c) x := by
  obtain ⟨_, hN, hL, _, _⟩ := K
  unfold wpX_endOf
  dsimp only
  refine x_isClock_t hN hc (br_f (by decide) ?_)
  unfold gs_end at h
  rcases pk_ix x (n := L) (by omega) with hx | hx | ⟨l, hl, rfl⟩
  · rw [if_pos (Or.inl hx)] at h
    exact x_isLink_f (Or.inl hx) (br_t rfl h)
  · rw [if_pos (Or.inr hx)] at h
    exact x_isLink_f (Or.inr hx) (br_t rfl h)
  · rw [if_neg (fun z => z.elim (nI_pos (by omega)) (nI_ge hl (by omega))), nI_clamp (by omega)] at h
    refine x_isLink_t hL hl (br_f (by decide) ?_)
    refine x_firstEnd ?_
    refine x_otherEnd (by omega) ?_
    rw [gc_ot0]
    refine ⟨vp_in_nI (by omega) (by omega), ?_⟩
    rw [nI_clamp (by omega)]
    by_cases q : ec (2 * l) = nI c
    · rw [if_pos q] at h
      exact br_t q h
    · rw [if_neg q] at h
      refine br_f q ⟨vp_in_nI (by omega) (by omega), ?_⟩
      rw [nI_clamp (by omega)]
      by_cases r : ec (2 * l + 1) = nI c
      · rw [if_pos r] at h
        exact br_t r h
      · rw [if_neg r] at h
        exact br_f r h
theorem x_isUp_t {post : Int32 → Prop} {c e : Nat} (he : e < 32) (h1 : ec e = nI c) (h2 : ¬ lu (e / 2) = 0) (h : post 1) : wpX_isUpEndOf post (gx N C L tm RW dr ti pa pl ms md lu ec es ed) (nI c) (nI e) := by
  unfold wpX_isUpEndOf
  dsimp only
  refine ⟨vp_in_nI he (by omega), ?_⟩
  rw [nI_clamp (by omega)]
  refine br_t h1 (x_linkOf he ⟨vp_in_nI (by omega) (by omega), ?_⟩)
  rw [nI_clamp (by omega)]
  exact br_f h2 h
theorem x_isUp_f {post : Int32 → Prop} {c e : Nat} (he : e < 32) (hn : ¬ (ec e = nI c ∧ ¬ lu (e / 2) = 0)) (h : post 0) : wpX_isUpEndOf post (gx N C L tm RW dr ti pa pl ms md lu ec es ed) (nI c) (nI e) := by
  unfold wpX_isUpEndOf
  dsimp only
  refine ⟨vp_in_nI he (by omega), ?_⟩
  rw [nI_clamp (by omega)]
  by_cases h1 : ec e = nI c
  · refine br_t h1 (x_linkOf he ⟨vp_in_nI (by omega) (by omega), ?_⟩)
    rw [nI_clamp (by omega)]
    exact br_t (Classical.byContradiction fun z => hn ⟨h1, z⟩) h
  · exact br_f h1 h
/-- comparison of rows -/
theorem x_cmpl {post : Int32 → Prop} {x y K : Nat} (hx : x + K ≤ 480) (hy : y + K ≤ 480) : ∀ k i, i + k = K → post (gc_cmp (fun f => RW (x + f)) (fun f => RW (y + f)) k i) → wX_compareRows_3 post (nI x) (nI y) (nI K) (nI N) (nI C) tm (nI L) RW dr ti pa pl ms md lu ec es ed (k + 1) (nI i)
  | 0, i, hi, h => br_t (nI_le (by omega) (by omega)) h
  | k + 1, i, hi, h => by
    have v1 : vp_in (nI x + nI i) 480 := by rw [nI_add]; exact vp_in_nI (by omega) (by omega)
    have v2 : vp_in (nI y + nI i) 480 := by rw [nI_add]; exact vp_in_nI (by omega) (by omega)
    have c1 : (nI x + nI i).toNatClampNeg = x + i := by rw [nI_add]; exact nI_clamp (by omega)
    have c2 : (nI y + nI i).toNatClampNeg = y + i := by rw [nI_add]; exact nI_clamp (by omega)
    rw [gc_cmp] at h
    refine br_f (nI_ge (by omega) (by omega)) ⟨v1, v2, ?_⟩
    rw [c1, c2]
    by_cases q : RW (x + i) = RW (y + i)
    · rw [if_pos q] at h
      exact br_t q (nm_r (nI_1 i) (x_cmpl hx hy k (i + 1) (by omega) h))
    · rw [if_neg q] at h
      refine br_f q ⟨v1, v2, ?_⟩
      by_cases r : RW (x + i) < RW (y + i)
      · rw [if_pos r] at h
        exact br_f (Int32.not_le.mpr r) h
      · rw [if_neg r] at h
        exact br_t (Int32.not_lt.mp r) h
theorem x_cmp {post : Int32 → Prop} {x y K : Nat} (hx : x + K ≤ 480) (hy : y + K ≤ 480) (h : post (gs_cmp RW x y K)) : wpX_compareRows post (gx N C L tm RW dr ti pa pl ms md lu ec es ed) (nI x) (nI y) (nI K) :=
  ⟨K + 1, x_cmpl hx hy K 0 (by omega) h⟩
/-- a row copied -/
theorem x_copyl {post : St2 → Prop} {x y : Nat} (hx : x + 10 ≤ 480) (hy : y + 10 ≤ 480) (hd : x + 10 ≤ y ∨ y + 10 ≤ x) (h : post (gx N C L tm (gc_cp RW RW x y 10) dr ti pa pl ms md lu ec es ed)) : ∀ k i, i + k = 10 → wX_copyRow_2 post (nI x) (nI y) (nI N) (nI C) tm (nI L) (k + 1) (nI i) (gc_cp RW RW x y i) dr ti pa pl ms md lu ec es ed
  | 0, i, hi => by
    obtain rfl : i = 10 := by omega
    exact br_t (nI_le (a := 10) (b := 10) (by omega) (by omega)) h
  | k + 1, i, hi => by
    have v1 : vp_in (nI x + nI i) 480 := by rw [nI_add]; exact vp_in_nI (by omega) (by omega)
    have v2 : vp_in (nI y + nI i) 480 := by rw [nI_add]; exact vp_in_nI (by omega) (by omega)
    have e : upd (gc_cp RW RW x y i) (nI y + nI i).toNatClampNeg (gc_cp RW RW x y i (nI x + nI i).toNatClampNeg) = gc_cp RW RW x y (i + 1) := by
      rw [nI_add, nI_add, nI_clamp (by omega), nI_clamp (by omega), gc_cp_out (by omega)]
      exact gc_cpS RW RW x y i
    exact br_f (nI_ge (b := 10) (by omega) (by omega)) ⟨v1, v2, nm_r e (nm_r (nI_1 i) (x_copyl hx hy hd h k (i + 1) (by omega)))⟩
theorem x_copy {post : St2 → Prop} {x y : Nat} (hx : x + 10 ≤ 480) (hy : y + 10 ≤ 480) (hd : x + 10 ≤ y ∨ y + 10 ≤ x) (h : post (gx N C L tm (gc_cp RW RW x y 10) dr ti pa pl ms md lu ec es ed)) : wpX_copyRow post (gx N C L tm RW dr ti pa pl ms md lu ec es ed) (nI x) (nI y) := by
  have := x_copyl hx hy hd h 10 0 (by omega)
  rw [gc_cp0] at this
  exact ⟨11, this⟩
/-- a store cleared -/
theorem x_clearl {post : St2 → Prop} {y : Nat} (hy : y + 10 ≤ 480) (h : post (gx N C L tm (gc_cp RW gc_z 0 y 10) dr ti pa pl ms md lu ec es ed)) : ∀ k i, i + k = 10 → wX_clearStore_7 post (nI y) (nI N) (nI C) tm (nI L) (k + 1) (nI i) (gc_cp RW gc_z 0 y i) dr ti pa pl ms md lu ec es ed
  | 0, i, hi => by
    obtain rfl : i = 10 := by omega
    exact br_t (nI_le (a := 10) (b := 10) (by omega) (by omega)) h
  | k + 1, i, hi => by
    have v2 : vp_in (nI y + nI i) 480 := by rw [nI_add]; exact vp_in_nI (by omega) (by omega)
    have e : upd (gc_cp RW gc_z 0 y i) (nI y + nI i).toNatClampNeg 0 = gc_cp RW gc_z 0 y (i + 1) := by
      rw [nI_add, nI_clamp (by omega)]
      exact gc_cpS RW gc_z 0 y i
    exact br_f (nI_ge (b := 10) (by omega) (by omega)) ⟨v2, nm_r e (nm_r (nI_1 i) (x_clearl hy h k (i + 1) (by omega)))⟩
theorem x_clear {post : St2 → Prop} {e : Nat} (he : e < 32) (h : post (gx N C L tm (gc_cp RW gc_z 0 ((16 + e) * 10) 10) dr ti pa pl ms md lu ec es ed)) : wpX_clearStore post (gx N C L tm RW dr ti pa pl ms md lu ec es ed) (nI e) := by
  unfold wpX_clearStore
  dsimp only
  refine x_storeRow ?_
  have := x_clearl (y := (16 + e) * 10) (by omega) h 10 0 (by omega)
  rw [gc_cp0] at this
  exact ⟨11, this⟩
end
