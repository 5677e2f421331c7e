/-! the component's public methods, called as the law calls them -/
section
variable {N C L : Nat} {tm : Int32} {RW dr pa pl md lu ec es ed : Nat → Int32} {ti ms : Nat → Int64}
theorem x_setPriority {post : Int32 → St2 → Prop} {c : Nat} {p1 p2 : Int32} (hN : N ≤ 8) (hc : c < N) (h : post 1 (gx N C L tm (upd (upd RW (c * 10 + 0) (gc_cl p1 0 255)) (c * 10 + 4) (gc_cl p2 0 255)) dr ti pa pl ms md lu ec es ed)) : wpX_setPriority post (gx N C L tm RW dr ti pa pl ms md lu ec es ed) (nI c) p1 p2 := by
  unfold wpX_setPriority
  refine x_isClock_t hN hc (br_f (by decide) (x_datasetRow (x_clamp ?_)))
  simp (disch := omega) only [ix_m6, ix_m8, ix_m9, ix_m10, ix_m2, ix_2m, ix_8a, ix_16a, ix_a0, ix_a1, ix_a2, ix_a3, ix_a4, ix_a5, ix_a6, ix_a7, ix_a8, ix_a9, nI_add, nI_clamp]
  exact ⟨vp_in_nI (by omega) (by omega), nm_e (x_clamp ⟨vp_in_nI (by omega) (by omega), nm_e h⟩)⟩
theorem x_setQuality {post : Int32 → St2 → Prop} {c : Nat} {p1 p2 p3 : Int32} (hN : N ≤ 8) (hc : c < N) (h : post 1 (gx N C L tm (upd (upd (upd RW (c * 10 + 1) (gc_cl p1 0 255)) (c * 10 + 2) (gc_cl p2 0 255)) (c * 10 + 3) (gc_cl p3 0 65535)) dr ti pa pl ms md lu ec es ed)) : wpX_setQuality post (gx N C L tm RW dr ti pa pl ms md lu ec es ed) (nI c) p1 p2 p3 := by
  unfold wpX_setQuality
  refine x_isClock_t hN hc (br_f (by decide) (x_datasetRow (x_clamp ?_)))
  simp (disch := omega) only [ix_m6, ix_m8, ix_m9, ix_m10, ix_m2, ix_2m, ix_8a, ix_16a, ix_a0, ix_a1, ix_a2, ix_a3, ix_a4, ix_a5, ix_a6, ix_a7, ix_a8, ix_a9, nI_add, nI_clamp]
  exact ⟨vp_in_nI (by omega) (by omega), nm_e (x_clamp ⟨vp_in_nI (by omega) (by omega), nm_e (x_clamp ⟨vp_in_nI (by omega) (by omega), nm_e h⟩)⟩)⟩
theorem x_setDrift {post : Int32 → St2 → Prop} {c : Nat} {p : Int32} (hN : N ≤ 8) (hc : c < N) (h : post 1 (gx N C L tm RW (upd dr c (gc_cl p (-100000) 100000)) ti pa pl ms md lu ec es ed)) : wpX_setDrift post (gx N C L tm RW dr ti pa pl ms md lu ec es ed) (nI c) p := by
  unfold wpX_setDrift
  refine x_isClock_t hN hc (br_f (by decide) (x_clamp ⟨vp_in_nI (by omega) (by omega), ?_⟩))
  rw [nI_clamp (by omega)]
  exact nm_e h
theorem x_setTime {post : Int32 → St2 → Prop} {c : Nat} {p : Int64} (hN : N ≤ 8) (hc : c < N) (h : post 1 (gx N C L tm RW dr (vp_updL ti c (gc_clL p 0 1000000000000000000)) pa pl ms md lu ec es ed)) : wpX_setTime post (gx N C L tm RW dr ti pa pl ms md lu ec es ed) (nI c) p := by
  unfold wpX_setTime
  refine x_isClock_t hN hc (br_f (by decide) (x_clampL ⟨vp_in_nI (by omega) (by omega), ?_⟩))
  rw [nI_clamp (by omega)]
  exact nm_e h
theorem x_getGM {post : Int32 → Prop} {c : Nat} (hN : N ≤ 8) (hc : c < N) (h : post (RW ((8 + c) * 10 + 5))) : wpX_getGrandmaster post (gx N C L tm RW dr ti pa pl ms md lu ec es ed) (nI c) := by
  unfold wpX_getGrandmaster
  refine x_isClock_t hN hc (br_f (by decide) (x_vectorRow ?_))
  simp (disch := omega) only [ix_m6, ix_m8, ix_m9, ix_m10, ix_m2, ix_2m, ix_8a, ix_16a, ix_a0, ix_a1, ix_a2, ix_a3, ix_a4, ix_a5, ix_a6, ix_a7, ix_a8, ix_a9, nI_add, nI_clamp]
  exact ⟨vp_in_nI (by omega) (by omega), h⟩
theorem x_getSteps {post : Int32 → Prop} {c : Nat} (hN : N ≤ 8) (hc : c < N) (h : post (RW ((8 + c) * 10 + 6))) : wpX_getStepsRemoved post (gx N C L tm RW dr ti pa pl ms md lu ec es ed) (nI c) := by
  unfold wpX_getStepsRemoved
  refine x_isClock_t hN hc (br_f (by decide) (x_vectorRow ?_))
  simp (disch := omega) only [ix_m6, ix_m8, ix_m9, ix_m10, ix_m2, ix_2m, ix_8a, ix_16a, ix_a0, ix_a1, ix_a2, ix_a3, ix_a4, ix_a5, ix_a6, ix_a7, ix_a8, ix_a9, nI_add, nI_clamp]
  exact ⟨vp_in_nI (by omega) (by omega), h⟩
theorem x_getParent {post : Int32 → Prop} {c : Nat} (hN : N ≤ 8) (hc : c < N) (h : post (pa c)) : wpX_getParent post (gx N C L tm RW dr ti pa pl ms md lu ec es ed) (nI c) := by
  unfold wpX_getParent
  refine x_isClock_t hN hc (br_f (by decide) ⟨vp_in_nI (by omega) (by omega), ?_⟩)
  rw [nI_clamp (by omega)]
  exact h
theorem x_getTime {post : Int64 → Prop} {c : Nat} (hN : N ≤ 8) (hc : c < N) (h : post (ti c)) : wpX_getTime post (gx N C L tm RW dr ti pa pl ms md lu ec es ed) (nI c) := by
  unfold wpX_getTime
  refine x_isClock_t hN hc (br_f (by decide) ⟨vp_in_nI (by omega) (by omega), ?_⟩)
  rw [nI_clamp (by omega)]
  exact h
theorem x_getMeasure {post : Int64 → Prop} {c w : Nat} (hN : N ≤ 8) (hc : c < N) (hw : w < 9) (h : post (ms (c * 9 + w))) : wpX_getMeasure post (gx N C L tm RW dr ti pa pl ms md lu ec es ed) (nI c) (nI w) := by
  unfold wpX_getMeasure
  refine x_isClock_t hN hc (br_f (by decide) (br_f (nI_pos (by omega)) (br_t (nI_lt (b := 9) hw (by omega)) (x_measureRow ?_))))
  rw [nI_add, nI_clamp (by omega)]
  exact ⟨vp_in_nI (by omega) (by omega), h⟩
theorem x_cmpD {post : Int32 → Prop} {a b : Nat} (hN : N ≤ 8) (ha : a < N) (hb : b < N) (h : post (gs_cmp RW (a * 10) (b * 10) 6)) : wpX_compareDatasets post (gx N C L tm RW dr ti pa pl ms md lu ec es ed) (nI a) (nI b) := by
  unfold wpX_compareDatasets
  exact x_isClock_t hN ha (br_f (by decide) (x_isClock_t hN hb (br_f (by decide) (x_datasetRow (x_datasetRow (x_cmp (K := 6) (by omega) (by omega) h))))))
theorem x_getPort {post : Int32 → Prop} {c l e : Nat} (K : gx_ok N L lu ec) (hc : c < N) (hl : l < L) (he : gs_end L ec c (nI l) = some e) (h : post (es e)) : wpX_getPortState post (gx N C L tm RW dr ti pa pl ms md lu ec es ed) (nI c) (nI l) := by
  have hL := K.2.2.1
  have h2 := gs_end_lt hL he
  unfold wpX_getPortState
  refine x_endOf K hc ?_
  rw [he]
  refine br_f (gc_en_ne (by omega)) ⟨vp_in_nI (by omega) (by omega), ?_⟩
  rw [show gc_en (some e) = nI e from rfl, nI_clamp (by omega)]
  exact h
/-- a link made new -/
theorem x_reset {post : St2 → Prop} {l : Nat} {up : Int32} (hl : l < 16) (hup : up = 0 ∨ up = 1) (h : post (gx N C L tm (gc_cp (gc_cp RW gc_z 0 ((16 + 2 * l) * 10) 10) gc_z 0 ((16 + (2 * l + 1)) * 10) 10) dr ti pa pl ms md (upd lu l up) ec (upd (upd es (2 * l) up) (2 * l + 1) up) ed)) : wpX_resetLink post (gx N C L tm RW dr ti pa pl ms md lu ec es ed) (nI l) up := by
  have e0 : upd lu (nI l).toNatClampNeg (vp_nar .boolean up) = upd lu l up := by rw [nI_clamp (by omega), ix_v hup]
  have c0 : (nI (2 * l)).toNatClampNeg = 2 * l := nI_clamp (by omega)
  have c1 : (nI (2 * l + 1)).toNatClampNeg = 2 * l + 1 := nI_clamp (by omega)
  have v0 : vp_in (nI (2 * l)) 32 := vp_in_nI (by omega) (by omega)
  have v1 : vp_in (nI (2 * l + 1)) 32 := vp_in_nI (by omega) (by omega)
  unfold wpX_resetLink
  refine ⟨vp_in_nI (by omega) (by omega), nm_r e0 (x_firstEnd (x_otherEnd (by omega) ?_))⟩
  rw [gc_ot0]
  rcases hup with rfl | rfl
  · exact br_t rfl ⟨v0, nm_r (by rw [c0]) (br_t rfl ⟨v1, nm_r (by rw [c1]) (x_clear (by omega) (x_clear (by omega) h))⟩)⟩
  · exact br_f (by decide) ⟨v0, nm_r (by rw [c0]) (br_f (by decide) ⟨v1, nm_r (by rw [c1]) (x_clear (by omega) (x_clear (by omega) h))⟩)⟩
theorem x_setLinkUp {post : Int32 → St2 → Prop} {l : Nat} {up : Int32} (hL : L ≤ 16) (hl : l < L) (hup : up = 0 ∨ up = 1) (h0 : lu l = up → post 1 (gx N C L tm RW dr ti pa pl ms md lu ec es ed)) (h1 : ¬ lu l = up → post 1 (gx N C L tm (gc_cp (gc_cp RW gc_z 0 ((16 + 2 * l) * 10) 10) gc_z 0 ((16 + (2 * l + 1)) * 10) 10) dr ti pa pl ms md (upd lu l up) ec (upd (upd es (2 * l) up) (2 * l + 1) up) ed)) : wpX_setLinkUp post (gx N C L tm RW dr ti pa pl ms md lu ec es ed) (nI l) up := by
  unfold wpX_setLinkUp
  refine x_isLink_t hL hl (br_f (by decide) ⟨vp_in_nI (by omega) (by omega), ?_⟩)
  rw [nI_clamp (by omega)]
  exact br_c (fun d => h0 d) (fun d => x_reset (by omega) hup (h1 d))
def gw_J (L : Nat) (ec : Nat → Int32) (a b : Int32) : Prop := ∃ e, e < 2 * L ∧ ec e = a ∧ ec (gc_ot e) = b
theorem x_joinl {post : Int32 → Prop} {a b : Int32} (hL : L ≤ 16) (h1 : gw_J L ec a b → post 1) (h0 : ¬ gw_J L ec a b → post 0) : ∀ k i, i + k = 2 * L → (∀ e, e < i → ¬ (ec e = a ∧ ec (gc_ot e) = b)) → wX_areJoined_2 post a b (nI N) (nI C) tm (nI L) RW dr ti pa pl ms md lu ec es ed (k + 1) (nI i)
  | 0, i, hi, hn => br_t (by rw [ix_2m]; exact nI_le (by omega) (by omega)) (h0 (fun ⟨e, he, z⟩ => hn e (by omega) z))
  | k + 1, i, hi, hn => by
    have ho : gc_ot i < 2 * 16 := gc_otlt (by omega)
    have ih : ¬ (ec i = a ∧ ec (gc_ot i) = b) → wX_areJoined_2 post a b (nI N) (nI C) tm (nI L) RW dr ti pa pl ms md lu ec es ed (k + 1) (nI (i + 1)) := fun z => x_joinl hL h1 h0 k (i + 1) (by omega) (fun e he => by
      rcases (by omega : e < i ∨ e = i) with q | q
      · exact hn e q
      · rw [q]; exact z)
    refine br_f (by rw [ix_2m]; exact nI_ge (by omega) (by omega)) ⟨vp_in_nI (by omega) (by omega), ?_⟩
    rw [nI_clamp (by omega)]
    by_cases p : ec i = a
    · refine br_t p (x_otherEnd (by omega) ⟨vp_in_nI (by omega) (by omega), ?_⟩)
      rw [nI_clamp (by omega)]
      by_cases q : ec (gc_ot i) = b
      · exact br_t q (h1 ⟨i, by omega, p, q⟩)
      · exact br_f q (nm_r (nI_1 i) (ih (fun z => q z.2)))
    · exact br_f p (nm_r (nI_1 i) (ih (fun z => p z.1)))
theorem x_addLink {post : Int32 → St2 → Prop} {a b : Nat} {d1 d2 : Int32} (hN : N ≤ 8) (hL : L ≤ 16) (hC : C ≤ 16) (ha : a < N) (hb : b < N) (hab : a ≠ b)
    (h0 : gw_J L ec (nI a) (nI b) ∨ ¬ L < C → post (-1) (gx N C L tm RW dr ti pa pl ms md lu ec es ed))
    (h1 : ¬ gw_J L ec (nI a) (nI b) → L < C → post (nI L) (gx N C (L + 1) tm (gc_cp (gc_cp RW gc_z 0 ((16 + 2 * L) * 10) 10) gc_z 0 ((16 + (2 * L + 1)) * 10) 10) dr ti pa pl ms md (upd lu L 1) (upd (upd ec (2 * L) (nI a)) (2 * L + 1) (nI b)) (upd (upd es (2 * L) 1) (2 * L + 1) 1) (upd (upd ed (2 * L) (gc_cl d1 0 10000000)) (2 * L + 1) (gc_cl d2 0 10000000)))) : wpX_addLink post (gx N C L tm RW dr ti pa pl ms md lu ec es ed) (nI a) (nI b) d1 d2 := by
  unfold wpX_addLink
  refine x_isClock_t hN ha (br_f (by decide) (x_isClock_t hN hb (br_f (by decide) (br_f (fun z => hab ((nI_eq (by omega) (by omega)).mp z)) ⟨_, x_joinl hL ?_ ?_ (2 * L) 0 (by omega) (fun e he => absurd he (by omega))⟩))))
  · intro J
    exact br_f (by decide) (h0 (Or.inl J))
  · intro J
    refine br_t rfl ?_
    by_cases q : L < C
    · refine br_t (nI_lt q (by omega)) (nm_r (nI_1 L) (x_firstEnd (x_otherEnd (by omega) ?_)))
      rw [gc_ot0, nI_clamp (by omega), nI_clamp (by omega)]
      exact ⟨vp_in_nI (by omega) (by omega), nm_e ⟨vp_in_nI (by omega) (by omega), nm_e (x_clamp ⟨vp_in_nI (by omega) (by omega), nm_e (x_clamp ⟨vp_in_nI (by omega) (by omega), nm_e (x_reset (L := L + 1) (by omega) (Or.inr rfl) (h1 J q))⟩)⟩)⟩⟩
    · exact br_f (nI_nlt (by omega) (by omega)) (h0 (Or.inr q))
end
/-! run -/
def gw_rx (post : Int32 → St2 → Prop) (x2 : Int32) (n : Nat) (x3 : Int32) (u : St2) : Prop := match u with
  | (f1, f2, f3, f4, b1, b2, b3, b4, b5, b6, b7, b8, b9, b10, b11) => wX_run_10 post x2 n x3 f1 f2 f3 f4 b1 b2 b3 b4 b5 b6 b7 b8 b9 b10 b11
theorem x_runs {Q : Nat → St2 → Prop} (hQ : ∀ t u, Q t u → ∃ u', Q (t + 1) u' ∧ ∀ post : St2 → Prop, post u' → wpX_step post u) {K : Nat} (hK : K ≤ 64) : ∀ k i t u, i + k = K → Q t u → ∃ u', Q (t + k) u' ∧ ∀ post : Int32 → St2 → Prop, post (nI K) u' → gw_rx post (nI K) (k + 1) (nI i) u
  | 0, i, t, u, hi, I => by
    refine ⟨u, I, fun post h => ?_⟩
    obtain ⟨f1, f2, f3, f4, b1, b2, b3, b4, b5, b6, b7, b8, b9, b10, b11⟩ := u
    exact br_t (nI_le (by omega) (by omega)) h
  | k + 1, i, t, u, hi, I => by
    obtain ⟨u1, I1, w1⟩ := hQ t u I
    obtain ⟨u2, I2, w2⟩ := x_runs hQ hK k (i + 1) (t + 1) u1 (by omega) I1
    refine ⟨u2, by rw [show t + (k + 1) = t + 1 + k by omega]; exact I2, fun post h => ?_⟩
    obtain ⟨f1, f2, f3, f4, b1, b2, b3, b4, b5, b6, b7, b8, b9, b10, b11⟩ := u
    obtain ⟨g1, g2, g3, g4, d1, d2, d3, d4, d5, d6, d7, d8, d9, d10, d11⟩ := u1
    exact br_f (nI_ge (by omega) (by omega)) (w1 _ (nm_r (nI_1 i) (w2 post h)))
theorem x_run {Q : Nat → St2 → Prop} (hQ : ∀ t u, Q t u → ∃ u', Q (t + 1) u' ∧ ∀ post : St2 → Prop, post u' → wpX_step post u) {K t : Nat} {u : St2} (hK : K ≤ 64) (I : Q t u) : ∃ u', Q (t + K) u' ∧ ∀ post : Int32 → St2 → Prop, post (nI K) u' → wpX_run post u (nI K) := by
  obtain ⟨u', I', w⟩ := x_runs hQ hK K 0 t u (by omega) I
  refine ⟨u', I', fun post h => ?_⟩
  obtain ⟨f1, f2, f3, f4, b1, b2, b3, b4, b5, b6, b7, b8, b9, b10, b11⟩ := u
  unfold wpX_run
  refine x_clamp ?_
  have e : gc_cl (nI K) 0 64 = nI K := by
    unfold gc_cl
    rw [if_neg (nI_pos (by omega))]
    exact if_neg (nI_nlt (b := K) (a := 64) (by omega) (by omega))
  rw [e]
  exact ⟨_, w post h⟩
