/-! the component's choice of a master, and its step -/
def gs_bp : Option Nat → Int32
  | none => 0
  | some j => nI ((16 + j) * 10)
section
variable {N C L : Nat} {tm : Int32} {RW dr pa pl md lu ec es ed : Nat → Int32} {ti ms : Nat → Int64}
theorem x_bestl {post : Int32 → Prop} {c : Nat} (hL : L ≤ 16) : ∀ k i b, i + k = 2 * L → gs_okb L lu ec RW c b → post (gc_en (gs_it (gs_bs lu ec RW c) k i b)) → wX_bestEnd_7 post (nI c) (nI N) (nI C) tm (nI L) RW dr ti pa pl ms md lu ec es ed (k + 1) (gc_en b) (gs_bp b) (nI i)
  | 0, i, b, hi, hb, h => br_t (by rw [ix_2m]; exact nI_le (by omega) (by omega)) h
  | k + 1, i, b, hi, hb, h => by
    have hi2 : i < 2 * L := by omega
    have hk : gs_okb L lu ec RW c (gs_bs lu ec RW c i b) := gs_bs_ok hi2 hb
    have h' : post (gc_en (gs_it (gs_bs lu ec RW c) k (i + 1) (gs_bs lu ec RW c i b))) := h
    have ih := x_bestl (post := post) hL k (i + 1) (gs_bs lu ec RW c i b) (by omega) hk h'
    refine br_f (by rw [ix_2m]; exact nI_ge (by omega) (by omega)) (x_storeRow ?_)
    unfold gs_bs at ih
    by_cases u : ec i = nI c ∧ ¬ lu (i / 2) = 0
    · refine x_isUp_t (by omega) u.1 u.2 (br_f (by decide) ?_)
      simp (disch := omega) only [ix_m6, ix_m8, ix_m9, ix_m10, ix_m2, ix_2m, ix_8a, ix_16a, ix_a0, ix_a1, ix_a2, ix_a3, ix_a4, ix_a5, ix_a6, ix_a7, ix_a8, ix_a9, nI_add, nI_clamp]
      refine ⟨vp_in_nI (by omega) (by omega), ?_⟩
      by_cases v : RW ((16 + i) * 10 + 8) = 1
      · rw [if_pos ⟨u.1, u.2, v⟩] at ih
        refine br_t v ?_
        cases b with
        | none => exact br_t rfl (nm_e ih)
        | some j =>
          dsimp only at ih
          have hj : j < 2 * L := hb.1
          refine br_f (gc_en_ne (by omega)) (x_cmp (K := 8) (by omega) (by omega) ?_)
          by_cases w : gs_cmp RW ((16 + i) * 10) ((16 + j) * 10) 8 < 0
          · rw [if_pos w] at ih
            exact br_f (Int32.not_le.mpr w) (nm_e ih)
          · rw [if_neg w] at ih
            exact br_t (Int32.not_lt.mp w) (nm_e ih)
      · rw [if_neg (fun z => v z.2.2)] at ih
        exact br_f v (nm_e ih)
    · rw [if_neg (fun z => u ⟨z.1, z.2.1⟩)] at ih
      exact x_isUp_f (by omega) u (br_t rfl (nm_r (nI_1 i) ih))
theorem x_best {post : Int32 → Prop} {c : Nat} (hL : L ≤ 16) (h : post (gc_en (gs_best L lu ec RW c))) : wpX_bestEnd post (gx N C L tm RW dr ti pa pl ms md lu ec es ed) (nI c) :=
  ⟨2 * L + 1, x_bestl hL (2 * L) 0 none (by omega) trivial h⟩
theorem x_selfl {post : St2 → Prop} {c : Nat} (hL : L ≤ 16) (h : post (gx N C L tm RW dr ti pa pl ms md lu ec (gc_fol ec lu es (fun _ => 1) c (2 * L)) ed)) : ∀ k i, i + k = 2 * L → wX_followItself_33 post (nI c) (nI N) (nI C) tm (nI L) (k + 1) (nI i) RW dr ti pa pl ms md lu ec (gc_fol ec lu es (fun _ => 1) c i) ed
  | 0, i, hi => by
    obtain rfl : i = 2 * L := by omega
    exact br_t (by rw [ix_2m]; exact nI_le (by omega) (by omega)) h
  | k + 1, i, hi => by
    have ih := x_selfl (post := post) hL h k (i + 1) (by omega)
    refine br_f (by rw [ix_2m]; exact nI_ge (by omega) (by omega)) ?_
    by_cases u : ec i = nI c ∧ ¬ lu (i / 2) = 0
    · have e : upd (gc_fol ec lu es (fun _ => 1) c i) (nI i).toNatClampNeg 1 = gc_fol ec lu es (fun _ => 1) c (i + 1) := by
        rw [nI_clamp (by omega)]; exact gc_folT (p := fun _ => 1) u.1 u.2
      exact x_isUp_t (by omega) u.1 u.2 (br_f (by decide) ⟨vp_in_nI (by omega) (by omega), nm_r e (nm_r (nI_1 i) ih)⟩)
    · rw [← gc_folF u] at ih
      exact x_isUp_f (by omega) u (br_t rfl (nm_r (nI_1 i) ih))
theorem x_self {post : St2 → Prop} {c : Nat} (hL : L ≤ 16) (hc : c < 8) (h : post (gx N C L tm ((gs_self L lu ec c RW pa pl es).1) dr ti ((gs_self L lu ec c RW pa pl es).2.1) ((gs_self L lu ec c RW pa pl es).2.2.1) ms md lu ec ((gs_self L lu ec c RW pa pl es).2.2.2) ed)) : wpX_followItself post (gx N C L tm RW dr ti pa pl ms md lu ec es ed) (nI c) := by
  have e1 : upd pa (nI c).toNatClampNeg (-1) = upd pa c (-1) := by rw [nI_clamp (by omega)]
  have e2 : upd pl (nI c).toNatClampNeg (-1) = upd pl c (-1) := by rw [nI_clamp (by omega)]
  have l := x_selfl (post := post) (c := c) (RW := gc_cp RW RW (c * 10) ((8 + c) * 10) 10) (pa := upd pa c (-1)) (pl := upd pl c (-1)) hL h (2 * L) 0 (by omega)
  rw [gc_fol0] at l
  unfold wpX_followItself
  exact x_datasetRow (x_vectorRow (x_copy (by omega) (by omega) (by omega) ⟨vp_in_nI hc (by omega), nm_r e1 ⟨vp_in_nI hc (by omega), nm_r e2 ⟨_, l⟩⟩⟩))
theorem x_folll {post : St2 → Prop} {c b : Nat} (hL : L ≤ 16) (hc : c < 8) (hb : b < 32) (h : post (gx N C L tm RW dr ti pa pl ms md lu ec (upd (gc_fol ec lu es (gs_pst RW c) c (2 * L)) b 2) ed)) : ∀ k i, i + k = 2 * L → wX_followEnd_82 post (nI c) (nI b) (nI ((8 + c) * 10)) (nI N) (nI C) tm (nI L) (k + 1) (nI i) RW dr ti pa pl ms md lu ec (gc_fol ec lu es (gs_pst RW c) c i) ed
  | 0, i, hi => by
    obtain rfl : i = 2 * L := by omega
    have e : upd (gc_fol ec lu es (gs_pst RW c) c (2 * L)) (nI b).toNatClampNeg 2 = upd (gc_fol ec lu es (gs_pst RW c) c (2 * L)) b 2 := by rw [nI_clamp (by omega)]
    exact br_t (by rw [ix_2m]; exact nI_le (by omega) (by omega)) ⟨vp_in_nI hb (by omega), nm_r e h⟩
  | k + 1, i, hi => by
    have ih := x_folll (post := post) hL hc hb h k (i + 1) (by omega)
    refine br_f (by rw [ix_2m]; exact nI_ge (by omega) (by omega)) ?_
    by_cases u : ec i = nI c ∧ ¬ lu (i / 2) = 0
    · have e := gc_folT (es := es) (p := gs_pst RW c) u.1 u.2
      refine x_isUp_t (by omega) u.1 u.2 (br_f (by decide) (x_storeRow ?_))
      simp (disch := omega) only [ix_m6, ix_m8, ix_m9, ix_m10, ix_m2, ix_2m, ix_8a, ix_16a, ix_a0, ix_a1, ix_a2, ix_a3, ix_a4, ix_a5, ix_a6, ix_a7, ix_a8, ix_a9, nI_add, nI_clamp]
      refine ⟨vp_in_nI (by omega) (by omega), ?_⟩
      have f1 : gs_pst RW c i = 1 → upd (gc_fol ec lu es (gs_pst RW c) c i) (nI i).toNatClampNeg 1 = gc_fol ec lu es (gs_pst RW c) c (i + 1) := by
        intro z
        rw [z] at e
        rw [nI_clamp (by omega)]; exact e
      have f3 : gs_pst RW c i = 3 → upd (gc_fol ec lu es (gs_pst RW c) c i) (nI i).toNatClampNeg 3 = gc_fol ec lu es (gs_pst RW c) c (i + 1) := by
        intro z
        rw [z] at e
        rw [nI_clamp (by omega)]; exact e
      by_cases v : RW ((16 + i) * 10 + 8) = 1
      · refine br_t v (x_cmp (K := 8) (by omega) (by omega) ?_)
        by_cases w : gs_cmp RW ((16 + i) * 10) ((8 + c) * 10) 8 < 0
        · exact br_f (Int32.not_le.mpr w) (br_f (by decide) ⟨vp_in_nI (by omega) (by omega), nm_r (f3 (if_pos ⟨v, w⟩)) (nm_r (nI_1 i) ih)⟩)
        · exact br_t (Int32.not_lt.mp w) (br_t rfl ⟨vp_in_nI (by omega) (by omega), nm_r (f1 (if_neg (fun z => w z.2))) (nm_r (nI_1 i) ih)⟩)
      · exact br_f v (br_t rfl ⟨vp_in_nI (by omega) (by omega), nm_r (f1 (if_neg (fun z => v z.1))) (nm_r (nI_1 i) ih)⟩)
    · rw [← gc_folF u] at ih
      exact x_isUp_f (by omega) u (br_t rfl (nm_r (nI_1 i) ih))
theorem x_foll {post : St2 → Prop} {c b : Nat} (hL : L ≤ 16) (hc : c < 8) (hb : b < 32) (h : post (gx N C L tm ((gs_foll L lu ec c b RW pa pl es).1) dr ti ((gs_foll L lu ec c b RW pa pl es).2.1) ((gs_foll L lu ec c b RW pa pl es).2.2.1) ms md lu ec ((gs_foll L lu ec c b RW pa pl es).2.2.2) ed)) : wpX_followEnd post (gx N C L tm RW dr ti pa pl ms md lu ec es ed) (nI c) (nI b) := by
  have l := x_folll (post := post) (RW := gc_fR RW c b) (pa := upd pa c (RW ((16 + b) * 10 + 7))) (pl := upd pl c (nI (b / 2))) hL hc hb h (2 * L) 0 (by omega)
  rw [gc_fol0] at l
  have g6 : gc_cp RW RW ((16 + b) * 10) ((8 + c) * 10) 10 ((8 + c) * 10 + 6) = RW ((16 + b) * 10 + 6) := gc_cp_in (by omega)
  have g7 : gc_fR RW c b ((16 + b) * 10 + 7) = RW ((16 + b) * 10 + 7) := gc_fRout (by omega)
  unfold wpX_followEnd
  refine x_storeRow (x_vectorRow (x_copy (by omega) (by omega) (by omega) ?_))
  simp (disch := omega) only [ix_m6, ix_m8, ix_m9, ix_m10, ix_m2, ix_2m, ix_8a, ix_16a, ix_a0, ix_a1, ix_a2, ix_a3, ix_a4, ix_a5, ix_a6, ix_a7, ix_a8, ix_a9, nI_add, nI_clamp]
  refine ⟨vp_in_nI (by omega) (by omega), vp_in_nI (by omega) (by omega), nm_r (by rw [g6]) ⟨vp_in_nI (by omega) (by omega), nm_e ⟨vp_in_nI (by omega) (by omega), nm_r (e' := gc_fR RW c b) rfl ⟨vp_in_nI (by omega) (by omega), vp_in_nI (by omega) (by omega), nm_r (by rw [g7]) (x_linkOf hb ⟨vp_in_nI (by omega) (by omega), nm_e ⟨_, l⟩⟩)⟩⟩⟩⟩
theorem x_choose {post : St2 → Prop} {c : Nat} (hL : L ≤ 16) (hc : c < 8) (h : post (gx N C L tm ((gs_choose L lu ec c (RW, pa, pl, es)).1) dr ti ((gs_choose L lu ec c (RW, pa, pl, es)).2.1) ((gs_choose L lu ec c (RW, pa, pl, es)).2.2.1) ms md lu ec ((gs_choose L lu ec c (RW, pa, pl, es)).2.2.2) ed)) : wpX_chooseMaster post (gx N C L tm RW dr ti pa pl ms md lu ec es ed) (nI c) := by
  have ok : gs_okb L lu ec RW c (gs_best L lu ec RW c) := gs_best_ok
  unfold gs_choose at h
  unfold wpX_chooseMaster
  refine x_best hL ?_
  cases hq : gs_best L lu ec RW c with
  | none =>
    rw [hq] at h
    exact br_t rfl (x_self hL hc h)
  | some b =>
    rw [hq] at h ok
    dsimp only at h
    have hb : b < 2 * L := ok.1
    refine br_f (gc_en_ne (by omega)) (x_datasetRow (x_storeRow (x_cmp (K := 6) (by omega) (by omega) ?_)))
    by_cases w : gs_cmp RW (c * 10) ((16 + b) * 10) 6 < 0
    · rw [if_pos w] at h
      exact br_f (Int32.not_le.mpr w) (x_self hL hc h)
    · rw [if_neg w] at h
      exact br_t (Int32.not_lt.mp w) (x_foll hL hc (by omega) h)
end
