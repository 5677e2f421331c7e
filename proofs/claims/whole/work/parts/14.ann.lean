/-! getAnnounce, setLinkUp, addLink -/
def gr_col (w : Nat) : Nat := [8, 5, 6, 9, 7, 0, 1, 2, 3, 4].getD w 0
theorem gr_col_lt : ∀ w, w < 10 → w ≠ 0 → w ≠ 3 → gr_col w < 8 := by decide
theorem gr_col_10 : ∀ w, w < 10 → gr_col w < 10 := by decide
theorem gr_ten {w : Nat} (h : w < 10) : w = 0 ∨ w = 1 ∨ w = 2 ∨ w = 3 ∨ w = 4 ∨ w = 5 ∨ w = 6 ∨ w = 7 ∨ w = 8 ∨ w = 9 := by omega
theorem x_col {post : Int32 → Prop} {w : Nat} (hw : w < 10) (h : post (nI (gr_col w))) : wpX_columnOf post (nI w) := by
  have ne : ∀ w', w' < 10 → w ≠ w' → ¬ nI w = nI w' := fun w' h z e => z ((nI_eq (by omega) (by omega)).mp e)
  refine br_f (nI_pos (by omega)) (br_f (nI_nlt (b := w) (a := 9) (by omega) (by omega)) ?_)
  rcases gr_ten hw with rfl | rfl | rfl | rfl | rfl | rfl | rfl | rfl | rfl | rfl
  · exact br_t rfl h
  · exact br_f (ne 0 (by omega) (by omega)) (br_t rfl h)
  · exact br_f (ne 0 (by omega) (by omega)) (br_f (ne 1 (by omega) (by omega)) (br_t rfl h))
  · exact br_f (ne 0 (by omega) (by omega)) (br_f (ne 1 (by omega) (by omega)) (br_f (ne 2 (by omega) (by omega)) (br_t rfl h)))
  · exact br_f (ne 0 (by omega) (by omega)) (br_f (ne 1 (by omega) (by omega)) (br_f (ne 2 (by omega) (by omega)) (br_f (ne 3 (by omega) (by omega)) (br_t rfl h))))
  · exact br_f (ne 0 (by omega) (by omega)) (br_f (ne 1 (by omega) (by omega)) (br_f (ne 2 (by omega) (by omega)) (br_f (ne 3 (by omega) (by omega)) (br_f (ne 4 (by omega) (by omega)) (br_t rfl h)))))
  · exact br_f (ne 0 (by omega) (by omega)) (br_f (ne 1 (by omega) (by omega)) (br_f (ne 2 (by omega) (by omega)) (br_f (ne 3 (by omega) (by omega)) (br_f (ne 4 (by omega) (by omega)) (br_f (ne 5 (by omega) (by omega)) (br_t rfl h))))))
  · exact br_f (ne 0 (by omega) (by omega)) (br_f (ne 1 (by omega) (by omega)) (br_f (ne 2 (by omega) (by omega)) (br_f (ne 3 (by omega) (by omega)) (br_f (ne 4 (by omega) (by omega)) (br_f (ne 5 (by omega) (by omega)) (br_f (ne 6 (by omega) (by omega)) (br_t rfl h)))))))
  · exact br_f (ne 0 (by omega) (by omega)) (br_f (ne 1 (by omega) (by omega)) (br_f (ne 2 (by omega) (by omega)) (br_f (ne 3 (by omega) (by omega)) (br_f (ne 4 (by omega) (by omega)) (br_f (ne 5 (by omega) (by omega)) (br_f (ne 6 (by omega) (by omega)) (br_f (ne 7 (by omega) (by omega)) (br_t rfl h))))))))
  · exact br_f (ne 0 (by omega) (by omega)) (br_f (ne 1 (by omega) (by omega)) (br_f (ne 2 (by omega) (by omega)) (br_f (ne 3 (by omega) (by omega)) (br_f (ne 4 (by omega) (by omega)) (br_f (ne 5 (by omega) (by omega)) (br_f (ne 6 (by omega) (by omega)) (br_f (ne 7 (by omega) (by omega)) (br_f (ne 8 (by omega) (by omega)) (br_t rfl h)))))))))
theorem x_col_f {post : Int32 → Prop} {x : Int32} (hx : x < 0 ∨ nI 10 ≤ x) (h : post (-1)) : wpX_columnOf post x := by
  by_cases q : x < 0
  · exact br_t q h
  · exact br_f q (br_t (Int32.lt_of_lt_of_le (by decide : (9 : Int32) < nI 10) (hx.resolve_left q)) h)
section
variable {N C L : Nat} {tm : Int32} {RW ds vc pa pl qa ql dr md la lb da db lu es st sv sa ec ed : Nat → Int32} {ti ms aj ig off dl t1 t2 t3 t4 ct : Nat → Int64}
theorem y_pos {post : Int32 → Prop} {w : Nat} (hw : w < 10) (h0 : w ≠ 0) (h3 : w ≠ 3) (h : post (nI (gr_col w))) : wpY_pos post (gy N C L tm ds vc qa ql dr ti aj ig off dl t1 t2 t3 t4 ct md la lb da db lu es st sv sa) (nI w) := by
  have ne : ∀ w', w' < 10 → w ≠ w' → ¬ nI w = nI w' := fun w' h z e => z ((nI_eq (by omega) (by omega)).mp e)
  unfold wpY_pos
  rcases gr_ten hw with rfl | rfl | rfl | rfl | rfl | rfl | rfl | rfl | rfl | rfl
  · exact absurd rfl h0
  · exact br_t rfl h
  · exact br_f (ne 1 (by omega) (by omega)) (br_t rfl h)
  · exact absurd rfl h3
  · exact br_f (ne 1 (by omega) (by omega)) (br_f (ne 2 (by omega) (by omega)) (br_t rfl h))
  · exact br_f (ne 1 (by omega) (by omega)) (br_f (ne 2 (by omega) (by omega)) (br_f (ne 4 (by omega) (by omega)) (by rw [show nI 5 - 5 = nI (gr_col 5) by decide]; exact h)))
  · exact br_f (ne 1 (by omega) (by omega)) (br_f (ne 2 (by omega) (by omega)) (br_f (ne 4 (by omega) (by omega)) (by rw [show nI 6 - 5 = nI (gr_col 6) by decide]; exact h)))
  · exact br_f (ne 1 (by omega) (by omega)) (br_f (ne 2 (by omega) (by omega)) (br_f (ne 4 (by omega) (by omega)) (by rw [show nI 7 - 5 = nI (gr_col 7) by decide]; exact h)))
  · exact br_f (ne 1 (by omega) (by omega)) (br_f (ne 2 (by omega) (by omega)) (br_f (ne 4 (by omega) (by omega)) (by rw [show nI 8 - 5 = nI (gr_col 8) by decide]; exact h)))
  · exact br_f (ne 1 (by omega) (by omega)) (br_f (ne 2 (by omega) (by omega)) (br_f (ne 4 (by omega) (by omega)) (by rw [show nI 9 - 5 = nI (gr_col 9) by decide]; exact h)))
theorem y_annV {post : Int32 → Prop} {c w : Nat} (hN : N ≤ 8) (hc : c < N) (hw : w < 10) (HV : gc_V N RW vc) (h : post (RW ((8 + c) * 10 + gr_col w))) : wpY_getAnnounce post (gy N C L tm ds vc qa ql dr ti aj ig off dl t1 t2 t3 t4 ct md la lb da db lu es st sv sa) (nI c) (-1) (nI w) := by
  have ne : ∀ w', w' < 10 → w ≠ w' → ¬ nI w = nI w' := fun w' h z e => z ((nI_eq (by omega) (by omega)).mp e)
  obtain ⟨g1, g2, g3, g4⟩ := HV c hc
  unfold wpY_getAnnounce
  refine y_bad_f hN hc (br_t rfl (br_f (nI_pos (by omega)) (br_t (nI_le (b := 9) (by omega) (by omega)) (br_t rfl ?_))))
  by_cases w0 : w = 0
  · subst w0
    exact br_t rfl (by rw [← g3]; exact h)
  · refine br_f (ne 0 (by omega) w0) ?_
    by_cases w3 : w = 3
    · subst w3
      exact br_t rfl (by rw [← g4]; exact h)
    · refine br_f (ne 3 (by omega) w3) ?_
      by_cases w4 : w = 4
      · subst w4
        exact br_t rfl (by rw [← g2]; exact h)
      · have hcol := gr_col_lt w hw w0 w3
        rw [g1 (gr_col w) hcol] at h
        refine br_f (ne 4 (by omega) w4) (y_pos hw w0 w3 ?_)
        rw [ix_m8, nI_add, nI_clamp (by omega)]
        exact ⟨vp_in_nI (by omega) (by omega), h⟩
theorem y_annT {post : Int32 → Prop} {e w : Nat} (hw : w < 10) (he : e < 32) (HS : gc_S RW st sv sa) (h : post (RW ((16 + e) * 10 + gr_col w))) : ((nI w = 0 → (vp_in (nI e) 32 ∧ (post (sv (nI e).toNatClampNeg)))) ∧ (¬ nI w = 0 → (((nI w = 3 → (vp_in (nI e) 32 ∧ (post (sa (nI e).toNatClampNeg)))) ∧ (¬ nI w = 3 → (wpY_pos (fun r_71 => (vp_in ((nI e * 8) + r_71) 256 ∧ (post (st ((nI e * 8) + r_71).toNatClampNeg)))) (gy N C L tm ds vc qa ql dr ti aj ig off dl t1 t2 t3 t4 ct md la lb da db lu es st sv sa) (nI w))))))) := by
  have ne : ∀ w', w' < 10 → w ≠ w' → ¬ nI w = nI w' := fun w' h z e => z ((nI_eq (by omega) (by omega)).mp e)
  obtain ⟨g1, g2, g3, _⟩ := HS e he
  have ve : vp_in (nI e) 32 := vp_in_nI he (by omega)
  rw [nI_clamp (by omega)]
  by_cases w0 : w = 0
  · subst w0
    exact br_t rfl ⟨ve, by rw [← g2]; exact h⟩
  · refine br_f (ne 0 (by omega) w0) ?_
    by_cases w3 : w = 3
    · subst w3
      exact br_t rfl ⟨ve, by rw [← g3]; exact h⟩
    · have hcol := gr_col_lt w hw w0 w3
      rw [g1 (gr_col w) hcol] at h
      refine br_f (ne 3 (by omega) w3) (y_pos hw w0 w3 ?_)
      rw [ix_m8, nI_add, nI_clamp (by omega)]
      exact ⟨vp_in_nI (by omega) (by omega), h⟩
theorem y_annS {post : Int32 → Prop} {c l w : Nat} (hN : N ≤ 8) (hL : L ≤ 16) (hc : c < N) (hl : l < L) (hw : w < 10) (HS : gc_S RW st sv sa) (h : post (if la l = nI c then RW ((16 + 2 * l) * 10 + gr_col w) else if lb l = nI c then RW ((16 + (2 * l + 1)) * 10 + gr_col w) else -1)) : wpY_getAnnounce post (gy N C L tm ds vc qa ql dr ti aj ig off dl t1 t2 t3 t4 ct md la lb da db lu es st sv sa) (nI c) (nI l) (nI w) := by
  unfold wpY_getAnnounce
  refine y_bad_f hN hc (br_t rfl (br_f (nI_pos (by omega)) (br_t (nI_le (b := 9) (by omega) (by omega)) (br_f (gc_en_ne (by omega)) (br_f (nI_pos (by omega)) (br_t (nI_lt hl (by omega)) (y_side (by omega) ?_)))))))
  by_cases a : la l = nI c
  · rw [if_pos a] at h ⊢
    exact br_t (by decide) (nm_r (show nI l * 2 + 0 = nI (2 * l) by rw [ix_m2, ix_a0, Nat.mul_comm, Nat.add_zero]) (y_annT hw (by omega) HS h))
  · rw [if_neg a] at h ⊢
    by_cases b : lb l = nI c
    · rw [if_pos b] at h ⊢
      exact br_t (by decide) (nm_r (show nI l * 2 + 1 = nI (2 * l + 1) by rw [ix_m2, ix_a1, Nat.mul_comm]) (y_annT hw (by omega) HS h))
    · rw [if_neg b] at h ⊢
      exact br_f (by decide) h
end
theorem i_vc_getAnnounce {k : Nat} {u : SX} {v : SY} (I : i_Rel k u v) (hk : k + 5 ≤ 2563) (v1 : Int32) (v2 : Int32) (v3 : Int32) : wpX_getAnnounce (fun r => wpY_getAnnounce (fun r' => r' = r ∧ i_Rel (k + 5) u v) v v1 v2 v3) u v1 v2 v3 := by
  obtain ⟨N, C, L, tm, RW, dr, ti, pa, pl, ms, md, lu, ec, es, ed, ds, vc, qa, ql, aj, ig, off, dl, t1, t2, t3, t4, ct, la, lb, da, db, st, sv, sa, rfl, rfl, R⟩ := I
  have I' := gr_mk (k := k + 5) (tm := tm) (dr := dr) (ti := ti) (md := md) (es := es) R
  obtain ⟨K, hLC, hC, HD, HV, HS, HM, HE, HW, HA, HP⟩ := R
  have hN : N ≤ 8 := K.2.1
  have hL : L ≤ 16 := K.2.2.1
  unfold wpX_getAnnounce
  by_cases f : v3 < 0 ∨ nI 10 ≤ v3
  · refine x_col_f f ?_
    by_cases b : v1 < 0 ∨ nI N ≤ v1
    · refine x_isClock_f b (br_t rfl ?_)
      unfold wpY_getAnnounce
      exact y_bad_t b (br_f (by decide) ⟨rfl, I'⟩)
    · obtain ⟨c, hc, rfl⟩ := gr_in (by omega) b
      refine x_isClock_t hN hc (br_f (by decide) (br_t rfl ?_))
      unfold wpY_getAnnounce
      refine y_bad_f hN hc (br_t rfl ?_)
      by_cases f1 : v3 < 0
      · exact br_t f1 ⟨rfl, I'⟩
      · exact br_f f1 (br_f (Int32.not_le.mpr (Int32.lt_of_lt_of_le (by decide : (9 : Int32) < nI 10) (f.resolve_left f1))) ⟨rfl, I'⟩)
  · obtain ⟨w, hw, rfl⟩ := gr_in (by omega) f
    have hcol := gr_col_10 w hw
    refine x_col hw ?_
    by_cases b : v1 < 0 ∨ nI N ≤ v1
    · refine x_isClock_f b (br_t rfl ?_)
      unfold wpY_getAnnounce
      exact y_bad_t b (br_f (by decide) ⟨rfl, I'⟩)
    · obtain ⟨c, hc, rfl⟩ := gr_in (by omega) b
      refine x_isClock_t hN hc (br_f (by decide) (br_f (gc_en_ne (by omega)) ?_))
      by_cases m1 : v2 = -1
      · subst m1
        refine br_t rfl (x_vectorRow ?_)
        rw [nI_add, nI_clamp (by omega)]
        exact ⟨vp_in_nI (by omega) (by omega), y_annV hN hc hw HV ⟨rfl, I'⟩⟩
      · refine br_f m1 (x_endOf K hc ?_)
        by_cases d : v2 < 0 ∨ nI L ≤ v2
        · rw [show gs_end L ec c v2 = none from if_pos d]
          refine br_t rfl ?_
          unfold wpY_getAnnounce
          refine y_bad_f hN hc (br_t rfl (br_f (nI_pos (by omega)) (br_t (nI_le (b := 9) (by omega) (by omega)) (br_f m1 ?_))))
          by_cases d1 : v2 < 0
          · exact br_t d1 ⟨rfl, I'⟩
          · exact br_f d1 (br_f (Int32.not_lt.mpr (d.resolve_left d1)) ⟨rfl, I'⟩)
        · obtain ⟨l, hl, rfl⟩ := gr_in (by omega) d
          rw [gr_end hL hl HE]
          by_cases e1 : la l = nI c
          · rw [if_pos e1]
            refine br_f (gc_en_ne (by omega)) (x_storeRow ?_)
            rw [nI_add, nI_clamp (by omega)]
            refine ⟨vp_in_nI (by omega) (by omega), y_annS hN hL hc hl hw HS ?_⟩
            rw [if_pos e1]
            exact ⟨rfl, I'⟩
          · rw [if_neg e1]
            by_cases e2 : lb l = nI c
            · rw [if_pos e2]
              refine br_f (gc_en_ne (by omega)) (x_storeRow ?_)
              rw [nI_add, nI_clamp (by omega)]
              refine ⟨vp_in_nI (by omega) (by omega), y_annS hN hL hc hl hw HS ?_⟩
              rw [if_neg e1, if_pos e2]
              exact ⟨rfl, I'⟩
            · rw [if_neg e2]
              refine br_t rfl (y_annS hN hL hc hl hw HS ?_)
              rw [if_neg e1, if_neg e2]
              exact ⟨rfl, I'⟩
section
variable {N C L : Nat} {tm : Int32} {RW ds vc pa pl qa ql dr md la lb da db lu es st sv sa ec ed : Nat → Int32} {ti ms aj ig off dl t1 t2 t3 t4 ct : Nat → Int64}
/-- a link made new -/
theorem x_reset {post : SX → Prop} {l : Nat} {up : Int32} (hl : l < 16) (hup : up = 0 ∨ up = 1) (h : post (gx N C L tm (gc_cp (gc_cp RW gc_z 0 ((16 + 2 * l) * 10) 10) gc_z 0 ((16 + (2 * l + 1)) * 10) 10) dr ti pa pl ms md (upd lu l up) ec (upd (upd es (2 * l) up) (2 * l + 1) up) ed)) : wpX_resetLink post (gx N C L tm RW dr ti pa pl ms md lu ec es ed) (nI l) up := by
  have e0 : upd lu (nI l).toNatClampNeg (vp_nar .boolean up) = upd lu l up := by rw [nI_clamp (by omega), ix_v hup]
  have c0 : (nI (2 * l)).toNatClampNeg = 2 * l := nI_clamp (by omega)
  have c1 : (nI (2 * l + 1)).toNatClampNeg = 2 * l + 1 := nI_clamp (by omega)
  have v0 : vp_in (nI (2 * l)) 32 := vp_in_nI (by omega) (by omega)
  have v1 : vp_in (nI (2 * l + 1)) 32 := vp_in_nI (by omega) (by omega)
  unfold wpX_resetLink
  refine ⟨vp_in_nI (by omega) (by omega), nm_r e0 (x_firstEnd (x_otherEnd (by omega) ?_))⟩
  rw [gc_ot0]
  rcases hup with rfl | rfl
  · exact br_t rfl ⟨v0, nm_r (by rw [c0]) (br_t rfl ⟨v1, nm_r (by rw [c1]) (x_clear (by omega) (x_clear (by omega) h))⟩)⟩
  · exact br_f (by decide) ⟨v0, nm_r (by rw [c0]) (br_f (by decide) ⟨v1, nm_r (by rw [c1]) (x_clear (by omega) (x_clear (by omega) h))⟩)⟩
theorem gr_clr2 {l : Nat} (hN : N ≤ 8) (hl : l < 16) (HD : gc_D N RW ds) (HV : gc_V N RW vc) (HS : gc_S RW st sv sa) : gc_D N (gc_cp (gc_cp RW gc_z 0 ((16 + 2 * l) * 10) 10) gc_z 0 ((16 + (2 * l + 1)) * 10) 10) ds ∧ gc_V N (gc_cp (gc_cp RW gc_z 0 ((16 + 2 * l) * 10) 10) gc_z 0 ((16 + (2 * l + 1)) * 10) 10) vc ∧ gc_S (gc_cp (gc_cp RW gc_z 0 ((16 + 2 * l) * 10) 10) gc_z 0 ((16 + (2 * l + 1)) * 10) 10) (gc_cp (gc_cp st gc_z 0 (2 * l * 8) 8) gc_z 0 ((2 * l + 1) * 8) 8) (upd (upd sv (2 * l) 0) (2 * l + 1) 0) (upd (upd sa (2 * l) 0) (2 * l + 1) 0) :=
  ⟨gc_Dfr hN (fun j hj => (gc_cp_out (by omega)).trans (gc_cp_out (by omega))) HD, gc_Vfr hN (fun j h1 h2 => (gc_cp_out (by omega)).trans (gc_cp_out (by omega))) HV, gc_Sclr (e := 2 * l + 1) (by omega) (gc_Sclr (e := 2 * l) (by omega) HS)⟩
theorem y_reset2 {post : Int32 → SY → Prop} {l : Nat} {z0 : Int32} (hl : l < 16) (h : post 1 (gy N C L tm ds vc qa ql dr ti aj ig off dl t1 t2 t3 t4 ct md la lb da db lu (upd (upd es (2 * l) z0) (2 * l + 1) z0) (gc_cp (gc_cp st gc_z 0 (2 * l * 8) 8) gc_z 0 ((2 * l + 1) * 8) 8) (upd (upd sv (2 * l) 0) (2 * l + 1) 0) (upd (upd sa (2 * l) 0) (2 * l + 1) 0))) : wY_setLinkUp_42 post (nI l) z0 (nI N) (nI C) tm (nI L) ds vc qa ql dr ti aj ig off dl t1 t2 t3 t4 ct md la lb da db lu es st sv sa := by
  unfold wY_setLinkUp_42
  simp (disch := omega) only [ix_m6, ix_m8, ix_m9, ix_m10, ix_m2, ix_2m, ix_8a, ix_16a, ix_a0, ix_a1, ix_a2, ix_a3, ix_a4, ix_a5, ix_a6, ix_a7, ix_a8, ix_a9, nI_add, nI_clamp, Nat.mul_comm l 2]
  exact ⟨vp_in_nI (by omega) (by omega), nm_e ⟨vp_in_nI (by omega) (by omega), nm_e (y_clear (by omega) (y_clear (by omega) h))⟩⟩
theorem gr_lu {l : Nat} {up : Int32} (hup : up = 0 ∨ up = 1) (K : gx_ok N L lu ec) : gx_ok N L (upd lu l up) ec := by
  refine ⟨K.1, K.2.1, K.2.2.1, fun j => ?_, K.2.2.2.2⟩
  by_cases q : j = l
  · subst q; rw [pk_us]; exact hup
  · rw [pk_un q]; exact K.2.2.2.1 j
end
theorem i_vc_setLinkUp {k : Nat} {u : SX} {v : SY} (I : i_Rel k u v) (hk : k + 5 ≤ 2563) (v1 : Int32) (v2 : Int32) : wpX_setLinkUp (fun r u' => wpY_setLinkUp (fun r' v' => r' = r ∧ i_Rel (k + 5) u' v') v v1 (lw_bz v2)) u v1 (lw_bz v2) := by
  obtain ⟨N, C, L, tm, RW, dr, ti, pa, pl, ms, md, lu, ec, es, ed, ds, vc, qa, ql, aj, ig, off, dl, t1, t2, t3, t4, ct, la, lb, da, db, st, sv, sa, rfl, rfl, R⟩ := I
  have I' := gr_mk (k := k + 5) (tm := tm) (dr := dr) (ti := ti) (md := md) (es := es) R
  obtain ⟨K, hLC, hC, HD, HV, HS, HM, HE, HW, HA, HP⟩ := R
  have hN : N ≤ 8 := K.2.1
  have hL : L ≤ 16 := K.2.2.1
  have hup := lw_bz_01 v2
  generalize lw_bz v2 = up at hup
  unfold wpX_setLinkUp
  by_cases b : v1 < 0 ∨ nI L ≤ v1
  · refine x_isLink_f b (br_t rfl ?_)
    unfold wpY_setLinkUp
    by_cases b1 : v1 < 0
    · exact br_t b1 ⟨rfl, I'⟩
    · exact br_f b1 (br_f (Int32.not_lt.mpr (b.resolve_left b1)) ⟨rfl, I'⟩)
  · obtain ⟨l, hl, rfl⟩ := gr_in (by omega) b
    have cl : (nI l).toNatClampNeg = l := nI_clamp (by omega)
    refine x_isLink_t hL hl (br_f (by decide) ⟨vp_in_nI (by omega) (by omega), ?_⟩)
    rw [cl]
    by_cases d : lu l = up
    · refine br_t d ?_
      unfold wpY_setLinkUp
      rw [cl]
      exact br_f (nI_pos (by omega)) (br_t (nI_lt hl (by omega)) ⟨vp_in_nI (by omega) (by omega), br_t d.symm ⟨rfl, I'⟩⟩)
    · refine br_f d (x_reset (by omega) hup ?_)
      unfold wpY_setLinkUp
      rw [cl]
      obtain ⟨D', V', S'⟩ := gr_clr2 (l := l) hN (by omega) HD HV HS
      refine br_f (nI_pos (by omega)) (br_t (nI_lt hl (by omega)) ⟨vp_in_nI (by omega) (by omega), br_f (fun z => d z.symm) ⟨vp_in_nI (by omega) (by omega), nm_r (by rw [ix_v hup]) ?_⟩⟩)
      have fin := gr_mk (k := k + 5) (tm := tm) (dr := dr) (ti := ti) (md := md) (es := upd (upd es (2 * l) up) (2 * l + 1) up) ⟨gr_lu (l := l) hup K, hLC, hC, D', V', S', HM, HE, HW, HA, HP⟩
      rcases hup with rfl | rfl
      · exact br_t rfl (y_reset2 (by omega) ⟨rfl, fin⟩)
      · exact br_f (by decide) (y_reset2 (by omega) ⟨rfl, fin⟩)
