/-! the reference's step against the component's pictures: phase 4 -/
theorem gs_age_lo {tm : Int32} {e j : Nat} {RW : Nat → Int32} (h : j < 160) : gs_age tm e RW j = RW j := by
  unfold gs_age
  split
  · rfl
  · split
    · rw [gc_cp_out (by omega), pk_un (by omega)]
    · rw [pk_un (by omega)]
theorem gs_listen_lo {tm : Int32} {lu ec es RW : Nat → Int32} {e j : Nat} (h : j < 160) : gs_listen tm lu ec es e RW j = RW j := by
  unfold gs_listen
  split
  · rfl
  · split
    · rw [gc_cp_out (by omega)]
    · exact gs_age_lo h
theorem gc_ots {l s : Nat} (hs : s < 2) : gc_ot (2 * l + s) = 2 * l + 1 - s := by
  unfold gc_ot
  split <;> omega
section
variable {N C L : Nat} {tm : Int32} {RW ds vc pa pl qa ql dr md la lb da db lu es st sv sa ec ed : Nat → Int32} {ti ms aj ig off dl t1 t2 t3 t4 ct : Nat → Int64}
/-- what stands behind a message that is not taken -/
theorem y_591 {e : Nat} (he : e < 32) (HS : gc_S RW st sv sa) :
    ∃ st' sv' sa', gc_S (gs_age tm e RW) st' sv' sa' ∧ ∀ (post : SY → Prop) J475 J497 (x1 : Int32) (s : Nat), J497 (nI (s + 1)) (nI N) (nI C) tm (nI L) ds vc qa ql dr ti aj ig off dl t1 t2 t3 t4 ct md la lb da db lu es st' sv' sa' → wY_step_591 post J475 J497 x1 (nI s) (nI e) 0 (nI N) (nI C) tm (nI L) ds vc qa ql dr ti aj ig off dl t1 t2 t3 t4 ct md la lb da db lu es st sv sa := by
  have v : vp_in (nI e) 32 := vp_in_nI he (by omega)
  obtain ⟨h1, h2, h3, h4⟩ := HS e he
  by_cases a : RW ((16 + e) * 10 + 8) = 0
  · have q : gs_age tm e RW = RW := by unfold gs_age; rw [if_pos a]
    rw [q]
    refine ⟨st, sv, sa, HS, fun post J4 J5 x1 s h => br_t rfl ⟨v, br_f ?_ (nm_r (nI_1 s) h)⟩⟩
    rw [nI_clamp (by omega), ← h2, a]; decide
  · have b : sv e = 1 := by
      rcases h4 with z | z
      · exact absurd (h2.trans z) a
      · exact z
    have b' : sv (nI e).toNatClampNeg = 1 := by rw [nI_clamp (by omega)]; exact b
    have S1 : gc_S (upd RW ((16 + e) * 10 + 9) (RW ((16 + e) * 10 + 9) + 1)) st sv (upd sa e (sa e + 1)) := by
      rw [h3]; exact gc_Sage _ he HS
    by_cases d : RW ((16 + e) * 10 + 9) + 1 = tm
    · have q : gs_age tm e RW = gc_cp (upd RW ((16 + e) * 10 + 9) (RW ((16 + e) * 10 + 9) + 1)) gc_z 0 ((16 + e) * 10) 10 := by unfold gs_age; rw [if_neg a, if_pos d]
      rw [q]
      refine ⟨_, _, _, gc_Sclr he S1, fun post J4 J5 x1 s h => br_t rfl ⟨v, br_t b' ⟨v, v, nm_r (e' := upd sa e (sa e + 1)) (by rw [nI_clamp (by omega)]) ⟨v, br_t ?_ (y_clear he (nm_r (nI_1 s) h))⟩⟩⟩⟩
      rw [nI_clamp (by omega), pk_us, ← h3]; exact d
    · have q : gs_age tm e RW = upd RW ((16 + e) * 10 + 9) (RW ((16 + e) * 10 + 9) + 1) := by unfold gs_age; rw [if_neg a, if_neg d]
      rw [q]
      refine ⟨_, _, _, S1, fun post J4 J5 x1 s h => br_t rfl ⟨v, br_t b' ⟨v, v, nm_r (e' := upd sa e (sa e + 1)) (by rw [nI_clamp (by omega)]) ⟨v, br_f ?_ (nm_r (nI_1 s) h)⟩⟩⟩⟩
      rw [nI_clamp (by omega), pk_us, ← h3]; exact d
/-- one end -/
theorem y_l4 {l s : Nat} (K : gx_ok N L lu ec) (hl : l < L) (hs : s < 2) (hu : ¬ lu l = 0) (HE : gc_E N L ec la lb) (HV : gc_V N RW vc) (HS : gc_S RW st sv sa) :
    ∃ st' sv' sa', gc_S (gs_listen tm lu ec es (2 * l + s) RW) st' sv' sa' ∧ ∀ (post : SY → Prop) J475 n, wY_step_497 post J475 (nI l) n (nI (s + 1)) (nI N) (nI C) tm (nI L) ds vc qa ql dr ti aj ig off dl t1 t2 t3 t4 ct md la lb da db lu es st' sv' sa' → wY_step_497 post J475 (nI l) (n + 1) (nI s) (nI N) (nI C) tm (nI L) ds vc qa ql dr ti aj ig off dl t1 t2 t3 t4 ct md la lb da db lu es st sv sa := by
  obtain ⟨_, hN, hL, _, hE⟩ := K
  have ho : gc_ot (2 * l + s) < 2 * L := gc_otlt (by omega)
  obtain ⟨j, hj, ej⟩ := hE _ ho
  have e1 : nI l * 2 + nI s = nI (2 * l + s) := by rw [ix_m2, nI_add, Nat.mul_comm]
  have e2 : nI l * 2 + 1 - nI s = nI (gc_ot (2 * l + s)) := by
    rw [ix_m2, ix_a1, pk_sub (by omega), gc_ots hs, Nat.mul_comm]
  have g : ¬ (2 : Int32) ≤ nI s := nI_ge (b := 2) hs (by omega)
  have vo : vp_in (nI (gc_ot (2 * l + s))) 32 := vp_in_nI (by omega) (by omega)
  have co : es (nI (gc_ot (2 * l + s))).toNatClampNeg = es (gc_ot (2 * l + s)) := by rw [nI_clamp (by omega)]
  have v6 : vp_in (nI j * 8 + 6) 64 := by rw [ix_m8, ix_a6]; exact vp_in_nI (by omega) (by omega)
  have v5 : vp_in (nI j * 8 + 5) 64 := by rw [ix_m8, ix_a5]; exact vp_in_nI (by omega) (by omega)
  have c6 : vc (nI j * 8 + 6).toNatClampNeg = RW ((8 + j) * 10 + 6) := by
    rw [ix_m8, ix_a6, nI_clamp (by omega)]; exact ((HV j hj).1 6 (by omega)).symm
  have c5 : vc (nI j * 8 + 5).toNatClampNeg = RW ((8 + j) * 10 + 5) := by
    rw [ix_m8, ix_a5, nI_clamp (by omega)]; exact ((HV j hj).1 5 (by omega)).symm
  have hl2 : (2 * l + s) / 2 = l := by omega
  by_cases cd : es (gc_ot (2 * l + s)) = 1 ∧ RW ((8 + j) * 10 + 6) ≤ 6 ∧ ¬ RW ((8 + j) * 10 + 5) = ec (2 * l + s)
  · have q : gs_listen tm lu ec es (2 * l + s) RW = gc_cp RW RW ((8 + j) * 10) ((16 + (2 * l + s)) * 10) 10 := by
      unfold gs_listen
      rw [hl2, if_neg hu, ej, nI_clamp (by omega), if_pos cd]
    rw [q]
    refine ⟨_, _, _, gc_Scpy (e := 2 * l + s) (by omega) hj HV HS, fun post J4 n h => br_f g (nm_r e1 (nm_r e2 (y_clockAt hL (by omega) HE (y_clockAt hL ho HE ?_))))⟩
    rw [ej, co, c6, c5]
    exact ⟨vo, br_t cd.1 ⟨v6, br_f (Int32.not_lt.mpr cd.2.1) ⟨v5, br_f cd.2.2 (y_copyV (by omega) (by omega) (br_f (by decide) (nm_r (nI_1 s) h)))⟩⟩⟩
  · have q : gs_listen tm lu ec es (2 * l + s) RW = gs_age tm (2 * l + s) RW := by
      unfold gs_listen
      rw [hl2, if_neg hu, ej, nI_clamp (by omega), if_neg cd]
    rw [q]
    obtain ⟨st', sv', sa', S', w⟩ := y_591 (N := N) (C := C) (L := L) (tm := tm) (ds := ds) (vc := vc) (qa := qa) (ql := ql) (dr := dr) (md := md) (la := la) (lb := lb) (da := da) (db := db) (lu := lu) (es := es) (ti := ti) (aj := aj) (ig := ig) (off := off) (dl := dl) (t1 := t1) (t2 := t2) (t3 := t3) (t4 := t4) (ct := ct) (e := 2 * l + s) (by omega) HS
    refine ⟨st', sv', sa', S', fun post J4 n h => br_f g (nm_r e1 (nm_r e2 (y_clockAt hL (by omega) HE (y_clockAt hL ho HE ?_))))⟩
    rw [ej, co, c6, c5]
    have f := w post J4 (wY_step_497 post J4 (nI l) n) (nI l) s h
    by_cases a : es (gc_ot (2 * l + s)) = 1
    · by_cases b : RW ((8 + j) * 10 + 6) ≤ 6
      · by_cases d : RW ((8 + j) * 10 + 5) = ec (2 * l + s)
        · exact ⟨vo, br_t a ⟨v6, br_f (Int32.not_lt.mpr b) ⟨v5, br_t d f⟩⟩⟩
        · exact absurd ⟨a, b, d⟩ cd
      · exact ⟨vo, br_t a ⟨v6, br_t (Int32.not_le.mp b) f⟩⟩
    · exact ⟨vo, br_f a f⟩
/-- phase 4 -/
theorem y_st4 (K : gx_ok N L lu ec) (HE : gc_E N L ec la lb) : ∀ k l RW st sv sa, l + k = L → gc_V N RW vc → gc_S RW st sv sa →
    ∃ st' sv' sa', gc_S (gs_it (gs_listen tm lu ec es) (2 * k) (2 * l) RW) st' sv' sa' ∧ ∀ (post : SY → Prop), (∃ n, wY_step_652 post n 0 (nI N) (nI C) tm (nI L) ds vc qa ql dr ti aj ig off dl t1 t2 t3 t4 ct md la lb da db lu es st' sv' sa') → wY_step_475 post (k + 1) (nI l) (nI N) (nI C) tm (nI L) ds vc qa ql dr ti aj ig off dl t1 t2 t3 t4 ct md la lb da db lu es st sv sa
  | 0, l, RW, st, sv, sa, hl, HV, HS => ⟨st, sv, sa, HS, fun post h => br_t (nI_le (by omega) (by have := K.2.2.1; omega)) h⟩
  | k + 1, l, RW, st, sv, sa, hl, HV, HS => by
    have hN := K.2.1
    have hL := K.2.2.1
    have g : ¬ nI L ≤ nI l := nI_ge (by omega) (by omega)
    have v : vp_in (nI l) 16 := vp_in_nI (by omega) (by omega)
    have q : gs_it (gs_listen tm lu ec es) (2 * (k + 1)) (2 * l) RW = gs_it (gs_listen tm lu ec es) (2 * k) (2 * (l + 1)) (gs_listen tm lu ec es (2 * l + 1) (gs_listen tm lu ec es (2 * l + 0) RW)) := rfl
    rw [q]
    by_cases hu : lu l = 0
    · have a0 : gs_listen tm lu ec es (2 * l + 0) RW = RW := by
        unfold gs_listen
        rw [show (2 * l + 0) / 2 = l by omega, if_pos hu]
      have a1 : gs_listen tm lu ec es (2 * l + 1) RW = RW := by
        unfold gs_listen
        rw [show (2 * l + 1) / 2 = l by omega, if_pos hu]
      rw [a0, a1]
      obtain ⟨st', sv', sa', S', w⟩ := y_st4 K HE k (l + 1) RW st sv sa (by omega) HV HS
      exact ⟨st', sv', sa', S', fun post h => br_f g ⟨v, br_t (by rw [nI_clamp (by omega)]; exact hu) (nm_r (nI_1 l) (w post h))⟩⟩
    · obtain ⟨s1, v1, g1, S1, w1⟩ := y_l4 (N := N) (C := C) (tm := tm) (ds := ds) (qa := qa) (ql := ql) (dr := dr) (md := md) (da := da) (db := db) (es := es) (ti := ti) (aj := aj) (ig := ig) (off := off) (dl := dl) (t1 := t1) (t2 := t2) (t3 := t3) (t4 := t4) (ct := ct) (l := l) (s := 0) K (by omega) (by omega) hu HE HV HS
      have HV1 : gc_V N (gs_listen tm lu ec es (2 * l + 0) RW) vc := gc_Vfr hN (fun j _ hj => gs_listen_lo hj) HV
      obtain ⟨s2, v2, g2, S2, w2⟩ := y_l4 (N := N) (C := C) (tm := tm) (ds := ds) (qa := qa) (ql := ql) (dr := dr) (md := md) (da := da) (db := db) (es := es) (ti := ti) (aj := aj) (ig := ig) (off := off) (dl := dl) (t1 := t1) (t2 := t2) (t3 := t3) (t4 := t4) (ct := ct) (l := l) (s := 1) K (by omega) (by omega) hu HE HV1 S1
      have HV2 : gc_V N (gs_listen tm lu ec es (2 * l + 1) (gs_listen tm lu ec es (2 * l + 0) RW)) vc := gc_Vfr hN (fun j _ hj => gs_listen_lo hj) HV1
      obtain ⟨st', sv', sa', S', w⟩ := y_st4 K HE k (l + 1) _ s2 v2 g2 (by omega) HV2 S2
      exact ⟨st', sv', sa', S', fun post h => br_f g ⟨v, br_f (by rw [nI_clamp (by omega)]; exact hu) ⟨3, w1 post _ 2 (w2 post _ 1 (br_t (nI_le (a := 2) (b := 2) (by omega) (by omega)) (nm_r (nI_1 l) (w post h))))⟩⟩⟩
end
