/-! the relation, and a step of both sides -/
def gr_R (N : Nat) (C : Nat) (L : Nat) (RW : Nat → Int32) (pa : Nat → Int32) (pl : Nat → Int32) (ms : Nat → Int64) (lu : Nat → Int32) (ec : Nat → Int32) (ed : Nat → Int32) (ds : Nat → Int32) (vc : Nat → Int32) (qa : Nat → Int32) (ql : Nat → Int32) (aj : Nat → Int64) (ig : Nat → Int64) (off : Nat → Int64) (dl : Nat → Int64) (t1 : Nat → Int64) (t2 : Nat → Int64) (t3 : Nat → Int64) (t4 : Nat → Int64) (ct : Nat → Int64) (la : Nat → Int32) (lb : Nat → Int32) (da : Nat → Int32) (db : Nat → Int32) (st : Nat → Int32) (sv : Nat → Int32) (sa : Nat → Int32) : Prop :=
  gx_ok N L lu ec ∧ L ≤ C ∧ C ≤ 16 ∧ gc_D N RW ds ∧ gc_V N RW vc ∧ gc_S RW st sv sa ∧ gc_M ms off dl t1 t2 t3 t4 aj ig ct ∧ gc_E N L ec la lb ∧ gc_W L ed da db ∧ gc_P N pa qa ∧ gc_P N pl ql
def i_Rel (_ : Nat) (u : SX) (v : SY) : Prop :=
  ∃ (N : Nat) (C : Nat) (L : Nat) (tm : Int32) (RW : Nat → Int32) (dr : Nat → Int32) (ti : Nat → Int64) (pa : Nat → Int32) (pl : Nat → Int32) (ms : Nat → Int64) (md : Nat → Int32) (lu : Nat → Int32) (ec : Nat → Int32) (es : Nat → Int32) (ed : Nat → Int32) (ds : Nat → Int32) (vc : Nat → Int32) (qa : Nat → Int32) (ql : Nat → Int32) (aj : Nat → Int64) (ig : Nat → Int64) (off : Nat → Int64) (dl : Nat → Int64) (t1 : Nat → Int64) (t2 : Nat → Int64) (t3 : Nat → Int64) (t4 : Nat → Int64) (ct : Nat → Int64) (la : Nat → Int32) (lb : Nat → Int32) (da : Nat → Int32) (db : Nat → Int32) (st : Nat → Int32) (sv : Nat → Int32) (sa : Nat → Int32), u = (gx N C L tm RW dr ti pa pl ms md lu ec es ed) ∧ v = (gy N C L tm ds vc qa ql dr ti aj ig off dl t1 t2 t3 t4 ct md la lb da db lu es st sv sa) ∧ gr_R N C L RW pa pl ms lu ec ed ds vc qa ql aj ig off dl t1 t2 t3 t4 ct la lb da db st sv sa
theorem i_up {k : Nat} {u : SX} {v : SY} (h : i_Rel k u v) : i_Rel (k + 5) u v := h
theorem gr_mk {k : Nat} {N : Nat} {C : Nat} {L : Nat} {tm : Int32} {RW : Nat → Int32} {dr : Nat → Int32} {ti : Nat → Int64} {pa : Nat → Int32} {pl : Nat → Int32} {ms : Nat → Int64} {md : Nat → Int32} {lu : Nat → Int32} {ec : Nat → Int32} {es : Nat → Int32} {ed : Nat → Int32} {ds : Nat → Int32} {vc : Nat → Int32} {qa : Nat → Int32} {ql : Nat → Int32} {aj : Nat → Int64} {ig : Nat → Int64} {off : Nat → Int64} {dl : Nat → Int64} {t1 : Nat → Int64} {t2 : Nat → Int64} {t3 : Nat → Int64} {t4 : Nat → Int64} {ct : Nat → Int64} {la : Nat → Int32} {lb : Nat → Int32} {da : Nat → Int32} {db : Nat → Int32} {st : Nat → Int32} {sv : Nat → Int32} {sa : Nat → Int32} (R : gr_R N C L RW pa pl ms lu ec ed ds vc qa ql aj ig off dl t1 t2 t3 t4 ct la lb da db st sv sa) : i_Rel k (gx N C L tm RW dr ti pa pl ms md lu ec es ed) (gy N C L tm ds vc qa ql dr ti aj ig off dl t1 t2 t3 t4 ct md la lb da db lu es st sv sa) :=
  ⟨N, C, L, tm, RW, dr, ti, pa, pl, ms, md, lu, ec, es, ed, ds, vc, qa, ql, aj, ig, off, dl, t1, t2, t3, t4, ct, la, lb, da, db, st, sv, sa, rfl, rfl, R⟩
theorem gr_in {x : Int32} {n : Nat} (hn : n < 2 ^ 31) (h : ¬ (x < 0 ∨ nI n ≤ x)) : ∃ j, j < n ∧ x = nI j := by
  rcases pk_ix x hn with q | q | q
  · exact absurd (Or.inl q) h
  · exact absurd (Or.inr q) h
  · exact q
theorem gr_step {u : SX} {v : SY} (I : i_Rel 0 u v) : ∃ u' v', i_Rel 0 u' v' ∧ (∀ post : SX → Prop, post u' → wpX_step post u) ∧ (∀ post : SY → Prop, post v' → wpY_step post v) := by
  obtain ⟨N, C, L, tm, RW, dr, ti, pa, pl, ms, md, lu, ec, es, ed, ds, vc, qa, ql, aj, ig, off, dl, t1, t2, t3, t4, ct, la, lb, da, db, st, sv, sa, rfl, rfl, R⟩ := I
  obtain ⟨K, hLC, hC, HD, HV, HS, HM, HE, HW, HA, HP⟩ := R
  have hN : N ≤ 8 := K.2.1
  obtain ⟨o1, d1, a1, a2, a3, a4, c1, M1, w1⟩ := y_st1 (C := C) (tm := tm) (ds := ds) (vc := vc) (qa := qa) (dr := dr) (es := es) (ti := ti) (st := st) (sv := sv) (sa := sa) K HE HW HP N 0 md ms off dl t1 t2 t3 t4 ct (by omega) HM
  obtain ⟨aj', ig', M2, w2⟩ := y_st2 (C := C) (tm := tm) (ds := ds) (vc := vc) (qa := qa) (ql := ql) (dr := dr) (md := (gs_it (gs_meas L pl lu ec es ed ti) N 0 (md, ms)).1) (la := la) (lb := lb) (da := da) (db := db) (es := es) (st := st) (sv := sv) (sa := sa) K N 0 ti _ aj ig (by omega) M1
  obtain ⟨st', sv', sa', S4, w4⟩ := y_st4 (C := C) (tm := tm) (ds := ds) (vc := vc) (qa := qa) (ql := ql) (dr := dr) (md := (gs_it (gs_meas L pl lu ec es ed ti) N 0 (md, ms)).1) (da := da) (db := db) (es := es) (ti := gs_it (gs_adv dr (gs_it (gs_steer (gs_it (gs_meas L pl lu ec es ed ti) N 0 (md, ms)).1) N 0 (ti, (gs_it (gs_meas L pl lu ec es ed ti) N 0 (md, ms)).2)).2) N 0 (gs_it (gs_steer (gs_it (gs_meas L pl lu ec es ed ti) N 0 (md, ms)).1) N 0 (ti, (gs_it (gs_meas L pl lu ec es ed ti) N 0 (md, ms)).2)).1) (aj := aj') (ig := ig') (off := o1) (dl := d1) (t1 := a1) (t2 := a2) (t3 := a3) (t4 := a4) (ct := c1) K HE L 0 RW st sv sa (by omega) HV HS
  have lo : ∀ j, j < 160 → gs_it (gs_listen tm lu ec es) (2 * L) 0 RW j = RW j :=
    gs_it_ok (gs_listen tm lu ec es) (fun R => ∀ j, j < 160 → R j = RW j) (2 * L) (fun i s _ h j hj => (gs_listen_lo hj).trans (h j hj)) (2 * L) 0 RW (by omega) (fun _ _ => rfl)
  have D4 := gc_Dfr hN (fun j hj => lo j (by omega)) HD
  have V4 := gc_Vfr hN (fun j _ hj => lo j hj) HV
  obtain ⟨vc', qa', ql', D5, V5, S5, A5, P5, w5⟩ := y_st5 (C := C) (tm := tm) (dr := dr) (md := (gs_it (gs_meas L pl lu ec es ed ti) N 0 (md, ms)).1) (da := da) (db := db) (ti := gs_it (gs_adv dr (gs_it (gs_steer (gs_it (gs_meas L pl lu ec es ed ti) N 0 (md, ms)).1) N 0 (ti, (gs_it (gs_meas L pl lu ec es ed ti) N 0 (md, ms)).2)).2) N 0 (gs_it (gs_steer (gs_it (gs_meas L pl lu ec es ed ti) N 0 (md, ms)).1) N 0 (ti, (gs_it (gs_meas L pl lu ec es ed ti) N 0 (md, ms)).2)).1) (aj := aj') (ig := ig') (off := o1) (dl := d1) (t1 := a1) (t2 := a2) (t3 := a3) (t4 := a4) (ct := c1) K HE N 0 _ pa pl es vc qa ql (by omega) D4 V4 S4 HA HP
  exact ⟨gs_stX N C L tm RW dr ti pa pl ms md lu ec es ed, _, gr_mk ⟨K, hLC, hC, D5, V5, S5, M2, HE, HW, A5, P5⟩, fun post h => x_step K h, fun post h => ⟨_, w1 post ⟨_, w2 post ⟨_, y_st3 K M2 N 0 _ (by omega) ⟨_, w4 post ⟨_, w5 post h⟩⟩⟩⟩⟩⟩
def gr_rx (post : Int32 → SX → Prop) (x2 : Int32) (n : Nat) (x3 : Int32) (u : SX) : Prop := match u with
  | (f1, f2, f3, f4, b1, b2, b3, b4, b5, b6, b7, b8, b9, b10, b11) => wX_run_10 post x2 n x3 f1 f2 f3 f4 b1 b2 b3 b4 b5 b6 b7 b8 b9 b10 b11
def gr_ry (post : Int32 → SY → Prop) (x2 : Int32) (n : Nat) (x3 : Int32) (v : SY) : Prop := match v with
  | (f1, f2, f3, f4, b1, b2, b3, b4, b5, b6, b7, b8, b9, b10, b11, b12, b13, b14, b15, b16, b17, b18, b19, b20, b21, b22, b23, b24, b25) => wY_run_11 post x2 n x3 f1 f2 f3 f4 b1 b2 b3 b4 b5 b6 b7 b8 b9 b10 b11 b12 b13 b14 b15 b16 b17 b18 b19 b20 b21 b22 b23 b24 b25
theorem gr_runs {K : Nat} (hK : K ≤ 64) : ∀ k i u v, i + k = K → i_Rel 0 u v → ∃ u' v', i_Rel 0 u' v' ∧ (∀ post : Int32 → SX → Prop, post (nI K) u' → gr_rx post (nI K) (k + 1) (nI i) u) ∧ (∀ post : Int32 → SY → Prop, post (nI K) v' → gr_ry post (nI K) (k + 1) (nI i) v)
  | 0, i, u, v, hi, I => by
    have I0 := I
    obtain ⟨N, C, L, tm, RW, dr, ti, pa, pl, ms, md, lu, ec, es, ed, ds, vc, qa, ql, aj, ig, off, dl, t1, t2, t3, t4, ct, la, lb, da, db, st, sv, sa, rfl, rfl, R⟩ := I
    exact ⟨_, _, I0, fun post h => br_t (nI_le (by omega) (by omega)) h, fun post h => br_t (nI_le (by omega) (by omega)) h⟩
  | k + 1, i, u, v, hi, I => by
    obtain ⟨u1, v1, I1, wx, wy⟩ := gr_step I
    obtain ⟨u2, v2, I2, wx2, wy2⟩ := gr_runs hK k (i + 1) u1 v1 (by omega) I1
    obtain ⟨N, C, L, tm, RW, dr, ti, pa, pl, ms, md, lu, ec, es, ed, ds, vc, qa, ql, aj, ig, off, dl, t1, t2, t3, t4, ct, la, lb, da, db, st, sv, sa, rfl, rfl, R⟩ := I
    obtain ⟨N1, C1, L1, tm, RW, dr, ti, pa, pl, ms, md, lu, ec, es, ed, ds, vc, qa, ql, aj, ig, off, dl, t1, t2, t3, t4, ct, la, lb, da, db, st, sv, sa, rfl, rfl, R1⟩ := I1
    exact ⟨u2, v2, I2, fun post h => br_f (nI_ge (by omega) (by omega)) (wx _ (nm_r (nI_1 i) (wx2 post h))), fun post h => br_f (nI_ge (by omega) (by omega)) (wy _ (nm_r (nI_1 i) (wy2 post h)))⟩
theorem gr_cl {v lo hi : Int32} {a b : Nat} (hlo : lo = nI a) (hhi : hi = nI b) (hab : a ≤ b) (hb : b < 2 ^ 31) : ∃ j, a ≤ j ∧ j ≤ b ∧ gc_cl v lo hi = nI j := by
  subst hlo hhi
  unfold gc_cl
  by_cases h1 : v < nI a
  · exact ⟨a, Nat.le_refl a, hab, if_pos h1⟩
  · rw [if_neg h1]
    by_cases h2 : nI b < v
    · exact ⟨b, hab, Nat.le_refl b, if_pos h2⟩
    · rw [if_neg h2]
      have hv : ¬ v < 0 := fun z => h1 (Int32.lt_of_lt_of_le z (nI_pos' (by omega)))
      obtain ⟨j, hj, rfl⟩ := nI_of hv
      refine ⟨j, ?_, ?_, rfl⟩
      · rw [nI_ltI hj (by omega)] at h1; omega
      · rw [nI_ltI hb hj] at h2; omega
theorem i_vc_run {k : Nat} {u : SX} {v : SY} (I : i_Rel k u v) (hk : k + 5 ≤ 2563) (v1 : Int32) : wpX_run (fun r u' => wpY_run (fun r' v' => r' = r ∧ i_Rel (k + 5) u' v') v v1) u v1 := by
  obtain ⟨K, _, hK, e⟩ := gr_cl (v := v1) (lo := 0) (hi := 64) (a := 0) (b := 64) rfl rfl (by omega) (by omega)
  obtain ⟨u', v', I', wx, wy⟩ := gr_runs hK K 0 u v (by omega) I
  obtain ⟨N, C, L, tm, RW, dr, ti, pa, pl, ms, md, lu, ec, es, ed, ds, vc, qa, ql, aj, ig, off, dl, t1, t2, t3, t4, ct, la, lb, da, db, st, sv, sa, rfl, rfl, R⟩ := I
  unfold wpX_run
  refine x_clamp ?_
  rw [e]
  refine ⟨_, wx _ ?_⟩
  unfold wpY_run
  refine y_clamp ?_
  rw [e]
  exact ⟨_, wy _ ⟨rfl, I'⟩⟩
