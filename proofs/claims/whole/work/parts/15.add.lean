/-! addLink -/
def gr_J (L : Nat) (ec : Nat → Int32) (a b : Int32) : Prop := ∃ e, e < 2 * L ∧ ec e = a ∧ ec (gc_ot e) = b
def gr_Jy (L : Nat) (la lb : Nat → Int32) (a b : Int32) : Prop := ∃ l, l < L ∧ ((la l = a ∧ lb l = b) ∨ (la l = b ∧ lb l = a))
theorem gr_JJ {N L : Nat} {ec la lb : Nat → Int32} {a b : Int32} (HE : gc_E N L ec la lb) : gr_J L ec a b ↔ gr_Jy L la lb a b := by
  constructor
  · rintro ⟨e, he, h1, h2⟩
    obtain ⟨g1, g2, _, _⟩ := HE (e / 2) (by omega)
    rcases (by omega : e = 2 * (e / 2) ∨ e = 2 * (e / 2) + 1) with q | q
    · rw [q, gc_ot0, g2] at h2
      rw [q, g1] at h1
      exact ⟨e / 2, by omega, Or.inl ⟨h1, h2⟩⟩
    · rw [q, gc_ot1, g1] at h2
      rw [q, g2] at h1
      exact ⟨e / 2, by omega, Or.inr ⟨h2, h1⟩⟩
  · rintro ⟨l, hl, h⟩
    obtain ⟨g1, g2, _, _⟩ := HE l hl
    rcases h with ⟨h1, h2⟩ | ⟨h1, h2⟩
    · exact ⟨2 * l, by omega, by rw [g1]; exact h1, by rw [gc_ot0, g2]; exact h2⟩
    · exact ⟨2 * l + 1, by omega, by rw [g2]; exact h2, by rw [gc_ot1, g1]; exact h1⟩
section
variable {N C L : Nat} {tm : Int32} {RW ds vc pa pl qa ql dr md la lb da db lu es st sv sa ec ed : Nat → Int32} {ti ms aj ig off dl t1 t2 t3 t4 ct : Nat → Int64}
theorem x_joinl {post : Int32 → Prop} {a b : Int32} (hL : L ≤ 16) (h1 : gr_J L ec a b → post 1) (h0 : ¬ gr_J L ec a b → post 0) : ∀ k i, i + k = 2 * L → (∀ e, e < i → ¬ (ec e = a ∧ ec (gc_ot e) = b)) → wX_areJoined_2 post a b (nI N) (nI C) tm (nI L) RW dr ti pa pl ms md lu ec es ed (k + 1) (nI i)
  | 0, i, hi, hn => br_t (by rw [ix_2m]; exact nI_le (by omega) (by omega)) (h0 (fun ⟨e, he, z⟩ => hn e (by omega) z))
  | k + 1, i, hi, hn => by
    have ho : gc_ot i < 2 * 16 := gc_otlt (by omega)
    have ih : ¬ (ec i = a ∧ ec (gc_ot i) = b) → wX_areJoined_2 post a b (nI N) (nI C) tm (nI L) RW dr ti pa pl ms md lu ec es ed (k + 1) (nI (i + 1)) := fun z => x_joinl hL h1 h0 k (i + 1) (by omega) (fun e he => by
      rcases (by omega : e < i ∨ e = i) with q | q
      · exact hn e q
      · rw [q]; exact z)
    refine br_f (by rw [ix_2m]; exact nI_ge (by omega) (by omega)) ⟨vp_in_nI (by omega) (by omega), ?_⟩
    rw [nI_clamp (by omega)]
    by_cases p : ec i = a
    · refine br_t p (x_otherEnd (by omega) ⟨vp_in_nI (by omega) (by omega), ?_⟩)
      rw [nI_clamp (by omega)]
      by_cases q : ec (gc_ot i) = b
      · exact br_t q (h1 ⟨i, by omega, p, q⟩)
      · exact br_f q (nm_r (nI_1 i) (ih (fun z => q z.2)))
    · exact br_f p (nm_r (nI_1 i) (ih (fun z => p z.1)))
theorem y_joinl {post : Int32 → SY → Prop} {a b x3 x4 : Int32} (hL : L ≤ 16) (h1 : gr_Jy L la lb a b → post (-1) (gy N C L tm ds vc qa ql dr ti aj ig off dl t1 t2 t3 t4 ct md la lb da db lu es st sv sa)) (h0 : ¬ gr_Jy L la lb a b → wY_addLink_30 post a b x3 x4 (nI N) (nI C) tm (nI L) ds vc qa ql dr ti aj ig off dl t1 t2 t3 t4 ct md la lb da db lu es st sv sa 1 (nI L)) : ∀ k i, i + k = L → (∀ l, l < i → ¬ ((la l = a ∧ lb l = b) ∨ (la l = b ∧ lb l = a))) → wY_addLink_30 post a b x3 x4 (nI N) (nI C) tm (nI L) ds vc qa ql dr ti aj ig off dl t1 t2 t3 t4 ct md la lb da db lu es st sv sa (k + 1) (nI i)
  | 0, i, hi, hn => by
    obtain rfl : i = L := by omega
    exact h0 (fun ⟨l, hl, z⟩ => hn l hl z)
  | k + 1, i, hi, hn => by
    have v : vp_in (nI i) 16 := vp_in_nI (by omega) (by omega)
    have cl : (nI i).toNatClampNeg = i := nI_clamp (by omega)
    have ih : ¬ ((la i = a ∧ lb i = b) ∨ (la i = b ∧ lb i = a)) → wY_addLink_30 post a b x3 x4 (nI N) (nI C) tm (nI L) ds vc qa ql dr ti aj ig off dl t1 t2 t3 t4 ct md la lb da db lu es st sv sa (k + 1) (nI (i + 1)) := fun z => y_joinl hL h1 h0 k (i + 1) (by omega) (fun e he => by
      rcases (by omega : e < i ∨ e = i) with q | q
      · exact hn e q
      · rw [q]; exact z)
    have f : ¬ (la i = a ∧ lb i = b) → wY_addLink_61 post (wY_addLink_30 post a b x3 x4 (nI N) (nI C) tm (nI L) ds vc qa ql dr ti aj ig off dl t1 t2 t3 t4 ct md la lb da db lu es st sv sa (k + 1)) a b x3 x4 (nI i) (nI N) (nI C) tm (nI L) ds vc qa ql dr ti aj ig off dl t1 t2 t3 t4 ct md la lb da db lu es st sv sa := by
      intro z
      unfold wY_addLink_61
      rw [cl]
      refine ⟨v, ?_⟩
      by_cases p : la i = b
      · refine br_t p ⟨v, ?_⟩
        by_cases q : lb i = a
        · exact br_t q (h1 ⟨i, by omega, Or.inr ⟨p, q⟩⟩)
        · exact br_f q (nm_r (nI_1 i) (ih (fun y => y.elim z (fun y => q y.2))))
      · exact br_f p (nm_r (nI_1 i) (ih (fun y => y.elim z (fun y => p y.1))))
    refine br_f (nI_ge (by omega) (by omega)) ⟨v, ?_⟩
    rw [cl]
    by_cases p : la i = a
    · refine br_t p ⟨v, ?_⟩
      by_cases q : lb i = b
      · exact br_t q (h1 ⟨i, by omega, Or.inl ⟨p, q⟩⟩)
      · exact br_f q (f (fun z => q z.2))
    · exact br_f p (f (fun z => p z.1))
theorem gr_okL {a b : Nat} (hL : L < 16) (ha : a < N) (hb : b < N) (K : gx_ok N L lu ec) : gx_ok N (L + 1) (upd lu L 1) (upd (upd ec (2 * L) (nI a)) (2 * L + 1) (nI b)) := by
  refine ⟨K.1, K.2.1, by omega, (gr_lu (Or.inr rfl) K).2.2.2.1, fun e he => ?_⟩
  by_cases q : e = 2 * L + 1
  · subst q; exact ⟨b, hb, pk_us⟩
  · rw [pk_un q]
    by_cases r : e = 2 * L
    · subst r; exact ⟨a, ha, pk_us⟩
    · rw [pk_un r]; exact K.2.2.2.2 e (by omega)
theorem gr_EL {a b : Nat} (ha : a < N) (hb : b < N) (HE : gc_E N L ec la lb) : gc_E N (L + 1) (upd (upd ec (2 * L) (nI a)) (2 * L + 1) (nI b)) (upd la L (nI a)) (upd lb L (nI b)) := by
  intro l hl
  by_cases q : l = L
  · subst q
    refine ⟨?_, ?_, ⟨a, ha, pk_us⟩, ⟨b, hb, pk_us⟩⟩
    · rw [pk_un (by omega), pk_us, pk_us]
    · rw [pk_us, pk_us]
  · simp (disch := omega) only [pk_un]
    exact HE l (by omega)
theorem gr_WL {x y : Int32} (HW : gc_W L ed da db) : gc_W (L + 1) (upd (upd ed (2 * L) x) (2 * L + 1) y) (upd da L x) (upd db L y) := by
  intro l hl
  by_cases q : l = L
  · subst q
    refine ⟨?_, ?_⟩
    · rw [pk_un (by omega), pk_us, pk_us]
    · rw [pk_us, pk_us]
  · simp (disch := omega) only [pk_un]
    exact HW l (by omega)
end
theorem i_vc_addLink {k : Nat} {u : SX} {v : SY} (I : i_Rel k u v) (hk : k + 5 ≤ 2563) (v1 : Int32) (v2 : Int32) (v3 : Int32) (v4 : Int32) : wpX_addLink (fun r u' => wpY_addLink (fun r' v' => r' = r ∧ i_Rel (k + 5) u' v') v v1 v2 v3 v4) u v1 v2 v3 v4 := by
  obtain ⟨N, C, L, tm, RW, dr, ti, pa, pl, ms, md, lu, ec, es, ed, ds, vc, qa, ql, aj, ig, off, dl, t1, t2, t3, t4, ct, la, lb, da, db, st, sv, sa, rfl, rfl, R⟩ := I
  have I' := gr_mk (k := k + 5) (tm := tm) (dr := dr) (ti := ti) (md := md) (es := es) R
  obtain ⟨K, hLC, hC, HD, HV, HS, HM, HE, HW, HA, HP⟩ := R
  have hN : N ≤ 8 := K.2.1
  have hL : L ≤ 16 := K.2.2.1
  unfold wpX_addLink
  by_cases b : v1 < 0 ∨ nI N ≤ v1
  · refine x_isClock_f b (br_t rfl ?_)
    unfold wpY_addLink
    exact y_bad_t b (br_f (by decide) ⟨rfl, I'⟩)
  · obtain ⟨ca, hca, rfl⟩ := gr_in (by omega) b
    refine x_isClock_t hN hca (br_f (by decide) ?_)
    by_cases d : v2 < 0 ∨ nI N ≤ v2
    · refine x_isClock_f d (br_t rfl ?_)
      unfold wpY_addLink
      exact y_bad_f hN hca (br_t rfl (y_bad_t d (br_f (by decide) ⟨rfl, I'⟩)))
    · obtain ⟨cb, hcb, rfl⟩ := gr_in (by omega) d
      refine x_isClock_t hN hcb (br_f (by decide) ?_)
      by_cases e : nI ca = nI cb
      · refine br_t e ?_
        unfold wpY_addLink
        exact y_bad_f hN hca (br_t rfl (y_bad_f hN hcb (br_t rfl (br_t e ⟨rfl, I'⟩))))
      · refine br_f e ⟨_, x_joinl hL ?_ ?_ (2 * L) 0 (by omega) (fun e he => absurd he (by omega))⟩
        · intro J
          refine br_f (by decide) ?_
          unfold wpY_addLink
          exact y_bad_f hN hca (br_t rfl (y_bad_f hN hcb (br_t rfl (br_f e ⟨_, y_joinl hL (fun _ => ⟨rfl, I'⟩) (fun z => absurd ((gr_JJ HE).mp J) z) L 0 (by omega) (fun l hl => absurd hl (by omega))⟩))))
        · intro J
          refine br_t rfl ?_
          by_cases q : L < C
          · refine br_t (nI_lt q (by omega)) (nm_r (nI_1 L) (x_firstEnd (x_otherEnd (by omega) ?_)))
            rw [gc_ot0, nI_clamp (by omega), nI_clamp (by omega)]
            refine ⟨vp_in_nI (by omega) (by omega), nm_e ⟨vp_in_nI (by omega) (by omega), nm_e (x_clamp ⟨vp_in_nI (by omega) (by omega), nm_e (x_clamp ⟨vp_in_nI (by omega) (by omega), nm_e (x_reset (L := L + 1) (by omega) (Or.inr rfl) ?_)⟩)⟩)⟩⟩
            obtain ⟨D', V', S'⟩ := gr_clr2 (l := L) hN (by omega) HD HV HS
            have fin := gr_mk (k := k + 5) (tm := tm) (dr := dr) (ti := ti) (md := md) (es := upd (upd es (2 * L) 1) (2 * L + 1) 1) ⟨gr_okL (by omega) hca hcb K, by omega, hC, D', V', S', HM, gr_EL hca hcb HE, gr_WL (x := gc_cl v3 0 10000000) (y := gc_cl v4 0 10000000) HW, HA, HP⟩
            unfold wpY_addLink
            refine y_bad_f hN hca (br_t rfl (y_bad_f hN hcb (br_t rfl (br_f e ⟨_, y_joinl hL (fun z => absurd ((gr_JJ HE).mpr z) J) (fun _ => br_t (nI_le (by omega) (by omega)) (br_t (nI_lt q (by omega)) ?_)) L 0 (by omega) (fun l hl => absurd hl (by omega))⟩))))
            simp (disch := omega) only [ix_m6, ix_m8, ix_m9, ix_m10, ix_m2, ix_2m, ix_8a, ix_16a, ix_a0, ix_a1, ix_a2, ix_a3, ix_a4, ix_a5, ix_a6, ix_a7, ix_a8, ix_a9, nI_add, nI_clamp, Nat.mul_comm L 2]
            have vL : vp_in (nI L) 16 := vp_in_nI (by omega) (by omega)
            exact ⟨vL, nm_e ⟨vL, nm_e (y_clamp ⟨vL, nm_e (y_clamp ⟨vL, nm_e ⟨vL, nm_r (e' := upd lu L 1) rfl ⟨vp_in_nI (by omega) (by omega), nm_e ⟨vp_in_nI (by omega) (by omega), nm_e (y_clear (by omega) (y_clear (by omega) (nm_r (nI_1 L) ⟨by trivial, fin⟩)))⟩⟩⟩⟩)⟩)⟩⟩
          · refine br_f (nI_nlt (by omega) (by omega)) ?_
            unfold wpY_addLink
            exact y_bad_f hN hca (br_t rfl (y_bad_f hN hcb (br_t rfl (br_f e ⟨_, y_joinl hL (fun z => absurd ((gr_JJ HE).mpr z) J) (fun _ => br_t (nI_le (by omega) (by omega)) (br_f (nI_nlt (by omega) (by omega)) ⟨rfl, I'⟩)) L 0 (by omega) (fun l hl => absurd hl (by omega))⟩))))
