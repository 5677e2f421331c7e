/-! the reference's choice of a master -/
section
variable {N C L : Nat} {tm : Int32} {RW ds vc pa pl qa ql dr md la lb da db lu es st sv sa ec ed : Nat → Int32} {ti ms aj ig off dl t1 t2 t3 t4 ct : Nat → Int64}
theorem y_selfl {post : SY → Prop} {c : Nat} (hL : L ≤ 16) (HE : gc_E N L ec la lb) (h : post (gy N C L tm ds vc qa ql dr ti aj ig off dl t1 t2 t3 t4 ct md la lb da db lu (gc_fol ec lu es (fun _ => 1) c (2 * L)) st sv sa)) : ∀ k i, i + k = 2 * L → wY_bmc_110 post (nI c) (nI N) (nI C) tm (nI L) (k + 1) (nI i) ds vc qa ql dr ti aj ig off dl t1 t2 t3 t4 ct md la lb da db lu (gc_fol ec lu es (fun _ => 1) c i) st sv sa
  | 0, i, hi => by
    obtain rfl : i = 2 * L := by omega
    exact br_t (by rw [ix_m2]; exact nI_le (by omega) (by omega)) h
  | k + 1, i, hi => by
    have ih := y_selfl (post := post) hL HE h k (i + 1) (by omega)
    have sh : nI i >>> ((1 : Int32) &&& 31) = nI (i / 2) := ix_s1 (by omega)
    have v : vp_in (nI i >>> ((1 : Int32) &&& 31)) 16 := by rw [sh]; exact vp_in_nI (by omega) (by omega)
    have cl : lu (nI i >>> ((1 : Int32) &&& 31)).toNatClampNeg = lu (i / 2) := by rw [sh, nI_clamp (by omega)]
    refine br_f (by rw [ix_m2]; exact nI_ge (by omega) (by omega)) ⟨v, ?_⟩
    rw [cl]
    by_cases a : lu (i / 2) = 0
    · rw [← gc_folF (i := i) (fun z => z.2 a)] at ih
      exact br_t a (nm_r (nI_1 i) ih)
    · refine br_f a (y_clockAt hL (by omega) HE ?_)
      by_cases b : ec i = nI c
      · have e : upd (gc_fol ec lu es (fun _ => 1) c i) (nI i).toNatClampNeg 1 = gc_fol ec lu es (fun _ => 1) c (i + 1) := by
          rw [nI_clamp (by omega)]; exact gc_folT (p := fun _ => 1) b a
        exact br_t b ⟨vp_in_nI (by omega) (by omega), nm_r e (nm_r (nI_1 i) ih)⟩
      · rw [← gc_folF (i := i) (fun z => b z.1)] at ih
        exact br_f b (nm_r (nI_1 i) ih)
theorem y_self {post : SY → Prop} {c : Nat} (hL : L ≤ 16) (hc : c < 8) (HE : gc_E N L ec la lb) (h : post (gy N C L tm ds (upd (upd (gc_cp vc ds (c * 6) (c * 8) 6) (c * 8 + 6) 0) (c * 8 + 7) (nI c)) (upd qa c (-1)) (upd ql c (-1)) dr ti aj ig off dl t1 t2 t3 t4 ct md la lb da db lu (gc_fol ec lu es (fun _ => 1) c (2 * L)) st sv sa)) : wY_bmc_89 post (nI c) (nI N) (nI C) tm (nI L) ds vc qa ql dr ti aj ig off dl t1 t2 t3 t4 ct md la lb da db lu es st sv sa := by
  have e1 : upd qa (nI c).toNatClampNeg (-1) = upd qa c (-1) := by rw [nI_clamp (by omega)]
  have e2 : upd ql (nI c).toNatClampNeg (-1) = upd ql c (-1) := by rw [nI_clamp (by omega)]
  have l := y_selfl (post := post) (c := c) (vc := upd (upd (gc_cp vc ds (c * 6) (c * 8) 6) (c * 8 + 6) 0) (c * 8 + 7) (nI c)) (qa := upd qa c (-1)) (ql := upd ql c (-1)) hL HE h (2 * L) 0 (by omega)
  rw [gc_fol0] at l
  unfold wY_bmc_89
  exact y_resetV hc ⟨vp_in_nI hc (by omega), nm_r e1 ⟨vp_in_nI hc (by omega), nm_r e2 ⟨_, l⟩⟩⟩
/-- the states of the ends of a clock that follows b -/
def gs_qst (RW : Nat → Int32) (c b e : Nat) : Int32 := if e = b then 2 else gs_pst RW c e
theorem y_folll {post : SY → Prop} {c b : Nat} (hN : N ≤ 8) (hL : L ≤ 16) (hc : c < N) (hb : b < 32) (HE : gc_E N L ec la lb) (HV : gc_V N RW vc) (HS : gc_S RW st sv sa) (h : post (gy N C L tm ds vc qa ql dr ti aj ig off dl t1 t2 t3 t4 ct md la lb da db lu (gc_fol ec lu es (gs_qst RW c b) c (2 * L)) st sv sa)) : ∀ k i, i + k = 2 * L → wY_bmc_258 post (nI c) (nI b) (nI N) (nI C) tm (nI L) (k + 1) (nI i) ds vc qa ql dr ti aj ig off dl t1 t2 t3 t4 ct md la lb da db lu (gc_fol ec lu es (gs_qst RW c b) c i) st sv sa
  | 0, i, hi => by
    obtain rfl : i = 2 * L := by omega
    exact br_t (by rw [ix_m2]; exact nI_le (by omega) (by omega)) h
  | k + 1, i, hi => by
    have ih := y_folll (post := post) hN hL hc hb HE HV HS h k (i + 1) (by omega)
    have sh : nI i >>> ((1 : Int32) &&& 31) = nI (i / 2) := ix_s1 (by omega)
    have v : vp_in (nI i >>> ((1 : Int32) &&& 31)) 16 := by rw [sh]; exact vp_in_nI (by omega) (by omega)
    have vi : vp_in (nI i) 32 := vp_in_nI (by omega) (by omega)
    have cl : lu (nI i >>> ((1 : Int32) &&& 31)).toNatClampNeg = lu (i / 2) := by rw [sh, nI_clamp (by omega)]
    refine br_f (by rw [ix_m2]; exact nI_ge (by omega) (by omega)) ⟨v, ?_⟩
    rw [cl]
    by_cases a : lu (i / 2) = 0
    · rw [← gc_folF (i := i) (fun z => z.2 a)] at ih
      exact br_t a (nm_r (nI_1 i) ih)
    · refine br_f a (y_clockAt hL (by omega) HE ?_)
      by_cases d : ec i = nI c
      · refine br_t d ?_
        have e := gc_folT (es := es) (p := gs_qst RW c b) d a
        have f : ∀ x, gs_qst RW c b i = x → upd (gc_fol ec lu es (gs_qst RW c b) c i) (nI i).toNatClampNeg x = gc_fol ec lu es (gs_qst RW c b) c (i + 1) := by
          intro x z
          rw [z] at e
          rw [nI_clamp (by omega)]; exact e
        by_cases ib : i = b
        · exact br_t (by rw [ib]) ⟨vi, nm_r (f 2 (if_pos ib)) (nm_r (nI_1 i) ih)⟩
        · refine br_f (fun z => ib ((nI_eq (by omega) (by omega)).mp z)) ⟨vi, ?_⟩
          have hsv := (HS i (by omega)).2.1
          rw [nI_clamp (by omega)] at f
          rw [nI_clamp (by omega)]
          by_cases s1 : sv i = 1
          · refine br_t s1 (y_cmp (K := 8) (x := (16 + i) * 10) (y := (8 + c) * 10) (by omega) (fun g hg post h => y_fld2 (by omega) hg HS h) (fun g hg post h => y_fld1 hN hc hg HV h) ?_)
            by_cases w : gs_cmp RW ((16 + i) * 10) ((8 + c) * 10) 8 < 0
            · exact br_f (Int32.not_le.mpr w) ⟨vi, nm_r (f 3 ((if_neg ib).trans (if_pos ⟨hsv.trans s1, w⟩))) (nm_r (nI_1 i) ih)⟩
            · exact br_t (Int32.not_lt.mp w) ⟨vi, nm_r (f 1 ((if_neg ib).trans (if_neg (fun z => w z.2)))) (nm_r (nI_1 i) ih)⟩
          · exact br_f s1 ⟨vi, nm_r (f 1 ((if_neg ib).trans (if_neg (fun z => s1 (hsv.symm.trans z.1))))) (nm_r (nI_1 i) ih)⟩
      · rw [← gc_folF (i := i) (fun z => d z.1)] at ih
        exact br_f d (nm_r (nI_1 i) ih)
theorem y_copy6 {post : SY → Prop} {c b : Nat} (hc : c < 8) (hb : b < 32) (h : ∃ n, wY_bmc_258 post (nI c) (nI b) (nI N) (nI C) tm (nI L) n 0 ds (gc_fV vc st c b) (upd qa c (st (b * 8 + 7))) (upd ql c (nI (b / 2))) dr ti aj ig off dl t1 t2 t3 t4 ct md la lb da db lu es st sv sa) : ∀ k i, i + k = 6 → wY_bmc_156 post (nI c) (nI b) (nI N) (nI C) tm (nI L) (k + 1) (nI i) ds (gc_cp vc st (b * 8) (c * 8) i) qa ql dr ti aj ig off dl t1 t2 t3 t4 ct md la lb da db lu es st sv sa
  | 0, i, hi => by
    obtain rfl : i = 6 := by omega
    refine br_t (nI_le (a := 6) (b := 6) (by omega) (by omega)) ?_
    have sh : nI b >>> ((1 : Int32) &&& 31) = nI (b / 2) := ix_s1 (by omega)
    rw [sh]
    simp (disch := omega) only [ix_m6, ix_m8, ix_m9, ix_m10, ix_m2, ix_2m, ix_8a, ix_16a, ix_a0, ix_a1, ix_a2, ix_a3, ix_a4, ix_a5, ix_a6, ix_a7, ix_a8, ix_a9, nI_add, nI_clamp]
    exact ⟨vp_in_nI (by omega) (by omega), vp_in_nI (by omega) (by omega), nm_e ⟨vp_in_nI (by omega) (by omega), nm_e ⟨vp_in_nI (by omega) (by omega), vp_in_nI (by omega) (by omega), nm_e ⟨vp_in_nI (by omega) (by omega), nm_e h⟩⟩⟩⟩
  | k + 1, i, hi => by
    have v1 : vp_in (nI b * 8 + nI i) 256 := by rw [ix_m8, nI_add]; exact vp_in_nI (by omega) (by omega)
    have v2 : vp_in (nI c * 8 + nI i) 64 := by rw [ix_m8, nI_add]; exact vp_in_nI (by omega) (by omega)
    have q : upd (gc_cp vc st (b * 8) (c * 8) i) (nI c * 8 + nI i).toNatClampNeg (st (nI b * 8 + nI i).toNatClampNeg) = gc_cp vc st (b * 8) (c * 8) (i + 1) := by
      rw [ix_m8, ix_m8, nI_add, nI_add, nI_clamp (by omega), nI_clamp (by omega)]
      exact gc_cpS vc st (b * 8) (c * 8) i
    exact br_f (nI_ge (b := 6) (by omega) (by omega)) ⟨v1, v2, nm_r q (nm_r (nI_1 i) (y_copy6 hc hb h k (i + 1) (by omega)))⟩
theorem y_bestl {post : SY → Prop} {c : Nat} (hN : N ≤ 8) (hL : L ≤ 16) (hc : c < N) (HE : gc_E N L ec la lb) (HD : gc_D N RW ds) (HS : gc_S RW st sv sa) : ∀ k i b, i + k = 2 * L → gs_okb L lu ec RW c b →
    (gs_it (gs_bs lu ec RW c) k i b = none → wY_bmc_89 post (nI c) (nI N) (nI C) tm (nI L) ds vc qa ql dr ti aj ig off dl t1 t2 t3 t4 ct md la lb da db lu es st sv sa) →
    (∀ e, gs_it (gs_bs lu ec RW c) k i b = some e → e < 2 * L → (gs_cmp RW (c * 10) ((16 + e) * 10) 6 < 0 → wY_bmc_89 post (nI c) (nI N) (nI C) tm (nI L) ds vc qa ql dr ti aj ig off dl t1 t2 t3 t4 ct md la lb da db lu es st sv sa) ∧ (¬ gs_cmp RW (c * 10) ((16 + e) * 10) 6 < 0 → ∃ n, wY_bmc_156 post (nI c) (nI e) (nI N) (nI C) tm (nI L) n 0 ds vc qa ql dr ti aj ig off dl t1 t2 t3 t4 ct md la lb da db lu es st sv sa)) →
    wY_bmc_4 post (nI c) (nI N) (nI C) tm (nI L) ds vc qa ql dr ti aj ig off dl t1 t2 t3 t4 ct md la lb da db lu es st sv sa (k + 1) (gc_en b) (nI i)
  | 0, i, none, hi, hb, h0, h1 => br_t (by rw [ix_m2]; exact nI_le (by omega) (by omega)) (br_t (by decide) (h0 rfl))
  | 0, i, some e, hi, hb, h0, h1 => by
    have he : e < 2 * L := hb.1
    refine br_t (by rw [ix_m2]; exact nI_le (by omega) (by omega)) (br_f (nI_pos (by omega)) ?_)
    refine y_cmp (K := 6) (x := c * 10) (y := (16 + e) * 10) (by omega) (fun g hg post h => y_fld0 hN hc hg HD h) (fun g hg post h => y_fld2 (by omega) (by omega) HS h) ?_
    by_cases w : gs_cmp RW (c * 10) ((16 + e) * 10) 6 < 0
    · exact br_f (Int32.not_le.mpr w) ((h1 e rfl he).1 w)
    · exact br_t (Int32.not_lt.mp w) ((h1 e rfl he).2 w)
  | k + 1, i, b, hi, hb, h0, h1 => by
    have hi2 : i < 2 * L := by omega
    have hk : gs_okb L lu ec RW c (gs_bs lu ec RW c i b) := gs_bs_ok hi2 hb
    have ih := y_bestl (post := post) hN hL hc HE HD HS k (i + 1) (gs_bs lu ec RW c i b) (by omega) hk h0 h1
    have sh : nI i >>> ((1 : Int32) &&& 31) = nI (i / 2) := ix_s1 (by omega)
    have v : vp_in (nI i >>> ((1 : Int32) &&& 31)) 16 := by rw [sh]; exact vp_in_nI (by omega) (by omega)
    have vi : vp_in (nI i) 32 := vp_in_nI (by omega) (by omega)
    have cl : lu (nI i >>> ((1 : Int32) &&& 31)).toNatClampNeg = lu (i / 2) := by rw [sh, nI_clamp (by omega)]
    have hsv := (HS i (by omega)).2.1
    unfold gs_bs at ih
    refine br_f (by rw [ix_m2]; exact nI_ge (by omega) (by omega)) ⟨v, ?_⟩
    rw [cl]
    by_cases a : lu (i / 2) = 0
    · rw [if_neg (fun z => z.2.1 a)] at ih
      exact br_t a (nm_r (nI_1 i) ih)
    · refine br_f a (y_clockAt hL (by omega) HE ?_)
      by_cases d : ec i = nI c
      · refine br_t d ⟨vi, ?_⟩
        rw [nI_clamp (by omega)]
        by_cases s1 : sv i = 1
        · rw [if_pos ⟨d, a, hsv.trans s1⟩] at ih
          refine br_t s1 ?_
          cases b with
          | none => exact br_t (by decide) (nm_r (nI_1 i) ih)
          | some j =>
            dsimp only at ih
            have hj : j < 2 * L := hb.1
            refine br_f (nI_pos (by omega)) (y_cmp (K := 8) (x := (16 + i) * 10) (y := (16 + j) * 10) (by omega) (fun g hg post h => y_fld2 (by omega) hg HS h) (fun g hg post h => y_fld2 (by omega) hg HS h) ?_)
            by_cases w : gs_cmp RW ((16 + i) * 10) ((16 + j) * 10) 8 < 0
            · rw [if_pos w] at ih
              exact br_f (Int32.not_le.mpr w) (nm_r (nI_1 i) ih)
            · rw [if_neg w] at ih
              exact br_t (Int32.not_lt.mp w) (nm_r (nI_1 i) ih)
        · rw [if_neg (fun z => s1 (hsv.symm.trans z.2.2))] at ih
          exact br_f s1 (nm_r (nI_1 i) ih)
      · rw [if_neg (fun z => d z.1)] at ih
        exact br_f d (nm_r (nI_1 i) ih)
/-- the choice of one clock -/
theorem y_bmc {c : Nat} (hN : N ≤ 8) (hL : L ≤ 16) (hc : c < N) (HE : gc_E N L ec la lb) (HD : gc_D N RW ds) (HV : gc_V N RW vc) (HS : gc_S RW st sv sa) (HA : gc_P N pa qa) (HP : gc_P N pl ql) :
    ∃ vc' qa' ql', gc_D N (gs_choose L lu ec c (RW, pa, pl, es)).1 ds ∧ gc_V N (gs_choose L lu ec c (RW, pa, pl, es)).1 vc' ∧ gc_S (gs_choose L lu ec c (RW, pa, pl, es)).1 st sv sa ∧ gc_P N (gs_choose L lu ec c (RW, pa, pl, es)).2.1 qa' ∧ gc_P N (gs_choose L lu ec c (RW, pa, pl, es)).2.2.1 ql' ∧
      ∀ (post : SY → Prop), post (gy N C L tm ds vc' qa' ql' dr ti aj ig off dl t1 t2 t3 t4 ct md la lb da db lu ((gs_choose L lu ec c (RW, pa, pl, es)).2.2.2) st sv sa) → wpY_bmc post (gy N C L tm ds vc qa ql dr ti aj ig off dl t1 t2 t3 t4 ct md la lb da db lu es st sv sa) (nI c) := by
  have ok : gs_okb L lu ec RW c (gs_best L lu ec RW c) := gs_best_ok
  have pu : ∀ (a b : Nat → Int32) (x : Int32), gc_P N a b → gc_P N (upd a c x) (upd b c x) := by
    intro a b x h i hi
    by_cases q : i = c
    · subst q; rw [pk_us, pk_us]
    · rw [pk_un q, pk_un q]; exact h i hi
  have self : gs_choose L lu ec c (RW, pa, pl, es) = gs_self L lu ec c RW pa pl es → (∀ (post : SY → Prop), wY_bmc_89 post (nI c) (nI N) (nI C) tm (nI L) ds vc qa ql dr ti aj ig off dl t1 t2 t3 t4 ct md la lb da db lu es st sv sa → wpY_bmc post (gy N C L tm ds vc qa ql dr ti aj ig off dl t1 t2 t3 t4 ct md la lb da db lu es st sv sa) (nI c)) → _ := fun q w =>
    (⟨_, _, _, (by rw [q]; exact gc_Dfr hN (fun j hj => gc_cp_out (by omega)) HD), (by rw [q]; exact gc_Vown hN hc HD HV), (by rw [q]; exact gc_Sfr (fun j hj => gc_cp_out (by omega)) HS), (by rw [q]; exact pu _ _ _ HA), (by rw [q]; exact pu _ _ _ HP), (fun post h => w post (y_self hL (by omega) HE (by rw [q] at h; exact h)))⟩ :
    ∃ vc' qa' ql', gc_D N (gs_choose L lu ec c (RW, pa, pl, es)).1 ds ∧ gc_V N (gs_choose L lu ec c (RW, pa, pl, es)).1 vc' ∧ gc_S (gs_choose L lu ec c (RW, pa, pl, es)).1 st sv sa ∧ gc_P N (gs_choose L lu ec c (RW, pa, pl, es)).2.1 qa' ∧ gc_P N (gs_choose L lu ec c (RW, pa, pl, es)).2.2.1 ql' ∧
      ∀ (post : SY → Prop), post (gy N C L tm ds vc' qa' ql' dr ti aj ig off dl t1 t2 t3 t4 ct md la lb da db lu ((gs_choose L lu ec c (RW, pa, pl, es)).2.2.2) st sv sa) → wpY_bmc post (gy N C L tm ds vc qa ql dr ti aj ig off dl t1 t2 t3 t4 ct md la lb da db lu es st sv sa) (nI c))
  cases hq : gs_best L lu ec RW c with
  | none =>
    refine self ?_ ?_
    · unfold gs_choose
      rw [hq]
    · intro post h
      exact ⟨_, y_bestl hN hL hc HE HD HS (2 * L) 0 none (by omega) trivial (fun _ => h) (fun e he _ => absurd (hq.symm.trans he).symm (Option.some_ne_none e))⟩
  | some b =>
    rw [hq] at ok
    obtain ⟨hb, ob1, ob2, ob3⟩ := ok
    by_cases w : gs_cmp RW (c * 10) ((16 + b) * 10) 6 < 0
    · refine self ?_ ?_
      · unfold gs_choose
        rw [hq]
        exact if_pos w
      · intro post h
        exact ⟨_, y_bestl hN hL hc HE HD HS (2 * L) 0 none (by omega) trivial (fun z => absurd (hq.symm.trans z) (Option.some_ne_none b)) (fun e he _ => ⟨fun _ => h, fun z => absurd w (by obtain rfl := Option.some.inj (hq.symm.trans he); exact z)⟩)⟩
    · have q : gs_choose L lu ec c (RW, pa, pl, es) = gs_foll L lu ec c b RW pa pl es := by
        unfold gs_choose
        rw [hq]
        exact if_neg w
      have hsv := (HS b (by omega)).2.1
      have HD' : gc_D N (gc_fR RW c b) ds := gc_Dfr hN (fun j hj => gc_fRout (by omega)) HD
      have HV' : gc_V N (gc_fR RW c b) (gc_fV vc st c b) := gc_Vfol hN hc (by omega) HS (hsv.symm.trans ob3) HV
      have HS' : gc_S (gc_fR RW c b) st sv sa := gc_Sfr (fun j hj => gc_fRout (by omega)) HS
      have e7 : RW ((16 + b) * 10 + 7) = st (b * 8 + 7) := (HS b (by omega)).1 7 (by omega)
      have eb : upd (gc_fol ec lu es (gs_pst (gc_fR RW c b) c) c (2 * L)) b 2 = gc_fol ec lu es (gs_qst (gc_fR RW c b) c b) c (2 * L) := gc_folB hb ob1 ob2 (if_pos rfl) (fun e he => if_neg he)
      rw [q]
      refine ⟨gc_fV vc st c b, upd qa c (st (b * 8 + 7)), upd ql c (nI (b / 2)), HD', HV', HS', ?_, pu _ _ _ HP, fun post h => ?_⟩
      · have := pu _ _ (RW ((16 + b) * 10 + 7)) HA
        rw [← e7]; exact this
      · have h' : post (gy N C L tm ds (gc_fV vc st c b) (upd qa c (st (b * 8 + 7))) (upd ql c (nI (b / 2))) dr ti aj ig off dl t1 t2 t3 t4 ct md la lb da db lu (gc_fol ec lu es (gs_qst (gc_fR RW c b) c b) c (2 * L)) st sv sa) := by rw [← eb]; exact h
        have l := y_folll (b := b) hN hL hc (by omega) HE HV' HS' h' (2 * L) 0 (by omega)
        rw [gc_fol0] at l
        have l6 := y_copy6 (c := c) (b := b) (by omega) (by omega) ⟨_, l⟩ 6 0 (by omega)
        rw [gc_cp0] at l6
        exact ⟨_, y_bestl hN hL hc HE HD HS (2 * L) 0 none (by omega) trivial (fun z => absurd (hq.symm.trans z) (Option.some_ne_none b)) (fun e he _ => ⟨fun z => absurd z (by obtain rfl := Option.some.inj (hq.symm.trans he); exact w), fun _ => by obtain rfl := Option.some.inj (hq.symm.trans he); exact ⟨_, l6⟩⟩)⟩
/-- phase 5 -/
theorem y_st5 (K : gx_ok N L lu ec) (HE : gc_E N L ec la lb) : ∀ k i RW pa pl es vc qa ql, i + k = N → gc_D N RW ds → gc_V N RW vc → gc_S RW st sv sa → gc_P N pa qa → gc_P N pl ql →
    ∃ vc' qa' ql', gc_D N (gs_it (gs_choose L lu ec) k i (RW, pa, pl, es)).1 ds ∧ gc_V N (gs_it (gs_choose L lu ec) k i (RW, pa, pl, es)).1 vc' ∧ gc_S (gs_it (gs_choose L lu ec) k i (RW, pa, pl, es)).1 st sv sa ∧ gc_P N (gs_it (gs_choose L lu ec) k i (RW, pa, pl, es)).2.1 qa' ∧ gc_P N (gs_it (gs_choose L lu ec) k i (RW, pa, pl, es)).2.2.1 ql' ∧
      ∀ (post : SY → Prop), post (gy N C L tm ds vc' qa' ql' dr ti aj ig off dl t1 t2 t3 t4 ct md la lb da db lu ((gs_it (gs_choose L lu ec) k i (RW, pa, pl, es)).2.2.2) st sv sa) → wY_step_652 post (k + 1) (nI i) (nI N) (nI C) tm (nI L) ds vc qa ql dr ti aj ig off dl t1 t2 t3 t4 ct md la lb da db lu es st sv sa
  | 0, i, RW, pa, pl, es, vc, qa, ql, hi, HD, HV, HS, HA, HP => ⟨vc, qa, ql, HD, HV, HS, HA, HP, fun post h => br_t (nI_le (by omega) (by have := K.2.1; omega)) h⟩
  | k + 1, i, RW, pa, pl, es, vc, qa, ql, hi, HD, HV, HS, HA, HP => by
    have hN := K.2.1
    obtain ⟨v1, a1, l1, D1, V1, S1, A1, P1, w1⟩ := y_bmc (C := C) (tm := tm) (dr := dr) (md := md) (da := da) (db := db) (lu := lu) (es := es) (ti := ti) (aj := aj) (ig := ig) (off := off) (dl := dl) (t1 := t1) (t2 := t2) (t3 := t3) (t4 := t4) (ct := ct) (c := i) hN K.2.2.1 (by omega) HE HD HV HS HA HP
    obtain ⟨v2, a2, l2, D2, V2, S2, A2, P2, w2⟩ := y_st5 K HE k (i + 1) _ _ _ (gs_choose L lu ec i (RW, pa, pl, es)).2.2.2 v1 a1 l1 (by omega) D1 V1 S1 A1 P1
    exact ⟨v2, a2, l2, D2, V2, S2, A2, P2, fun post h => br_f (nI_ge (by omega) (by omega)) (w1 _ (nm_r (nI_1 i) (w2 post h)))⟩
end
