/-! the reference's step against the component's pictures: phases 1 to 3 -/
theorem gc_uu (a : Nat → Int32) (k : Nat) (x y : Int32) : upd (upd a k x) k y = upd a k y := by
  funext j
  by_cases h : j = k
  · subst h; rw [pk_us, pk_us]
  · rw [pk_un h, pk_un h, pk_un h]
theorem gs_msM {ec ed : Nat → Int32} {ti ms off dl t1 t2 t3 t4 aj ig ct : Nat → Int64} {c e j : Nat} (hc : c < 8) (hj : j < 2 ^ 31) (ej : ec (gc_ot e) = nI j) (H : gc_M ms off dl t1 t2 t3 t4 aj ig ct) :
    gc_M (gs_ms ec ed ti ms c e)
      (vp_updL off c (((ti c + (ed (gc_ot e)).toInt64 - ti j) - (ti j + (ed (gc_ot e)).toInt64 + (ed e).toInt64 - (ti c + (ed (gc_ot e)).toInt64))) / 2))
      (vp_updL dl c (((ti c + (ed (gc_ot e)).toInt64 - ti j) + (ti j + (ed (gc_ot e)).toInt64 + (ed e).toInt64 - (ti c + (ed (gc_ot e)).toInt64))) / 2))
      (vp_updL t1 c (ti j)) (vp_updL t2 c (ti c + (ed (gc_ot e)).toInt64)) (vp_updL t3 c (ti c + (ed (gc_ot e)).toInt64)) (vp_updL t4 c (ti j + (ed (gc_ot e)).toInt64 + (ed e).toInt64)) aj ig (vp_updL ct c (ct c + 1)) := by
  unfold gs_ms
  rw [ej, nI_clamp hj]
  dsimp only
  have H6 := gc_M5 (v := ti j + (ed (gc_ot e)).toInt64 + (ed e).toInt64) hc (gc_M4 (v := ti c + (ed (gc_ot e)).toInt64) hc (gc_M3 (v := ti c + (ed (gc_ot e)).toInt64) hc (gc_M2 (v := ti j) hc (gc_M1 (v := (((ti c + (ed (gc_ot e)).toInt64 - ti j) + (ti j + (ed (gc_ot e)).toInt64 + (ed e).toInt64 - (ti c + (ed (gc_ot e)).toInt64))) / 2)) hc (gc_M0 (v := (((ti c + (ed (gc_ot e)).toInt64 - ti j) - (ti j + (ed (gc_ot e)).toInt64 + (ed e).toInt64 - (ti c + (ed (gc_ot e)).toInt64))) / 2)) hc H)))))
  have e8 := (H6 c hc).2.2.2.2.2.2.2.2
  rw [e8]
  exact gc_M8 hc H6
section
variable {N C L : Nat} {tm : Int32} {RW ds vc pa pl qa ql dr md la lb da db lu es st sv sa ec ed : Nat → Int32} {ti ms aj ig off dl t1 t2 t3 t4 ct : Nat → Int64}
theorem y_m160 {post : SY → Prop} {J2 : _} {c j : Nat} {x5 z0 : Int64} (hc : c < 8) (hj : j < 8)
    (h : J2 (nI (c + 1)) ds vc qa ql dr ti aj ig (vp_updL off c (((ti c + x5 - ti j) - (ti j + x5 + z0 - (ti c + x5))) / 2)) (vp_updL dl c (((ti c + x5 - ti j) + (ti j + x5 + z0 - (ti c + x5))) / 2)) (vp_updL t1 c (ti j)) (vp_updL t2 c (ti c + x5)) (vp_updL t3 c (ti c + x5)) (vp_updL t4 c (ti j + x5 + z0)) (vp_updL ct c (ct c + 1)) (upd md c 1) la lb da db lu es st sv sa) : wY_step_160 post J2 (nI c) (nI j) x5 z0 (nI N) (nI C) tm (nI L) ds vc qa ql dr ti aj ig off dl t1 t2 t3 t4 ct md la lb da db lu es st sv sa := by
  have v : vp_in (nI c) 8 := vp_in_nI hc (by omega)
  have w : vp_in (nI j) 8 := vp_in_nI hj (by omega)
  unfold wY_step_160
  simp (disch := omega) only [nI_clamp]
  exact ⟨w, nm_e ⟨v, nm_e ⟨w, nm_e ⟨v, nm_e ⟨v, nm_e ⟨v, nm_e ⟨v, nm_e ⟨by decide, v, nm_e ⟨by decide, v, nm_e ⟨v, v, nm_e ⟨v, nm_e (nm_r (nI_1 c) h)⟩⟩⟩⟩⟩⟩⟩⟩⟩⟩⟩
theorem y_side {post : Int32 → Prop} {l : Nat} {x : Int32} (hl : l < 16) (h : post (if la l = x then 0 else if lb l = x then 1 else -1)) : wpY_side post (gy N C L tm ds vc qa ql dr ti aj ig off dl t1 t2 t3 t4 ct md la lb da db lu es st sv sa) x (nI l) := by
  unfold wpY_side
  rw [nI_clamp (by omega)]
  refine ⟨vp_in_nI hl (by omega), ?_⟩
  by_cases a : la l = x
  · rw [if_pos a] at h
    exact br_t a h
  · rw [if_neg a] at h
    refine br_f a ⟨vp_in_nI hl (by omega), ?_⟩
    by_cases b : lb l = x
    · rw [if_pos b] at h
      exact br_t b h
    · rw [if_neg b] at h
      exact br_f b h
/-- phase 1, one clock -/
theorem y_m1 {c : Nat} (K : gx_ok N L lu ec) (hc : c < N) (HE : gc_E N L ec la lb) (HW : gc_W L ed da db) (HP : gc_P N pl ql) (H : gc_M ms off dl t1 t2 t3 t4 aj ig ct) :
    ∃ off' dl' t1' t2' t3' t4' ct', gc_M (gs_meas L pl lu ec es ed ti c (md, ms)).2 off' dl' t1' t2' t3' t4' aj ig ct' ∧
      ∀ (post : SY → Prop) n, wY_step_2 post (nI N) (nI C) tm (nI L) n (nI (c + 1)) ds vc qa ql dr ti aj ig off' dl' t1' t2' t3' t4' ct' ((gs_meas L pl lu ec es ed ti c (md, ms)).1) la lb da db lu es st sv sa → wY_step_2 post (nI N) (nI C) tm (nI L) (n + 1) (nI c) ds vc qa ql dr ti aj ig off dl t1 t2 t3 t4 ct md la lb da db lu es st sv sa := by
  have hN : N ≤ 8 := K.2.1
  have hL : L ≤ 16 := K.2.2.1
  have v : vp_in (nI c) 8 := vp_in_nI (by omega) (by omega)
  have e0 : upd md (nI c).toNatClampNeg (vp_nar .boolean 0) = upd md c 0 := by
    rw [nI_clamp (by omega)]; rfl
  have eq : ql (nI c).toNatClampNeg = pl c := by
    rw [nI_clamp (by omega)]; exact (HP c hc).symm
  have g : ¬ nI N ≤ nI c := nI_ge hc (by omega)
  by_cases hx : pl c < 0
  · have q : gs_meas L pl lu ec es ed ti c (md, ms) = (upd md c 0, ms) := by
      unfold gs_meas gs_end
      rw [if_pos (Or.inl hx)]
    rw [q]
    exact ⟨off, dl, t1, t2, t3, t4, ct, H, fun post n h => br_f g ⟨v, nm_r e0 ⟨v, nm_r eq (br_t hx (nm_r (nI_1 c) h))⟩⟩⟩
  · by_cases hy : nI L ≤ pl c
    · have q : gs_meas L pl lu ec es ed ti c (md, ms) = (upd md c 0, ms) := by
        unfold gs_meas gs_end
        rw [if_pos (Or.inr hy)]
      rw [q]
      exact ⟨off, dl, t1, t2, t3, t4, ct, H, fun post n h => br_f g ⟨v, nm_r e0 ⟨v, nm_r eq (br_f hx (br_t hy (nm_r (nI_1 c) h)))⟩⟩⟩
    · obtain ⟨l, hl, el⟩ : ∃ l, l < L ∧ pl c = nI l := by
        rcases pk_ix (pl c) (n := L) (by omega) with h | h | h
        · exact absurd h hx
        · exact absurd h hy
        · exact h
      obtain ⟨g1, g2, ⟨ja, hja, eja⟩, ⟨jb, hjb, ejb⟩⟩ := HE l hl
      obtain ⟨w1, w2⟩ := HW l hl
      have vl : vp_in (nI l) 16 := vp_in_nI (by omega) (by omega)
      have E : gs_end L ec c (pl c) = if ec (2 * l) = nI c then some (2 * l) else if ec (2 * l + 1) = nI c then some (2 * l + 1) else none := by
        unfold gs_end
        rw [if_neg (fun z => z.elim hx hy), el, nI_clamp (by omega)]
      rw [el] at hx hy eq
      by_cases hu : lu l = 0
      · have q : gs_meas L pl lu ec es ed ti c (md, ms) = (upd md c 0, ms) := by
          unfold gs_meas
          rw [E]
          by_cases a : ec (2 * l) = nI c
          · rw [if_pos a]
            dsimp only
            rw [if_neg (fun z => z.1 (by rw [show 2 * l / 2 = l by omega]; exact hu))]
          · rw [if_neg a]
            by_cases b : ec (2 * l + 1) = nI c
            · rw [if_pos b]
              dsimp only
              rw [if_neg (fun z => z.1 (by rw [show (2 * l + 1) / 2 = l by omega]; exact hu))]
            · rw [if_neg b]
        rw [q]
        exact ⟨off, dl, t1, t2, t3, t4, ct, H, fun post n h => br_f g ⟨v, nm_r e0 ⟨v, nm_r eq (br_f hx (br_f hy ⟨vl, br_t (by rw [nI_clamp (by omega)]; exact hu) (nm_r (nI_1 c) h)⟩))⟩⟩⟩
      · have hu' : ¬ lu (nI l).toNatClampNeg = 0 := by rw [nI_clamp (by omega)]; exact hu
        by_cases a : la l = nI c
        · have a' : ec (2 * l) = nI c := by rw [g1]; exact a
          by_cases cd : es (2 * l) = 2 ∧ es (2 * l + 1) = 1
          · have q : gs_meas L pl lu ec es ed ti c (md, ms) = (upd md c 1, gs_ms ec ed ti ms c (2 * l)) := by
              unfold gs_meas
              rw [E, if_pos a']
              dsimp only
              rw [gc_ot0, show 2 * l / 2 = l by omega, if_pos ⟨hu, cd⟩]
            have M := gs_msM (ec := ec) (ed := ed) (ti := ti) (e := 2 * l) (c := c) (j := jb) (by omega) (by omega) (by rw [gc_ot0, g2]; exact ejb) H
            rw [gc_ot0, w2, w1] at M
            rw [q]
            refine ⟨_, _, _, _, _, _, _, M, fun post n h => br_f g ⟨v, nm_r e0 ⟨v, nm_r eq (br_f hx (br_f hy ⟨vl, br_f hu' (y_side (by omega) ?_)⟩))⟩⟩⟩
            rw [if_pos a]
            simp (disch := omega) only [ix_m6, ix_m8, ix_m9, ix_m10, ix_m2, ix_2m, ix_8a, ix_16a, ix_a0, ix_a1, ix_a2, ix_a3, ix_a4, ix_a5, ix_a6, ix_a7, ix_a8, ix_a9, nI_add, nI_clamp, Nat.mul_comm l 2, Nat.add_zero, Int32.sub_zero, nI_pred]
            refine br_t (by decide) ⟨vp_in_nI (by omega) (by omega), br_t cd.1 ⟨vp_in_nI (by omega) (by omega), br_t cd.2 (br_t (by trivial) ⟨vl, br_t rfl ⟨vl, br_t rfl ⟨vl, ?_⟩⟩⟩)⟩⟩
            rw [nI_clamp (by omega), ejb]
            refine y_m160 (by omega) (by omega) ?_
            rw [gc_uu]
            exact h
          · have q : gs_meas L pl lu ec es ed ti c (md, ms) = (upd md c 0, ms) := by
              unfold gs_meas
              rw [E, if_pos a']
              dsimp only
              rw [gc_ot0, if_neg (fun z => cd z.2)]
            rw [q]
            refine ⟨off, dl, t1, t2, t3, t4, ct, H, fun post n h => br_f g ⟨v, nm_r e0 ⟨v, nm_r eq (br_f hx (br_f hy ⟨vl, br_f hu' (y_side (by omega) ?_)⟩))⟩⟩⟩
            rw [if_pos a]
            simp (disch := omega) only [ix_m6, ix_m8, ix_m9, ix_m10, ix_m2, ix_2m, ix_8a, ix_16a, ix_a0, ix_a1, ix_a2, ix_a3, ix_a4, ix_a5, ix_a6, ix_a7, ix_a8, ix_a9, nI_add, nI_clamp, Nat.mul_comm l 2, Nat.add_zero, Int32.sub_zero, nI_pred]
            refine br_t (by decide) ⟨vp_in_nI (by omega) (by omega), ?_⟩
            by_cases d : es (2 * l) = 2
            · exact br_t d ⟨vp_in_nI (by omega) (by omega), br_f (fun z => cd ⟨d, z⟩) (nm_e h)⟩
            · exact br_f d (nm_e h)
        · have a' : ¬ ec (2 * l) = nI c := by rw [g1]; exact a
          by_cases b : lb l = nI c
          · have b' : ec (2 * l + 1) = nI c := by rw [g2]; exact b
            by_cases cd : es (2 * l + 1) = 2 ∧ es (2 * l) = 1
            · have q : gs_meas L pl lu ec es ed ti c (md, ms) = (upd md c 1, gs_ms ec ed ti ms c (2 * l + 1)) := by
                unfold gs_meas
                rw [E, if_neg a', if_pos b']
                dsimp only
                rw [gc_ot1, show (2 * l + 1) / 2 = l by omega, if_pos ⟨hu, cd⟩]
              have M := gs_msM (ec := ec) (ed := ed) (ti := ti) (e := 2 * l + 1) (c := c) (j := ja) (by omega) (by omega) (by rw [gc_ot1, g1]; exact eja) H
              rw [gc_ot1, w2, w1] at M
              rw [q]
              refine ⟨_, _, _, _, _, _, _, M, fun post n h => br_f g ⟨v, nm_r e0 ⟨v, nm_r eq (br_f hx (br_f hy ⟨vl, br_f hu' (y_side (by omega) ?_)⟩))⟩⟩⟩
              rw [if_neg a, if_pos b]
              simp (disch := omega) only [ix_m6, ix_m8, ix_m9, ix_m10, ix_m2, ix_2m, ix_8a, ix_16a, ix_a0, ix_a1, ix_a2, ix_a3, ix_a4, ix_a5, ix_a6, ix_a7, ix_a8, ix_a9, nI_add, nI_clamp, Nat.mul_comm l 2, nI_pred]
              refine br_t (by decide) ⟨vp_in_nI (by omega) (by omega), br_t cd.1 ⟨vp_in_nI (by omega) (by omega), br_t cd.2 (br_f (by decide) ⟨vl, br_f (by decide) ⟨vl, br_f (by decide) ⟨vl, ?_⟩⟩⟩)⟩⟩
              rw [nI_clamp (by omega), eja]
              refine y_m160 (by omega) (by omega) ?_
              rw [gc_uu]
              exact h
            · have q : gs_meas L pl lu ec es ed ti c (md, ms) = (upd md c 0, ms) := by
                unfold gs_meas
                rw [E, if_neg a', if_pos b']
                dsimp only
                rw [gc_ot1, if_neg (fun z => cd z.2)]
              rw [q]
              refine ⟨off, dl, t1, t2, t3, t4, ct, H, fun post n h => br_f g ⟨v, nm_r e0 ⟨v, nm_r eq (br_f hx (br_f hy ⟨vl, br_f hu' (y_side (by omega) ?_)⟩))⟩⟩⟩
              rw [if_neg a, if_pos b]
              simp (disch := omega) only [ix_m6, ix_m8, ix_m9, ix_m10, ix_m2, ix_2m, ix_8a, ix_16a, ix_a0, ix_a1, ix_a2, ix_a3, ix_a4, ix_a5, ix_a6, ix_a7, ix_a8, ix_a9, nI_add, nI_clamp, Nat.mul_comm l 2, nI_pred]
              refine br_t (by decide) ⟨vp_in_nI (by omega) (by omega), ?_⟩
              by_cases d : es (2 * l + 1) = 2
              · exact br_t d ⟨vp_in_nI (by omega) (by omega), br_f (fun z => cd ⟨d, z⟩) (nm_e h)⟩
              · exact br_f d (nm_e h)
          · have b' : ¬ ec (2 * l + 1) = nI c := by rw [g2]; exact b
            have q : gs_meas L pl lu ec es ed ti c (md, ms) = (upd md c 0, ms) := by
              unfold gs_meas
              rw [E, if_neg a', if_neg b']
            rw [q]
            refine ⟨off, dl, t1, t2, t3, t4, ct, H, fun post n h => br_f g ⟨v, nm_r e0 ⟨v, nm_r eq (br_f hx (br_f hy ⟨vl, br_f hu' (y_side (by omega) ?_)⟩))⟩⟩⟩
            rw [if_neg a, if_neg b]
            exact br_f (by decide) (nm_r (nI_1 c) h)
/-- phase 1 -/
theorem y_st1 (K : gx_ok N L lu ec) (HE : gc_E N L ec la lb) (HW : gc_W L ed da db) (HP : gc_P N pl ql) : ∀ k i md ms off dl t1 t2 t3 t4 ct, i + k = N → gc_M ms off dl t1 t2 t3 t4 aj ig ct →
    ∃ off' dl' t1' t2' t3' t4' ct', gc_M (gs_it (gs_meas L pl lu ec es ed ti) k i (md, ms)).2 off' dl' t1' t2' t3' t4' aj ig ct' ∧
      ∀ (post : SY → Prop), (∃ n, wY_step_304 post (nI N) (nI C) tm (nI L) n 0 ds vc qa ql dr ti aj ig off' dl' t1' t2' t3' t4' ct' ((gs_it (gs_meas L pl lu ec es ed ti) k i (md, ms)).1) la lb da db lu es st sv sa) → wY_step_2 post (nI N) (nI C) tm (nI L) (k + 1) (nI i) ds vc qa ql dr ti aj ig off dl t1 t2 t3 t4 ct md la lb da db lu es st sv sa
  | 0, i, md, ms, off, dl, t1, t2, t3, t4, ct, hi, H => ⟨off, dl, t1, t2, t3, t4, ct, H, fun post h => br_t (nI_le (by omega) (by have := K.2.1; omega)) h⟩
  | k + 1, i, md, ms, off, dl, t1, t2, t3, t4, ct, hi, H => by
    obtain ⟨o1, d1, a1, a2, a3, a4, c1, H1, w1⟩ := y_m1 (C := C) (tm := tm) (ds := ds) (vc := vc) (qa := qa) (dr := dr) (st := st) (sv := sv) (sa := sa) (ti := ti) (es := es) (md := md) (c := i) K (by omega) HE HW HP H
    obtain ⟨o2, d2, b1, b2, b3, b4, c2, H2, w2⟩ := y_st1 K HE HW HP k (i + 1) _ _ o1 d1 a1 a2 a3 a4 c1 (by omega) H1
    exact ⟨o2, d2, b1, b2, b3, b4, c2, H2, fun post h => w1 post (k + 1) (w2 post h)⟩
/-- phase 2 -/
theorem y_st2 (K : gx_ok N L lu ec) : ∀ k i ti ms aj ig, i + k = N → gc_M ms off dl t1 t2 t3 t4 aj ig ct →
    ∃ aj' ig', gc_M (gs_it (gs_steer md) k i (ti, ms)).2 off dl t1 t2 t3 t4 aj' ig' ct ∧
      ∀ (post : SY → Prop), (∃ n, wY_step_428 post (nI N) (nI C) tm (nI L) n 0 ds vc qa ql dr ((gs_it (gs_steer md) k i (ti, ms)).1) aj' ig' off dl t1 t2 t3 t4 ct md la lb da db lu es st sv sa) → wY_step_304 post (nI N) (nI C) tm (nI L) (k + 1) (nI i) ds vc qa ql dr ti aj ig off dl t1 t2 t3 t4 ct md la lb da db lu es st sv sa
  | 0, i, ti, ms, aj, ig, hi, H => ⟨aj, ig, H, fun post h => br_t (nI_le (by omega) (by have := K.2.1; omega)) h⟩
  | k + 1, i, ti, ms, aj, ig, hi, H => by
    have hN : N ≤ 8 := K.2.1
    have v : vp_in (nI i) 8 := vp_in_nI (by omega) (by omega)
    have g : ¬ nI N ≤ nI i := nI_ge (by omega) (by omega)
    have o : off (nI i).toNatClampNeg = ms (i * 9 + 0) := by
      rw [nI_clamp (by omega)]; exact (H i (by omega)).1.symm
    have o7 : ig i = ms (i * 9 + 7) := (H i (by omega)).2.2.2.2.2.2.2.1.symm
    by_cases a : md i = 0
    · have q : gs_steer md i (ti, ms) = (ti, ms) := by
        unfold gs_steer
        rw [if_pos a]
      obtain ⟨aj', ig', H', w⟩ := y_st2 K k (i + 1) ti ms aj ig (by omega) H
      have q2 : gs_it (gs_steer md) (k + 1) i (ti, ms) = gs_it (gs_steer md) k (i + 1) (ti, ms) := congrArg (gs_it (gs_steer md) k (i + 1)) q
      rw [q2]
      exact ⟨aj', ig', H', fun post h => br_f g ⟨v, br_t (by rw [nI_clamp (by omega)]; exact a) (nm_r (nI_1 i) (w post h))⟩⟩
    · have a' : ¬ md (nI i).toNatClampNeg = 0 := by rw [nI_clamp (by omega)]; exact a
      by_cases b : 1000000 < ms (i * 9 + 0) ∨ ms (i * 9 + 0) < -1000000
      · have q : gs_steer md i (ti, ms) = (vp_updL ti i (ti i - ms (i * 9 + 0)), ms) := by
          unfold gs_steer
          rw [if_neg a, if_pos b]
        obtain ⟨aj', ig', H', w⟩ := y_st2 K k (i + 1) (vp_updL ti i (ti i - ms (i * 9 + 0))) ms aj ig (by omega) H
        have q2 : gs_it (gs_steer md) (k + 1) i (ti, ms) = gs_it (gs_steer md) k (i + 1) (vp_updL ti i (ti i - ms (i * 9 + 0)), ms) := congrArg (gs_it (gs_steer md) k (i + 1)) q
        rw [q2]
        refine ⟨aj', ig', H', fun post h => br_f g ⟨v, br_f a' ⟨v, nm_r o ?_⟩⟩⟩
        have f : wY_step_347 post (wY_step_304 post (nI N) (nI C) tm (nI L) (k + 1)) (nI i) (ms (i * 9 + 0)) (nI N) (nI C) tm (nI L) ds vc qa ql dr ti aj ig off dl t1 t2 t3 t4 ct md la lb da db lu es st sv sa := by
          unfold wY_step_347
          rw [nI_clamp (by omega)]
          exact ⟨v, v, nm_e (nm_r (nI_1 i) (w post h))⟩
        by_cases b1 : 1000000 < ms (i * 9 + 0)
        · exact br_t b1 f
        · exact br_f b1 (br_f (Int64.not_le.mpr (b.resolve_left b1)) f)
      · have q : gs_steer md i (ti, ms) = (ti, vp_updL (vp_updL ms (i * 9 + 7) (gc_clL (ms (i * 9 + 7) - ms (i * 9 + 0) / 8) (-500000) 500000)) (i * 9 + 6) (gc_clL (gc_clL (ms (i * 9 + 7) - ms (i * 9 + 0) / 8) (-500000) 500000 - ms (i * 9 + 0) / 2) (-500000) 500000)) := by
          unfold gs_steer
          rw [if_neg a, if_neg b]
        obtain ⟨aj', ig', H', w⟩ := y_st2 K k (i + 1) ti _ _ _ (by omega) (gc_M6 (v := gc_clL (gc_clL (ms (i * 9 + 7) - ms (i * 9 + 0) / 8) (-500000) 500000 - ms (i * 9 + 0) / 2) (-500000) 500000) (c := i) (by omega) (gc_M7 (v := gc_clL (ms (i * 9 + 7) - ms (i * 9 + 0) / 8) (-500000) 500000) (c := i) (by omega) H))
        have q2 := congrArg (gs_it (gs_steer md) k (i + 1)) q
        have q3 : gs_it (gs_steer md) (k + 1) i (ti, ms) = gs_it (gs_steer md) k (i + 1) (gs_steer md i (ti, ms)) := rfl
        rw [q3, q2]
        refine ⟨aj', ig', H', fun post h => br_f g ⟨v, br_f a' ⟨v, nm_r o (br_f (fun z => b (Or.inl z)) (br_t (Int64.not_lt.mp (fun z => b (Or.inr z))) ⟨v, by decide, ?_⟩))⟩⟩⟩
        rw [nI_clamp (by omega), o7]
        refine y_clampL ⟨v, nm_e ⟨v, by decide, y_clampL ?_⟩⟩
        rw [pk_uLs]
        exact ⟨v, nm_e (nm_r (nI_1 i) (w post h))⟩
/-- phase 3 -/
theorem y_st3 (K : gx_ok N L lu ec) (H : gc_M ms off dl t1 t2 t3 t4 aj ig ct) {post : SY → Prop} : ∀ k i ti, i + k = N → (∃ n, wY_step_475 post n 0 (nI N) (nI C) tm (nI L) ds vc qa ql dr (gs_it (gs_adv dr ms) k i ti) aj ig off dl t1 t2 t3 t4 ct md la lb da db lu es st sv sa) → wY_step_428 post (nI N) (nI C) tm (nI L) (k + 1) (nI i) ds vc qa ql dr ti aj ig off dl t1 t2 t3 t4 ct md la lb da db lu es st sv sa
  | 0, i, ti, hi, h => br_t (nI_le (by omega) (by have := K.2.1; omega)) h
  | k + 1, i, ti, hi, h => by
    have hN : N ≤ 8 := K.2.1
    have v : vp_in (nI i) 8 := vp_in_nI (by omega) (by omega)
    have q : vp_updL ti (nI i).toNatClampNeg ((((ti (nI i).toNatClampNeg) + 1000000000) + ((dr (nI i).toNatClampNeg).toInt64)) + (aj (nI i).toNatClampNeg)) = gs_adv dr ms i ti := by
      rw [nI_clamp (by omega), ← (H i (by omega)).2.2.2.2.2.2.1]
      rfl
    exact br_f (nI_ge (by omega) (by omega)) ⟨v, v, v, v, nm_r q (nm_r (nI_1 i) (y_st3 K H k (i + 1) _ (by omega) h))⟩
end
