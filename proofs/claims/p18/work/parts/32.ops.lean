/-! the law's operations -/
def gl_I (N L T : Nat) (seed : Int32) (lu ec ed : Nat → Int32) (ck : Nat → Nat) (E0 E1 U : Nat) (RW dr : Nat → Int32) (ti ms : Nat → Int64) (B : Int) : Prop :=
  gl_K N L seed lu ec ed ck E0 E1 U ∧ gv_I N L T ec RW ∧ (∀ c, c < 8 → -100000 ≤ (dr c).toInt ∧ (dr c).toInt ≤ 100000) ∧ gt_A N B ti ms ∧ (1 ≤ T ∧ T ≤ 4)
def gl_J (N T : Nat) (seed : Int32) (B : Int) (k i : Nat) (J : Int64 → Int64 → Int32 → Int32 → Int32 → Int32 → Int32 → Int32 → Int32 → Int32 → (Nat → Int32) → (Nat → Int32) → (Nat → Int64) → (Nat → Int32) → (Nat → Int32) → (Nat → Int64) → (Nat → Int32) → (Nat → Int32) → (Nat → Int32) → (Nat → Int32) → (Nat → Int32) → Prop) : Prop :=
  ∀ (L E0 E1 U : Nat) (ck : Nat → Nat) (RW dr : Nat → Int32) (ti : Nat → Int64) (pa pl : Nat → Int32) (ms : Nat → Int64) (md lu ec es ed : Nat → Int32), gl_I N L T seed lu ec ed ck E0 E1 U RW dr ti ms B → J (lN E0) (lN E1) (nI L) (nI U) (nI k) (nI i) (nI N) (nI 16) (nI T) (nI L) RW dr ti pa pl ms md lu ec es ed
theorem gt_mono {N : Nat} {B B' : Int} {ti ms : Nat → Int64} (h : B ≤ B') (H : gt_A N B ti ms) : gt_A N B' ti ms := by
  intro c hc
  obtain ⟨h1, h2⟩ := H c hc
  exact ⟨by omega, h2⟩
theorem gl_drb {v : Int32} : -100000 ≤ (gc_cl v (-100000) 100000).toInt ∧ (gc_cl v (-100000) 100000).toInt ≤ 100000 := by
  have a : (-100000 : Int32).toInt = -100000 := by decide
  have b : (100000 : Int32).toInt = 100000 := by decide
  unfold gc_cl
  by_cases h1 : v < -100000
  · rw [if_pos h1, a]; omega
  · rw [if_neg h1]
    by_cases h2 : 100000 < v
    · rw [if_pos h2, b]; omega
    · rw [if_neg h2]
      rw [Int32.lt_iff_toInt_lt, a] at h1
      rw [Int32.lt_iff_toInt_lt, b] at h2
      omega
theorem gl_tv (x : Int32) : ∃ w, w < 16777216 * 1000003 ∧ ((x &&& 16777215).toInt64) * 1000003 = lN w := by
  obtain ⟨w, hw, e⟩ := pk_andE x 24 (m := 16777215) (by decide)
  refine ⟨w * 1000003, by omega, ?_⟩
  rw [e, nI_l (by omega)]
  exact lN_mul w 1000003
theorem gl_clT {w : Nat} (h : w < 16777216 * 1000003) : gc_clL (lN w) 0 1000000000000000000 = lN w ∧ (lN w).toInt = (w : Int) := by
  have e : (lN w).toInt = (w : Int) := pk_lT (by omega)
  have z : (0 : Int64).toInt = 0 := by decide
  have m : (1000000000000000000 : Int64).toInt = 1000000000000000000 := by decide
  refine ⟨?_, e⟩
  unfold gc_clL
  rw [if_neg (by rw [Int64.lt_iff_toInt_lt, e, z]; omega), if_neg (by rw [Int64.lt_iff_toInt_lt, e, m]; omega)]
theorem gl_mod {c r n : Nat} (hc : c < n) (hr : r < n - 1) : (c + 1 + r) % n < n ∧ (c + 1 + r) % n ≠ c := by
  refine ⟨Nat.mod_lt _ (by omega), ?_⟩
  by_cases q : c + 1 + r < n
  · rw [Nat.mod_eq_of_lt q]; omega
  · rw [Nat.mod_eq_sub_mod (by omega), Nat.mod_eq_of_lt (by omega)]; omega
section
variable {N L T : Nat} {seed : Int32} {lu ec ed RW dr pa pl md es : Nat → Int32} {ti ms : Nat → Int64} {ck : Nat → Nat} {E0 E1 U : Nat}
theorem l_op {post : Int32 → Prop} {LS : Nat} {xs : Nat → Int32} {J : _} {B B' : Int} {k i : Nat} {x12 x13 z0 : Int32} {kc ks : Nat} (hLS : LS ≤ 260) (hk : k ≤ 100000) (hi : i ≤ 100000) (hB0 : 2 ^ 45 ≤ B) (hB : B + 2147483648 * 16 ≤ B') (hB2 : B' ≤ 2 ^ 57) (hJ : gl_J N T seed B' (k + 4) (i + 1) J) (H : gl_I N L T seed lu ec ed ck E0 E1 U RW dr ti ms B) :
    wL_law_122 post LS xs J (nI N) seed (lN E0) (lN E1) (nI L) (nI U) (nI k) x12 x13 (nI i) z0 kc ks (nI N) (nI 16) (nI T) (nI L) RW dr ti pa pl ms md lu ec es ed := by
  obtain ⟨HK, HI, HD, HA, hT⟩ := H
  have K := gl_ok HK
  have hN2 := HK.1
  have hN := HK.2.1
  have hL := HK.2.2.1
  have HA' := gt_mono (B' := B') (by omega) HA
  have same := hJ L E0 E1 U ck RW dr ti pa pl ms md lu ec es ed ⟨HK, HI, HD, HA', hT⟩
  unfold wL_law_122
  rw [nI_1 k, ix_a2, ix_a3]
  refine l_cell hLS (by omega) (fun r1 => l_cell hLS (by omega) (fun r2 => l_cell hLS (by omega) (fun r3 => nm_r (ix_a4 k) ⟨nI_ne0 (by omega) (by omega), ?_⟩)))
  obtain ⟨w1, hw1, ew1⟩ := pk_andE r1 8 (m := 255) (by decide)
  obtain ⟨w2, hw2, ew2⟩ := pk_andE r2 8 (m := 255) (by decide)
  have hc : w1 % N < N := Nat.mod_lt _ (by omega)
  refine nm_r (e' := nI (w1 % N)) (by rw [ew1]; exact pk_rem (by omega) (by omega) (by omega)) ?_
  generalize w1 % N = c at hc
  refine br_c (fun _ => ?_) (fun _ => br_c (fun _ => ?_) (fun _ => br_c (fun _ => ?_) (fun _ => br_c (fun _ => ?_) (fun _ => br_c (fun _ => ?_) (fun _ => br_c (fun _ => ?_) (fun _ => ?_))))))
  · exact x_setPriority hN hc (nm_r (nI_1 i) (hJ _ _ _ _ ck _ _ _ _ _ _ _ _ _ _ _ ⟨HK, gl_dsI hN hc (by omega) (gl_dsI hN hc (by omega) HI), HD, HA', hT⟩))
  · exact x_setQuality hN hc (nm_r (nI_1 i) (hJ _ _ _ _ ck _ _ _ _ _ _ _ _ _ _ _ ⟨HK, gl_dsI hN hc (by omega) (gl_dsI hN hc (by omega) (gl_dsI hN hc (by omega) HI)), HD, HA', hT⟩))
  · refine ⟨by decide, x_setDrift hN hc (nm_r (nI_1 i) (hJ _ _ _ _ ck _ _ _ _ _ _ _ _ _ _ _ ⟨HK, HI, fun d hd => ?_, HA', hT⟩))⟩
    by_cases q : d = c
    · subst q; rw [pk_us]; exact gl_drb
    · rw [pk_un q]; exact HD d hd
  · obtain ⟨w, hw, ew⟩ := gl_tv r2
    rw [ew]
    obtain ⟨c1, c2⟩ := gl_clT hw
    refine x_setTime hN hc (nm_r (nI_1 i) (hJ _ _ _ _ ck _ _ _ _ _ _ _ _ _ _ _ ⟨HK, HI, HD, fun d hd => ?_, hT⟩))
    obtain ⟨a1, a2⟩ := HA' d hd
    refine ⟨?_, a2⟩
    by_cases q : d = c
    · subst q; rw [pk_uLs, c1, c2]; omega
    · rw [pk_uLn q]; exact a1
  · by_cases q : L = 0
    · subst q
      exact br_t (nI_le (a := 0) (b := 0) (by omega) (by omega)) (nm_r (nI_1 i) same)
    · refine br_f (nI_nle (by omega) (by omega)) ⟨nI_ne0 (by omega) (by omega), ?_⟩
      have hl : w2 % L < L := Nat.mod_lt _ (by omega)
      refine nm_r (e' := nI (w2 % L)) (by rw [ew2]; exact pk_rem (by omega) (by omega) (by omega)) ?_
      generalize w2 % L = l at hl
      have lk : ∀ up : Int32, (up = 0 ∨ up = 1) → wL_law_329 post LS xs J (nI N) seed (lN E0) (lN E1) (nI L) (nI U) (nI (k + 4)) x12 x13 (nI i) (nI l) up kc ks (nI N) (nI 16) (nI T) (nI L) RW dr ti pa pl ms md lu ec es ed := by
        intro up hup
        have K2 := gl_setUp HK hl hup
        unfold wL_law_329
        refine x_setLinkUp hL hl hup (fun z => br_f (by decide) ?_) (fun z => br_f (by decide) ?_)
        · have e : upd lu l up = lu := by
            funext j
            by_cases y : j = l
            · subst y; rw [pk_us]; exact z.symm
            · rw [pk_un y]
          rw [e] at K2
          rcases hup with rfl | rfl
          · rw [if_pos rfl] at K2
            exact br_t rfl (nm_r (bm_clr (by omega)) (nm_r (nI_1 i) (hJ _ _ _ _ ck _ _ _ _ _ _ _ _ _ _ _ ⟨K2, HI, HD, HA', hT⟩)))
          · rw [if_neg (by decide)] at K2
            exact br_f (by decide) (nm_r (bm_set (by omega)) (nm_r (nI_1 i) (hJ _ _ _ _ ck _ _ _ _ _ _ _ _ _ _ _ ⟨K2, HI, HD, HA', hT⟩)))
        · have I2 := gl_clr (l := l) hN HI
          rcases hup with rfl | rfl
          · rw [if_pos rfl] at K2
            exact br_t rfl (nm_r (bm_clr (by omega)) (nm_r (nI_1 i) (hJ _ _ _ _ ck _ _ _ _ _ _ _ _ _ _ _ ⟨K2, I2, HD, HA', hT⟩)))
          · rw [if_neg (by decide)] at K2
            exact br_f (by decide) (nm_r (bm_set (by omega)) (nm_r (nI_1 i) (hJ _ _ _ _ ck _ _ _ _ _ _ _ _ _ _ _ ⟨K2, I2, HD, HA', hT⟩)))
      exact br_c (fun _ => lk 1 (Or.inr rfl)) (fun _ => lk 0 (Or.inl rfl))
  · have e1 : nI N - 1 = nI (N - 1) := pk_sub (b := 1) (by omega)
    rw [e1, ew2]
    have hr : w2 % (N - 1) < N - 1 := Nat.mod_lt _ (by omega)
    obtain ⟨hb, hbc⟩ := gl_mod hc hr
    refine ⟨nI_ne0 (by omega) (by omega), nI_ne0 (by omega) (by omega), nm_r (e' := nI ((c + 1 + w2 % (N - 1)) % N)) ?_ ?_⟩
    · rw [nI_1 c, pk_rem (by omega) (by omega) (by omega), nI_add]
      exact pk_rem (by omega) (by omega) (by omega)
    · generalize (c + 1 + w2 % (N - 1)) % N = b at hb hbc
      refine l_del (l_del (x_addLink hN hL (by omega) hc hb (fun z => hbc z.symm) (fun _ => br_t (by decide) (nm_r (nI_1 i) same)) (fun nJ hlt => ?_)))
      refine br_f (nI_pos (by omega)) (br_f (nI_ge (b := 16) hlt (by omega)) ?_)
      have K2 := gl_add HK hlt hc hb (fun z => hbc z.symm) nJ
      have I2 := gl_addI (a := nI c) (b := nI b) hN HI
      rw [gw_dl_cl, gw_dl_cl]
      obtain ⟨_, _, q2, q3, q4, _⟩ := HK.2.2.2.2.2.2.2.2.1
      by_cases g : L < 8
      · rw [if_pos g, if_pos g] at K2
        refine br_f (nI_ge (b := 8) g (by omega)) (l_put (by rw [show L % 8 = L by omega]; exact q2 (by omega)) (by omega) (by omega) ?_ (by omega))
        exact nm_r (bm_set (by omega)) (nm_r (nI_1 L) (nm_r (nI_1 i) (hJ _ _ _ _ _ _ _ _ _ _ _ _ _ _ _ _ ⟨K2, I2, HD, HA', hT⟩)))
      · rw [if_neg g, if_neg g] at K2
        refine br_t (nI_le (a := 8) (by omega) (by omega)) (l_put (by rw [show L % 8 = L - 8 by omega]; exact q4 (by omega) (by omega)) (by omega) (by omega) ?_ (by omega))
        exact nm_r (bm_set (by omega)) (nm_r (nI_1 L) (nm_r (nI_1 i) (hJ _ _ _ _ _ _ _ _ _ _ _ _ _ _ _ _ ⟨K2, I2, HD, HA', hT⟩)))
  · obtain ⟨w, hw, ew⟩ := pk_andE r2 4 (m := 15) (by decide)
    rw [ew]
    have I0 : gq_Q N 16 L (nI T) dr lu ec ed (RW, pa, pl, es) B 0 (gx N 16 L (nI T) RW dr ti pa pl ms md lu ec es ed) := ⟨ti, ms, md, rfl, fun _ => gt_mono (by omega) HA⟩
    obtain ⟨u', ⟨ti', ms', md', rfl, HA2⟩, wk⟩ := gq_run K (by omega) (gl_D HK HD) (k := w) (by omega) I0
    have SH : sq_H N L T lu ec ck (gq_S N L (nI T) lu ec (RW, pa, pl, es)) := ⟨hN, hL, hT, HK.2.2.2.2.1, HI, fun _ => rfl⟩
    exact wk _ (nm_r (nI_1 i) (hJ _ _ _ _ ck _ _ _ _ _ _ _ _ _ _ _ ⟨HK, sq_I SH _, HD, gt_mono (by omega) (HA2 (by omega)), hT⟩))
theorem l_ops {post : Int32 → Prop} {LS : Nat} {xs : Nat → Int32} {m tot kc ks : Nat} (hLS : LS ≤ 260) (hm : m ≤ 16) (ht : tot ≤ 47)
    (hfin : gl_J N T seed (2 ^ 46) (5 + 4 * tot) tot (wL_law_95 post LS xs (nI N) seed (nI m) (nI tot) kc ks 1)) : ∀ d i, i + d = tot → gl_J N T seed (2 ^ 45 + 2147483648 * 16 * i) (5 + 4 * i) i (wL_law_95 post LS xs (nI N) seed (nI m) (nI tot) kc ks (d + 1))
  | 0, i, hi => by
    obtain rfl : i = tot := by omega
    intro L E0 E1 U ck RW dr ti pa pl ms md lu ec es ed H
    exact hfin L E0 E1 U ck RW dr ti pa pl ms md lu ec es ed ⟨H.1, H.2.1, H.2.2.1, gt_mono (by omega) H.2.2.2.1, H.2.2.2.2⟩
  | d + 1, i, hi => by
    intro L E0 E1 U ck RW dr ti pa pl ms md lu ec es ed H
    have ih := l_ops hLS hm ht hfin d (i + 1) (by omega)
    rw [show 5 + 4 * (i + 1) = 5 + 4 * i + 4 by omega] at ih
    have op := fun z0 => l_op (post := post) (xs := xs) (pa := pa) (pl := pl) (md := md) (es := es) (x12 := nI m) (x13 := nI tot) (z0 := z0) (kc := kc) (ks := ks) (k := 5 + 4 * i) (i := i) hLS (by omega) (by omega) (by omega) (by omega) (by omega) ih H
    refine br_f (nI_ge (by omega) (by omega)) ?_
    by_cases q : m ≤ i
    · exact br_t (nI_le q (by omega)) (l_cell hLS (by omega) (fun r => op _))
    · exact br_f (nI_ge (by omega) (by omega)) (op 5)
end
