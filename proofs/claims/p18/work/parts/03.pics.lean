/-! the component's own walks as pure pictures -/
def gc_ot (e : Nat) : Nat := if e % 2 = 0 then e + 1 else e - 1
theorem gc_ot0 (l : Nat) : gc_ot (2 * l) = 2 * l + 1 := if_pos (by omega)
theorem gc_ot1 (l : Nat) : gc_ot (2 * l + 1) = 2 * l := if_neg (by omega)
theorem gc_otx : ∀ e, e < 32 → e ^^^ 1 = gc_ot e := by decide
theorem gc_otlt {e n : Nat} (h : e < 2 * n) : gc_ot e < 2 * n := by
  unfold gc_ot
  split <;> omega
/-! indices: literals against nI -/
theorem ix_m6 (a : Nat) : nI a * 6 = nI (a * 6) := pk_mul a 6
theorem ix_m8 (a : Nat) : nI a * 8 = nI (a * 8) := pk_mul a 8
theorem ix_m9 (a : Nat) : nI a * 9 = nI (a * 9) := pk_mul a 9
theorem ix_m10 (a : Nat) : nI a * 10 = nI (a * 10) := pk_mul a 10
theorem ix_m2 (a : Nat) : nI a * 2 = nI (a * 2) := pk_mul a 2
theorem ix_2m (a : Nat) : 2 * nI a = nI (2 * a) := pk_mul 2 a
theorem ix_8a (a : Nat) : 8 + nI a = nI (8 + a) := nI_add 8 a
theorem ix_16a (a : Nat) : 16 + nI a = nI (16 + a) := nI_add 16 a
theorem ix_a0 (a : Nat) : nI a + 0 = nI (a + 0) := nI_add a 0
theorem ix_a1 (a : Nat) : nI a + 1 = nI (a + 1) := nI_add a 1
theorem ix_a2 (a : Nat) : nI a + 2 = nI (a + 2) := nI_add a 2
theorem ix_a3 (a : Nat) : nI a + 3 = nI (a + 3) := nI_add a 3
theorem ix_a4 (a : Nat) : nI a + 4 = nI (a + 4) := nI_add a 4
theorem ix_a5 (a : Nat) : nI a + 5 = nI (a + 5) := nI_add a 5
theorem ix_a6 (a : Nat) : nI a + 6 = nI (a + 6) := nI_add a 6
theorem ix_a7 (a : Nat) : nI a + 7 = nI (a + 7) := nI_add a 7
theorem ix_a8 (a : Nat) : nI a + 8 = nI (a + 8) := nI_add a 8
theorem ix_a9 (a : Nat) : nI a + 9 = nI (a + 9) := nI_add a 9
theorem ix_d2 {e : Nat} (h : e < 2 ^ 31) : nI e / 2 = nI (e / 2) := pk_div (d := 2) h (by decide) (by decide)
theorem ix_x1 {e : Nat} (h : e < 32) : nI e ^^^ 1 = nI (gc_ot e) := by
  rw [← gc_otx e h]
  exact nx_xor e 1
theorem ix_s1 {e : Nat} (h : e < 2 ^ 31) : nI e >>> ((1 : Int32) &&& 31) = nI (e / 2) := pk_shrN h _ 1 (by decide)
theorem ix_n1 {e : Nat} (h : e < 2 ^ 32) : nI e &&& 1 = nI (e % 2) := pk_andN h 1 (by decide)
theorem ix_no {x : Int32} {n j : Nat} (hn : n < 2 ^ 31) (h : x < 0 ∨ nI n ≤ x) (hj : j < n) : ¬ x = nI j := by
  intro e
  subst e
  rcases h with h | h
  · exact nI_pos (by omega) h
  · exact nI_ge hj hn h
theorem ix_b {x : Int32} (h : x = 0 ∨ x = 1) : narrow .boolean (.int x) = .int x := by rcases h with rfl | rfl <;> rfl
theorem ix_v {x : Int32} (h : x = 0 ∨ x = 1) : vp_nar .boolean x = x := by rcases h with rfl | rfl <;> rfl
def gc_en : Option Nat → Int32
  | none => -1
  | some e => nI e
/-- the end of clock c on link x -/
def gs_end (L : Nat) (ec : Nat → Int32) (c : Nat) (x : Int32) : Option Nat :=
  if x < 0 ∨ nI L ≤ x then none else if ec (2 * x.toNatClampNeg) = nI c then some (2 * x.toNatClampNeg) else if ec (2 * x.toNatClampNeg + 1) = nI c then some (2 * x.toNatClampNeg + 1) else none
/-- the measures of clock c, written at end e -/
def gs_ms (ec ed : Nat → Int32) (ti ms : Nat → Int64) (c e : Nat) : Nat → Int64 :=
  let T := ti (ec (gc_ot e)).toNatClampNeg
  let t2 := ti c + (ed (gc_ot e)).toInt64
  let t4 := T + (ed (gc_ot e)).toInt64 + (ed e).toInt64
  let m6 := vp_updL (vp_updL (vp_updL (vp_updL (vp_updL (vp_updL ms (c * 9 + 0) (((t2 - T) - (t4 - t2)) / 2)) (c * 9 + 1) (((t2 - T) + (t4 - t2)) / 2)) (c * 9 + 2) T) (c * 9 + 3) t2) (c * 9 + 4) t2) (c * 9 + 5) t4
  vp_updL m6 (c * 9 + 8) (m6 (c * 9 + 8) + 1)
def gs_meas (L : Nat) (pl lu ec es ed : Nat → Int32) (ti : Nat → Int64) (c : Nat) (s : (Nat → Int32) × (Nat → Int64)) : (Nat → Int32) × (Nat → Int64) :=
  match gs_end L ec c (pl c) with
  | none => (upd s.1 c 0, s.2)
  | some e => if ¬ lu (e / 2) = 0 ∧ es e = 2 ∧ es (gc_ot e) = 1 then (upd s.1 c 1, gs_ms ec ed ti s.2 c e) else (upd s.1 c 0, s.2)
def gs_steer (md : Nat → Int32) (c : Nat) (s : (Nat → Int64) × (Nat → Int64)) : (Nat → Int64) × (Nat → Int64) :=
  if md c = 0 then s else
  if 1000000 < s.2 (c * 9 + 0) ∨ s.2 (c * 9 + 0) < -1000000 then (vp_updL s.1 c (s.1 c - s.2 (c * 9 + 0)), s.2) else
  let g := gc_clL (s.2 (c * 9 + 7) - s.2 (c * 9 + 0) / 8) (-500000) 500000
  (s.1, vp_updL (vp_updL s.2 (c * 9 + 7) g) (c * 9 + 6) (gc_clL (g - s.2 (c * 9 + 0) / 2) (-500000) 500000))
def gs_adv (dr : Nat → Int32) (ms : Nat → Int64) (c : Nat) (ti : Nat → Int64) : Nat → Int64 :=
  vp_updL ti c (ti c + 1000000000 + (dr c).toInt64 + ms (c * 9 + 6))
def gs_age (tm : Int32) (e : Nat) (RW : Nat → Int32) : Nat → Int32 :=
  if RW ((16 + e) * 10 + 8) = 0 then RW else
  if RW ((16 + e) * 10 + 9) + 1 = tm then gc_cp (upd RW ((16 + e) * 10 + 9) (RW ((16 + e) * 10 + 9) + 1)) gc_z 0 ((16 + e) * 10) 10 else upd RW ((16 + e) * 10 + 9) (RW ((16 + e) * 10 + 9) + 1)
def gs_listen (tm : Int32) (lu ec es : Nat → Int32) (e : Nat) (RW : Nat → Int32) : Nat → Int32 :=
  if lu (e / 2) = 0 then RW else
  if es (gc_ot e) = 1 ∧ RW ((8 + (ec (gc_ot e)).toNatClampNeg) * 10 + 6) ≤ 6 ∧ ¬ RW ((8 + (ec (gc_ot e)).toNatClampNeg) * 10 + 5) = ec e then gc_cp RW RW ((8 + (ec (gc_ot e)).toNatClampNeg) * 10) ((16 + e) * 10) 10 else gs_age tm e RW
/-- the comparison of two rows -/
def gs_cmp (RW : Nat → Int32) (x y k : Nat) : Int32 := gc_cmp (fun f => RW (x + f)) (fun f => RW (y + f)) k 0
def gs_bs (lu ec RW : Nat → Int32) (c i : Nat) (b : Option Nat) : Option Nat :=
  if ec i = nI c ∧ ¬ lu (i / 2) = 0 ∧ RW ((16 + i) * 10 + 8) = 1 then
    match b with
    | none => some i
    | some j => if gs_cmp RW ((16 + i) * 10) ((16 + j) * 10) 8 < 0 then some i else some j
  else b
def gs_it {σ : Type} (f : Nat → σ → σ) : Nat → Nat → σ → σ
  | 0, _, s => s
  | k + 1, i, s => gs_it f k (i + 1) (f i s)
def gs_best (L : Nat) (lu ec RW : Nat → Int32) (c : Nat) : Option Nat := gs_it (gs_bs lu ec RW c) (2 * L) 0 none
/-- the best end is an end of clock c that is up and whose store is valid -/
def gs_okb (L : Nat) (lu ec RW : Nat → Int32) (c : Nat) : Option Nat → Prop
  | none => True
  | some e => e < 2 * L ∧ ec e = nI c ∧ ¬ lu (e / 2) = 0 ∧ RW ((16 + e) * 10 + 8) = 1
theorem gs_bs_ok {L : Nat} {lu ec RW : Nat → Int32} {c i : Nat} {b : Option Nat} (hi : i < 2 * L) (h : gs_okb L lu ec RW c b) : gs_okb L lu ec RW c (gs_bs lu ec RW c i b) := by
  unfold gs_bs
  by_cases q : ec i = nI c ∧ ¬ lu (i / 2) = 0 ∧ RW ((16 + i) * 10 + 8) = 1
  · rw [if_pos q]
    cases b with
    | none => exact ⟨hi, q⟩
    | some j =>
      dsimp only
      split
      · exact ⟨hi, q⟩
      · exact h
  · rw [if_neg q]; exact h
theorem gs_it_ok {σ : Type} (f : Nat → σ → σ) (P : σ → Prop) (n : Nat) (hf : ∀ i s, i < n → P s → P (f i s)) : ∀ k i s, i + k ≤ n → P s → P (gs_it f k i s)
  | 0, _, _, _, h => h
  | k + 1, i, s, hk, h => gs_it_ok f P n hf k (i + 1) (f i s) (by omega) (hf i s (by omega) h)
theorem gs_best_ok {L : Nat} {lu ec RW : Nat → Int32} {c : Nat} : gs_okb L lu ec RW c (gs_best L lu ec RW c) :=
  gs_it_ok _ (gs_okb L lu ec RW c) (2 * L) (fun _ _ hi h => gs_bs_ok hi h) (2 * L) 0 none (by omega) trivial
/-- what chooseMaster changes: rows, parent, parent link, states -/
def gs_self (L : Nat) (lu ec : Nat → Int32) (c : Nat) (RW pa pl es : Nat → Int32) : (Nat → Int32) × (Nat → Int32) × (Nat → Int32) × (Nat → Int32) :=
  (gc_cp RW RW (c * 10) ((8 + c) * 10) 10, upd pa c (-1), upd pl c (-1), gc_fol ec lu es (fun _ => 1) c (2 * L))
def gs_pst (RW : Nat → Int32) (c e : Nat) : Int32 := if RW ((16 + e) * 10 + 8) = 1 ∧ gs_cmp RW ((16 + e) * 10) ((8 + c) * 10) 8 < 0 then 3 else 1
def gs_foll (L : Nat) (lu ec : Nat → Int32) (c b : Nat) (RW pa pl es : Nat → Int32) : (Nat → Int32) × (Nat → Int32) × (Nat → Int32) × (Nat → Int32) :=
  (gc_fR RW c b, upd pa c (RW ((16 + b) * 10 + 7)), upd pl c (nI (b / 2)), upd (gc_fol ec lu es (gs_pst (gc_fR RW c b) c) c (2 * L)) b 2)
def gs_choose (L : Nat) (lu ec : Nat → Int32) (c : Nat) (s : (Nat → Int32) × (Nat → Int32) × (Nat → Int32) × (Nat → Int32)) : (Nat → Int32) × (Nat → Int32) × (Nat → Int32) × (Nat → Int32) :=
  match gs_best L lu ec s.1 c with
  | none => gs_self L lu ec c s.1 s.2.1 s.2.2.1 s.2.2.2
  | some b => if gs_cmp s.1 (c * 10) ((16 + b) * 10) 6 < 0 then gs_self L lu ec c s.1 s.2.1 s.2.2.1 s.2.2.2 else gs_foll L lu ec c b s.1 s.2.1 s.2.2.1 s.2.2.2
