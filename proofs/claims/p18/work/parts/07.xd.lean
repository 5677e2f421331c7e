/-! the component's step as a whole -/
def gs_stX (N C L : Nat) (tm : Int32) (RW dr : Nat → Int32) (ti : Nat → Int64) (pa pl : Nat → Int32) (ms : Nat → Int64) (md lu ec es ed : Nat → Int32) : St2 :=
  let s1 := gs_it (gs_meas L pl lu ec es ed ti) N 0 (md, ms)
  let s2 := gs_it (gs_steer s1.1) N 0 (ti, s1.2)
  let t3 := gs_it (gs_adv dr s2.2) N 0 s2.1
  let r4 := gs_it (gs_listen tm lu ec es) (2 * L) 0 RW
  let s5 := gs_it (gs_choose L lu ec) N 0 (r4, pa, pl, es)
  gx N C L tm s5.1 dr t3 s5.2.1 s5.2.2.1 s2.2 s1.1 lu ec s5.2.2.2 ed
section
variable {N C L : Nat} {tm : Int32} {RW dr pa pl md lu ec es ed : Nat → Int32} {ti ms : Nat → Int64}
theorem x_st5 {post : St2 → Prop} (K : gx_ok N L lu ec) : ∀ k i RW pa pl es, i + k = N → post (gx N C L tm ((gs_it (gs_choose L lu ec) k i (RW, pa, pl, es)).1) dr ti ((gs_it (gs_choose L lu ec) k i (RW, pa, pl, es)).2.1) ((gs_it (gs_choose L lu ec) k i (RW, pa, pl, es)).2.2.1) ms md lu ec ((gs_it (gs_choose L lu ec) k i (RW, pa, pl, es)).2.2.2) ed) → wX_step_88 post (k + 1) (nI i) (nI N) (nI C) tm (nI L) RW dr ti pa pl ms md lu ec es ed
  | 0, i, RW, pa, pl, es, hi, h => br_t (nI_le (by omega) (by have := K.2.1; omega)) h
  | k + 1, i, RW, pa, pl, es, hi, h => by
    have hN := K.2.1
    exact br_f (nI_ge (by omega) (by omega)) (x_choose K.2.2.1 (by omega) (nm_r (nI_1 i) (x_st5 K k (i + 1) _ _ _ _ (by omega) h)))
theorem x_st4 {post : St2 → Prop} (K : gx_ok N L lu ec) : ∀ k i RW, i + k = 2 * L → (∃ n, wX_step_88 post n 0 (nI N) (nI C) tm (nI L) (gs_it (gs_listen tm lu ec es) k i RW) dr ti pa pl ms md lu ec es ed) → wX_step_65 post (k + 1) (nI i) (nI N) (nI C) tm (nI L) RW dr ti pa pl ms md lu ec es ed
  | 0, i, RW, hi, h => br_t (by rw [ix_2m]; exact nI_le (by omega) (by have := K.2.2.1; omega)) h
  | k + 1, i, RW, hi, h => by
    have hL := K.2.2.1
    exact br_f (by rw [ix_2m]; exact nI_ge (by omega) (by omega)) (x_listen K (by omega) (nm_r (nI_1 i) (x_st4 K k (i + 1) _ (by omega) h)))
theorem x_st3 {post : St2 → Prop} (K : gx_ok N L lu ec) : ∀ k i ti, i + k = N → (∃ n, wX_step_65 post n 0 (nI N) (nI C) tm (nI L) RW dr (gs_it (gs_adv dr ms) k i ti) pa pl ms md lu ec es ed) → wX_step_44 post (k + 1) (nI i) (nI N) (nI C) tm (nI L) RW dr ti pa pl ms md lu ec es ed
  | 0, i, ti, hi, h => br_t (nI_le (by omega) (by have := K.2.1; omega)) h
  | k + 1, i, ti, hi, h => by
    have hN := K.2.1
    exact br_f (nI_ge (by omega) (by omega)) (x_advance (by omega) (nm_r (nI_1 i) (x_st3 K k (i + 1) _ (by omega) h)))
theorem x_st2 {post : St2 → Prop} (K : gx_ok N L lu ec) : ∀ k i ti ms, i + k = N → (∃ n, wX_step_44 post n 0 (nI N) (nI C) tm (nI L) RW dr ((gs_it (gs_steer md) k i (ti, ms)).1) pa pl ((gs_it (gs_steer md) k i (ti, ms)).2) md lu ec es ed) → wX_step_23 post (k + 1) (nI i) (nI N) (nI C) tm (nI L) RW dr ti pa pl ms md lu ec es ed
  | 0, i, ti, ms, hi, h => br_t (nI_le (by omega) (by have := K.2.1; omega)) h
  | k + 1, i, ti, ms, hi, h => by
    have hN := K.2.1
    exact br_f (nI_ge (by omega) (by omega)) (x_steer (by omega) (nm_r (nI_1 i) (x_st2 K k (i + 1) _ _ (by omega) h)))
theorem x_st1 {post : St2 → Prop} (K : gx_ok N L lu ec) : ∀ k i md ms, i + k = N → (∃ n, wX_step_23 post n 0 (nI N) (nI C) tm (nI L) RW dr ti pa pl ((gs_it (gs_meas L pl lu ec es ed ti) k i (md, ms)).2) ((gs_it (gs_meas L pl lu ec es ed ti) k i (md, ms)).1) lu ec es ed) → wX_step_2 post (k + 1) (nI i) (nI N) (nI C) tm (nI L) RW dr ti pa pl ms md lu ec es ed
  | 0, i, md, ms, hi, h => br_t (nI_le (by omega) (by have := K.2.1; omega)) h
  | k + 1, i, md, ms, hi, h => by
    have hN := K.2.1
    exact br_f (nI_ge (by omega) (by omega)) (x_measure K (by omega) (nm_r (nI_1 i) (x_st1 K k (i + 1) _ _ (by omega) h)))
theorem x_step {post : St2 → Prop} (K : gx_ok N L lu ec) (h : post (gs_stX N C L tm RW dr ti pa pl ms md lu ec es ed)) : wpX_step post (gx N C L tm RW dr ti pa pl ms md lu ec es ed) :=
  ⟨_, x_st1 K N 0 md ms (by omega) ⟨_, x_st2 K N 0 _ _ (by omega) ⟨_, x_st3 K N 0 _ (by omega) ⟨_, x_st4 K (2 * L) 0 RW (by omega) ⟨_, x_st5 K N 0 _ _ _ _ (by omega) h⟩⟩⟩⟩⟩
end
