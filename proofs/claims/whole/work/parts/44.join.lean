/-! PURE ROWS: a part moved and joined -/
theorem mul_bd {a x : Int} {A B : Nat} (ha : -(A : Int) ≤ a ∧ a ≤ A) (hx : -(B : Int) ≤ x ∧ x ≤ B) : -((A * B : Nat) : Int) ≤ a * x ∧ a * x ≤ ((A * B : Nat) : Int) := by
  have h1 : (a * x).natAbs ≤ A * B := by
    rw [Int.natAbs_mul]
    exact Nat.mul_le_mul (by omega) (by omega)
  generalize a * x = p at *
  generalize A * B = q at *
  omega
theorem shr14 (v : Int64) : (v >>> ((14 : Int32).toInt64 &&& 63)).toInt = v.toInt / 16384 := by
  show (v >>> ((14 : Int32).toInt64 &&& 63)).toBitVec.toInt = _
  rw [Int64.toBitVec_shiftRight, show (((14 : Int32).toInt64 &&& 63).toBitVec.smod 64) = 14#64 from by decide]
  show (v.toBitVec.sshiftRight 14).toInt = _
  rw [BitVec.toInt_sshiftRight, Int.shiftRight_eq_div_pow]
  rfl
def rdd (a x c y : Int32) : Int64 := ((a.toInt64 * x.toInt64) + (c.toInt64 * y.toInt64) + (8192 : Int64)) >>> ((14 : Int32).toInt64 &&& 63)
def mv (dx a c x y : Int32) : Int32 := (rdd a x c y).toInt32 + dx
def w16 (v : Int32) : Prop := -32768 ≤ v.toInt ∧ v.toInt ≤ 32768
theorem sml_w {v : Int32} (h : sml v) : w16 v := ⟨h.1, by have := h.2; omega⟩
theorem s16_w (v : Nat) : w16 (s16 v) := by
  have := lg_i2s_range (nI v)
  unfold w16 s16
  omega
theorem rdd_b {a x c y : Int32} (ha : w16 a) (hx : w16 x) (hc : w16 c) (hy : w16 y) : -131073 ≤ (rdd a x c y).toInt ∧ (rdd a x c y).toInt ≤ 131073 := by
  unfold w16 at *
  have m1 := mul_bd (a := a.toInt) (x := x.toInt) (A := 32768) (B := 32768) (by omega) (by omega)
  have m2 := mul_bd (a := c.toInt) (x := y.toInt) (A := 32768) (B := 32768) (by omega) (by omega)
  have e1 : (a.toInt64 * x.toInt64).toInt = a.toInt * x.toInt := by rw [jt_mul (by rw [Int32.toInt_toInt64, Int32.toInt_toInt64]; omega), Int32.toInt_toInt64, Int32.toInt_toInt64]
  have e2 : (c.toInt64 * y.toInt64).toInt = c.toInt * y.toInt := by rw [jt_mul (by rw [Int32.toInt_toInt64, Int32.toInt_toInt64]; omega), Int32.toInt_toInt64, Int32.toInt_toInt64]
  have e3 : (a.toInt64 * x.toInt64 + c.toInt64 * y.toInt64).toInt = a.toInt * x.toInt + c.toInt * y.toInt := by rw [jt_add (by rw [e1, e2]; omega), e1, e2]
  have e4 : (a.toInt64 * x.toInt64 + c.toInt64 * y.toInt64 + (8192 : Int64)).toInt = a.toInt * x.toInt + c.toInt * y.toInt + 8192 := by rw [jt_add (by rw [e3, show (8192 : Int64).toInt = 8192 from by decide]; omega), e3, show (8192 : Int64).toInt = 8192 from by decide]
  unfold rdd
  rw [shr14, e4]
  omega
theorem mv_J {dx a c x y : Int32} : (rdd a x c y + dx.toInt64).toInt32 = mv dx a c x y := by
  unfold mv
  rw [lg_l2i_add, lg_l2i_i2l]
theorem mv_s {dx a c x y : Int32} (hd : w16 dx) (ha : w16 a) (hx : w16 x) (hc : w16 c) (hy : w16 y) : smlJ (rdd a x c y + dx.toInt64) ↔ sml (mv dx a c x y) := by
  have b := rdd_b ha hx hc hy
  unfold w16 at hd
  have e1 : (rdd a x c y + dx.toInt64).toInt = (rdd a x c y).toInt + dx.toInt := by rw [jt_add (by rw [Int32.toInt_toInt64]; omega), Int32.toInt_toInt64]
  have e2 : (mv dx a c x y).toInt = (rdd a x c y + dx.toInt64).toInt := by
    rw [← mv_J]
    exact jt_i _ (by rw [e1]; omega)
  unfold smlJ sml
  rw [e2]
theorem mvx_f (dx a c x y : Int32) : P_Pt_movedX dx a c x y = some (mv dx a c x y) := rfl
theorem mvy_f (dy b d x y : Int32) : P_Pt_movedY dy b d x y = some (mv dy b d x y) := rfl
/-- the class moves the points from k on -/
theorem move_f {N : Nat} (hN : N ≤ 256) (dx dy a b c d : Int32) : ∀ (r k m : Nat) (xs ys : Nat → Int32), k + r = N → r < m → (∃ xs' ys', lp (L_Sh_move_2 (nI N) dx dy a b c d) m (nI k, xs, ys) = some (1, xs', ys') ∧ (∀ i, k ≤ i → i < N → sml (mv dx a c (xs i) (ys i)) ∧ sml (mv dy b d (xs i) (ys i)) ∧ xs' i = mv dx a c (xs i) (ys i) ∧ ys' i = mv dy b d (xs i) (ys i)) ∧ ∀ i, (i < k ∨ N ≤ i) → xs' i = xs i ∧ ys' i = ys i) ∨ ((∃ i, k ≤ i ∧ i < N ∧ ¬ (sml (mv dx a c (xs i) (ys i)) ∧ sml (mv dy b d (xs i) (ys i)))) ∧ ∃ xs' ys', lp (L_Sh_move_2 (nI N) dx dy a b c d) m (nI k, xs, ys) = some (0, xs', ys')) := by
  intro r
  induction r with
  | zero =>
    intro k m xs ys hk hm
    obtain ⟨m, rfl⟩ := suc_of hm
    refine Or.inl ⟨xs, ys, ?_, fun i h1 h2 => absurd h2 (by omega), fun i _ => ⟨rfl, rfl⟩⟩
    rw [e_Sh_move_2]
    unfold P_Sh_move_2b
    rw [if_pos (nI_le (by omega) (by omega))]
  | succ r ih =>
    intro k m xs ys hk hm
    obtain ⟨m, rfl⟩ := suc_of hm
    rw [e_Sh_move_2]
    unfold P_Sh_move_2b
    simp only [bdI (show k < 256 by omega) (show 256 < 2 ^ 31 by omega), nI_clamp (show k < 2 ^ 31 by omega), mvx_f, mvy_f, some_bind, pk_us, nI_1]
    rw [if_neg (nI_ge (by omega) (by omega))]
    by_cases c1 : sml (mv dx a c (xs k) (ys k))
    · rw [crd_y c1, some_bind, if_neg (show ¬ (1 : Int32) = 0 by decide)]
      by_cases c2 : sml (mv dy b d (xs k) (ys k))
      · rw [crd_y c2, some_bind, if_neg (show ¬ (1 : Int32) = 0 by decide)]
        rcases ih (k + 1) m (upd xs k (mv dx a c (xs k) (ys k))) (upd ys k (mv dy b d (xs k) (ys k))) (by omega) (by omega) with ⟨xs', ys', h1, h2, h3⟩ | ⟨⟨i, i1, i2, i3⟩, h2⟩
        · refine Or.inl ⟨xs', ys', h1, fun i p1 p2 => ?_, fun i p => ?_⟩
          · rcases Nat.lt_or_ge k i with w | w
            · have := h2 i w p2
              rw [pk_un (by omega), pk_un (by omega)] at this
              exact this
            · have e1 : i = k := by omega
              subst e1
              obtain ⟨w1, w2⟩ := h3 i (Or.inl (by omega))
              rw [w1, w2, pk_us, pk_us]
              exact ⟨c1, c2, rfl, rfl⟩
          · obtain ⟨w1, w2⟩ := h3 i (by omega)
            rw [w1, w2, pk_un (by omega), pk_un (by omega)]
            exact ⟨rfl, rfl⟩
        · rw [pk_un (by omega), pk_un (by omega)] at i3
          exact Or.inr ⟨⟨i, by omega, i2, i3⟩, h2⟩
      · rw [crd_n c2, some_bind, if_pos rfl]
        exact Or.inr ⟨⟨k, by omega, by omega, fun q => c2 q.2⟩, _, _, rfl⟩
    · rw [crd_n c1, some_bind, if_pos rfl]
      exact Or.inr ⟨⟨k, by omega, by omega, fun q => c1 q.1⟩, _, _, rfl⟩
/-- the reference joins m points of a part behind N of a glyph -/
theorem join_i {gi pi N M C : Nat} (hgi : gi < 64) (hpi : pi < 64) (hne : gi ≠ pi) (hNM : N + M ≤ 256) {dx dy a b c d : Int32} (hdx : w16 dx) (hdy : w16 dy) (ha : w16 a) (hb : w16 b) (hc : w16 c) (hd : w16 d) (cs ps : Nat → Int32) (hcs : cs gi = nI C) : ∀ (r k m : Nat) (x y on ct : Nat → Int32), k + r = M → r < m → (∀ i, i < M → w16 (x (256 * pi + i)) ∧ w16 (y (256 * pi + i)) ∧ (on (256 * pi + i) = 0 ∨ on (256 * pi + i) = 1)) → (∃ x' y' on' ct', lp L_Mo_join_50 m (nI gi, nI pi, dx, dy, a, b, c, d, nI N, nI M, nI k, cs, ps, x, y, on, ct) = some (1, upd cs gi (nI C + cs pi), upd ps gi (nI (N + M)), x', y', on', ct') ∧ (∀ i, k ≤ i → i < M → sml (mv dx a c (x (256 * pi + i)) (y (256 * pi + i))) ∧ sml (mv dy b d (x (256 * pi + i)) (y (256 * pi + i))) ∧ x' (256 * gi + N + i) = mv dx a c (x (256 * pi + i)) (y (256 * pi + i)) ∧ y' (256 * gi + N + i) = mv dy b d (x (256 * pi + i)) (y (256 * pi + i)) ∧ on' (256 * gi + N + i) = on (256 * pi + i) ∧ ct' (256 * gi + N + i) = nI C + ct (256 * pi + i)) ∧ ∀ i, (i < 256 * gi + N + k ∨ 256 * gi + N + M ≤ i) → x' i = x i ∧ y' i = y i ∧ on' i = on i ∧ ct' i = ct i) ∨ ((∃ i, k ≤ i ∧ i < M ∧ ¬ (sml (mv dx a c (x (256 * pi + i)) (y (256 * pi + i))) ∧ sml (mv dy b d (x (256 * pi + i)) (y (256 * pi + i))))) ∧ ∃ u, lp L_Mo_join_50 m (nI gi, nI pi, dx, dy, a, b, c, d, nI N, nI M, nI k, cs, ps, x, y, on, ct) = some u ∧ u.1 = 0) := by
  intro r
  induction r with
  | zero =>
    intro k m x y on ct hk hm hw
    obtain ⟨m, rfl⟩ := suc_of hm
    refine Or.inl ⟨x, y, on, ct, ?_, fun i h1 h2 => absurd h2 (by omega), fun i _ => ⟨rfl, rfl, rfl, rfl⟩⟩
    rw [e_Mo_join_50]
    unfold P_Mo_join_50b
    rw [if_pos (nI_le (by omega) (by omega)), bdI (by omega) (by omega), bdI (by omega) (by omega), bdI (by omega) (by omega), bdI (by omega) (by omega), nI_clamp (by omega), nI_clamp (by omega), hcs, nI_add]
  | succ r ih =>
    intro k m x y on ct hk hm hw
    obtain ⟨m, rfl⟩ := suc_of hm
    rw [e_Mo_join_50]
    unfold P_Mo_join_50b
    obtain ⟨wx, wy, wo⟩ := hw k (by omega)
    simp only [show (256 : Int32) * nI gi = nI (256 * gi) from pk_mul 256 gi, show (256 : Int32) * nI pi = nI (256 * pi) from pk_mul 256 pi, nI_add, bdI (show 256 * pi + k < 16384 by omega) (show 16384 < 2 ^ 31 by omega), bdI (show 256 * gi + N + k < 16384 by omega) (show 16384 < 2 ^ 31 by omega), bdI (show gi < 64 by omega) (show 64 < 2 ^ 31 by omega), nI_clamp (show 256 * pi + k < 2 ^ 31 by omega), nI_clamp (show 256 * gi + N + k < 2 ^ 31 by omega), nI_clamp (show gi < 2 ^ 31 by omega), nI_1]
    rw [if_neg (nI_ge (by omega) (by omega))]
    have eX : P_Mo_rounded (a.toInt64 * (x (256 * pi + k)).toInt64 + c.toInt64 * (y (256 * pi + k)).toInt64) = some (rdd a (x (256 * pi + k)) c (y (256 * pi + k))) := rfl
    have eY : P_Mo_rounded (b.toInt64 * (x (256 * pi + k)).toInt64 + d.toInt64 * (y (256 * pi + k)).toInt64) = some (rdd b (x (256 * pi + k)) d (y (256 * pi + k))) := rfl
    rw [eX, some_bind, eY, some_bind]
    by_cases c1 : sml (mv dx a c (x (256 * pi + k)) (y (256 * pi + k)))
    · rw [msl_y ((mv_s hdx ha wx hc wy).mpr c1), some_bind, if_neg (show ¬ (1 : Int32) = 0 by decide)]
      by_cases c2 : sml (mv dy b d (x (256 * pi + k)) (y (256 * pi + k)))
      · rw [msl_y ((mv_s hdy hb wx hd wy).mpr c2), some_bind, if_neg (show ¬ (1 : Int32) = 0 by decide), mv_J, mv_J, hcs, show vp_nar .boolean (on (256 * pi + k)) = on (256 * pi + k) from (by rcases wo with w | w <;> rw [w] <;> decide)]
        have hne2 : ∀ i, i < M → 256 * pi + i ≠ 256 * gi + N + k := by intro i hi; omega
        rcases ih (k + 1) m (upd x (256 * gi + N + k) (mv dx a c (x (256 * pi + k)) (y (256 * pi + k)))) (upd y (256 * gi + N + k) (mv dy b d (x (256 * pi + k)) (y (256 * pi + k)))) (upd on (256 * gi + N + k) (on (256 * pi + k))) (upd ct (256 * gi + N + k) (nI C + ct (256 * pi + k))) (by omega) (by omega) (fun i hi => by rw [pk_un (hne2 i hi), pk_un (hne2 i hi), pk_un (hne2 i hi)]; exact hw i hi) with ⟨x', y', on', ct', h1, h2, h3⟩ | ⟨⟨i, i1, i2, i3⟩, h2⟩
        · refine Or.inl ⟨x', y', on', ct', h1, fun i p1 p2 => ?_, fun i p => ?_⟩
          · rcases Nat.lt_or_ge k i with w | w
            · have := h2 i w p2
              rw [pk_un (hne2 i p2), pk_un (hne2 i p2), pk_un (hne2 i p2), pk_un (hne2 i p2)] at this
              exact this
            · have e1 : i = k := by omega
              subst e1
              obtain ⟨w1, w2, w3, w4⟩ := h3 (256 * gi + N + i) (Or.inl (by omega))
              rw [w1, w2, w3, w4, pk_us, pk_us, pk_us, pk_us]
              exact ⟨c1, c2, rfl, rfl, rfl, rfl⟩
          · obtain ⟨w1, w2, w3, w4⟩ := h3 i (by omega)
            rw [w1, w2, w3, w4, pk_un (by omega), pk_un (by omega), pk_un (by omega), pk_un (by omega)]
            exact ⟨rfl, rfl, rfl, rfl⟩
        · rw [pk_un (hne2 i i2), pk_un (hne2 i i2)] at i3
          exact Or.inr ⟨⟨i, by omega, i2, i3⟩, h2⟩
      · rw [msl_n (fun q => c2 ((mv_s hdy hb wx hd wy).mp q)), some_bind, if_pos rfl]
        exact Or.inr ⟨⟨k, by omega, by omega, fun q => c2 q.2⟩, _, rfl, rfl⟩
    · rw [msl_n (fun q => c1 ((mv_s hdx ha wx hc wy).mp q)), some_bind, if_pos rfl]
      exact Or.inr ⟨⟨k, by omega, by omega, fun q => c1 q.1⟩, _, rfl, rfl⟩
