/-! PURE ROWS: pixels of a row: bits, places, touchStart, touchFlat, cross -/
def tb (x : Int64) (i : Nat) : Prop := (jN x).testBit i = true
theorem tb_or (x y : Int64) (i : Nat) : tb (x ||| y) i ↔ tb x i ∨ tb y i := by
  unfold tb jN
  rw [Int64.toBitVec_or, BitVec.toNat_or, Nat.testBit_or, Bool.or_eq_true]
theorem j1s : ∀ k, k < 64 → jN ((1 : Int64) <<< ((nI k).toInt64 &&& 63)) = 2 ^ k := by decide +kernel
theorem tb_1 {k : Nat} (hk : k < 64) (i : Nat) : tb ((1 : Int64) <<< ((nI k).toInt64 &&& 63)) i ↔ i = k := by
  unfold tb
  rw [j1s k hk, Nat.testBit_two_pow, decide_eq_true_iff]
  exact eq_comm
theorem tb_0 (i : Nat) : ¬ tb 0 i := by
  unfold tb
  rw [show jN (0 : Int64) = 0 from rfl, Nat.zero_testBit]
  decide
theorem tb_set {k : Nat} (hk : k < 64) (x : Int64) (i : Nat) : tb (x ||| ((1 : Int64) <<< ((nI k).toInt64 &&& 63))) i ↔ tb x i ∨ i = k := by rw [tb_or, tb_1 hk]
theorem tb_ge (x : Int64) {i : Nat} (h : 64 ≤ i) : ¬ tb x i := by
  unfold tb
  rw [Nat.testBit_lt_two_pow (Nat.lt_of_lt_of_le (jN_lt x) (show 18446744073709551616 ≤ 2 ^ i from Nat.pow_le_pow_right (n := 2) (by decide) h))]
  decide
theorem tb_ext {x y : Int64} (h : ∀ i, i < 64 → (tb x i ↔ tb y i)) : x = y := by
  have e : jN x = jN y := by
    apply Nat.eq_of_testBit_eq
    intro i
    rw [Bool.eq_iff_iff]
    rcases Nat.lt_or_ge i 64 with w | w
    · exact h i w
    · exact ⟨fun z => absurd z (tb_ge x w), fun z => absurd z (tb_ge y w)⟩
  rw [← Int64.toBitVec_inj, ← BitVec.toNat_inj]
  exact e
theorem tb_dif (x y : Int64) {i : Nat} (hi : i < 64) : tb (x &&& (y ^^^ (-1 : Int64))) i ↔ tb x i ∧ ¬ tb y i := by
  unfold tb jN
  rw [Int64.toBitVec_and, Int64.toBitVec_xor, BitVec.toNat_and, BitVec.toNat_xor, Nat.testBit_and, Nat.testBit_xor, show (Int64.toBitVec (-1)).toNat = 2 ^ 64 - 1 from by decide, Nat.testBit_two_pow_sub_one, decide_eq_true hi]
  cases (y.toBitVec.toNat.testBit i) <;> cases (x.toBitVec.toNat.testBit i) <;> decide
theorem tb_lt {x : Int64} {W : Nat} (h : jN x < 2 ^ W) {i : Nat} (hi : W ≤ i) : ¬ tb x i := by
  unfold tb
  rw [Nat.testBit_lt_two_pow (Nat.lt_of_lt_of_le h (Nat.pow_le_pow_right (by decide) hi))]
  decide
theorem tb_ltI {x : Int64} {W : Nat} (h : ∀ i, W ≤ i → i < 64 → ¬ tb x i) : jN x < 2 ^ W := by
  apply Nat.lt_pow_two_of_testBit
  intro i hi
  rcases Nat.lt_or_ge i 64 with w | w
  · have := h i hi w
    unfold tb at this
    cases hb : (jN x).testBit i
    · rfl
    · exact absurd hb this
  · have := tb_ge x w
    unfold tb at this
    cases hb : (jN x).testBit i
    · rfl
    · exact absurd hb this
theorem tb_m (x : Int64) (i : Nat) : jN x / 2 ^ i % 2 = 1 ↔ tb x i := by
  unfold tb
  rw [Nat.testBit_eq_decide_div_mod_eq, decide_eq_true_iff]
theorem pc_ic (x : Int64) (n : Nat) : (pc (jN x) n : Int) = smz (fun i => ic (tb x i)) n := by
  induction n with
  | zero => rfl
  | succ n ih =>
    show ((pc (jN x) n + jN x / 2 ^ n % 2 : Nat) : Int) = smz (fun i => ic (tb x i)) n + ic (tb x n)
    rw [← ih]
    by_cases q : tb x n
    · rw [ic_1 q, (tb_m x n).mpr q]; rfl
    · rw [ic_0 q]
      have := fun w => q ((tb_m x n).mp w)
      have h2 : jN x / 2 ^ n % 2 < 2 := Nat.mod_lt _ (by decide)
      have h0 : jN x / 2 ^ n % 2 = 0 := by
        rcases Nat.lt_or_ge (jN x / 2 ^ n % 2) 1 with w | w
        · omega
        · exact absurd (by omega) this
      rw [h0]; rfl
theorem xor_sgI (a b : Int32) (hb : 0 ≤ b.toInt) : (0 : Int32) ≤ a ^^^ b ↔ 0 ≤ a.toInt := by
  rw [Int32.le_iff_toInt_le, show (0 : Int32).toInt = 0 from by decide]
  have e1 : (a ^^^ b).toInt < 0 ↔ (a ^^^ b).toBitVec.msb = true := by
    rw [BitVec.msb_eq_toInt, decide_eq_true_iff]; exact Iff.rfl
  have e2 : a.toInt < 0 ↔ a.toBitVec.msb = true := by
    rw [BitVec.msb_eq_toInt, decide_eq_true_iff]; exact Iff.rfl
  have e3 : b.toBitVec.msb = false := by
    rw [BitVec.msb_eq_toInt, decide_eq_false_iff_not]; exact Int.not_lt.mpr hb
  have e4 : (a ^^^ b).toBitVec.msb = a.toBitVec.msb := by
    rw [Int32.toBitVec_xor, BitVec.msb_xor, e3]; simp
  rw [e4] at e1
  have := e1.trans e2.symm
  omega
theorem it_div {a b : Int32} (hb : 0 < b.toInt) (ha : -2147483648 < a.toInt) : (a / b).toInt = a.toInt.tdiv b.toInt := by
  have h1 := Int32.toInt_lt a
  rw [Int32.toInt_div]
  have h3 := Int.natAbs_tdiv_le_natAbs a.toInt b.toInt
  exact Int.bmod_eq_of_le (by omega) (by omega)
theorem fd_v {a : Int32} {A : Int} (ha : a.toInt = A) (b : -1000000 ≤ A ∧ A ≤ 1000000) : ∃ r, P_Jm_floorDiv_III a 128 = some r ∧ r.toInt = A / 128 := by
  have h128 : (128 : Int32).toInt = 128 := by decide
  have hd : (a / 128).toInt = A.tdiv 128 := by rw [it_div (by rw [h128]; decide) (by omega), ha, h128]
  have hb := Int.natAbs_tdiv_le_natAbs A 128
  have hm : (a / 128 * 128).toInt = A.tdiv 128 * 128 := by rw [it_mul (by rw [hd, h128]; omega), hd, h128]
  unfold P_Jm_floorDiv_III dzI
  rw [if_neg (by decide), fdv (x := A) (y := 128) (by decide)]
  by_cases q : 0 ≤ A
  · rw [if_pos ((xor_sgI a 128 (by rw [h128]; decide)).mpr (by omega)), if_pos q]
    exact ⟨_, rfl, hd⟩
  · rw [if_neg (fun w => q (by have := (xor_sgI a 128 (by rw [h128]; decide)).mp w; omega)), if_neg q]
    by_cases q2 : A.tdiv 128 * 128 = A
    · rw [if_pos (by rw [← Int32.toInt_inj, hm, ha]; exact q2), if_pos q2]
      exact ⟨_, rfl, hd⟩
    · rw [if_neg (fun w => q2 (by rw [← Int32.toInt_inj, hm, ha] at w; exact w)), if_neg q2]
      exact ⟨_, rfl, by rw [it_sub (by rw [hd, show (1 : Int32).toInt = 1 from rfl]; omega), hd]; rfl⟩
theorem nI_ti {n : Nat} (h : n < 2 ^ 31) : (nI n).toInt = n := by
  have := pk_sub_toInt (a := 0) (b := 0) (by decide) (by decide)
  unfold nI
  rw [Int32.toInt_ofNat_of_lt h]
theorem ff_v {v : Int32} {V : Int} (hv : v.toInt = V) (b : -100000 ≤ V ∧ V ≤ 100000) {L : Nat} (hL : L ≤ 64) : ∃ r, P_Pg_firstFrom v (nI L) = some (nI r) ∧ r ≤ L ∧ ∀ i, i < L → (i < r ↔ 128 * (i : Int) + 64 < V) := by
  unfold P_Pg_firstFrom
  have h63 : (63 : Int32).toInt = 63 := by decide
  obtain ⟨q, e1, e2⟩ := fd_v (a := v + 63) (A := V + 63) (by rw [it_add (by rw [h63]; omega), hv, h63]) (by omega)
  obtain ⟨r2, e3, e4⟩ := jmin_v (nI L) q
  obtain ⟨r3, e5, e6⟩ := jmax_v 0 r2
  rw [e1, some_bind, e3, some_bind, e5, some_bind]
  rw [e4, nI_ti (by omega), e2, show (0 : Int32).toInt = 0 from rfl] at e6
  refine ⟨r3.toInt.toNat, ?_, by omega, fun i hi => ?_⟩
  · congr 1
    rw [← Int32.toInt_inj, nI_ti (by omega)]
    omega
  · omega
theorem fb_v {v : Int32} {V : Int} (hv : v.toInt = V) (b : -90000 ≤ V ∧ V ≤ 90000) {L : Nat} (hL : L ≤ 64) : ∃ r, P_Pg_firstBehind v (nI L) = some (nI r) ∧ r ≤ L ∧ ∀ i, i < L → (i < r ↔ 128 * (i : Int) + 64 ≤ V) := by
  unfold P_Pg_firstBehind
  obtain ⟨r, e1, e2, e3⟩ := ff_v (v := v + 1) (V := V + 1) (by rw [it_add (by rw [show (1 : Int32).toInt = 1 from rfl]; omega), hv]; rfl) (by omega) hL
  rw [e1, some_bind]
  exact ⟨r, rfl, e2, fun i hi => (e3 i hi).trans (by omega)⟩
theorem cen_v (i : Nat) : P_Pg_centre (nI i) = some (nI (128 * i + 64)) := by
  unfold P_Pg_centre
  rw [show (128 : Int32) * nI i = nI (128 * i) from pk_mul 128 i, show (64 : Int32) = nI 64 from rfl, nI_add]
theorem tst_v {W : Nat} (hW : W ≤ 64) (t : Int64) {v : Int32} {V : Int} (hv : v.toInt = V) (b : n40 V) : ∃ t', P_Pg_touchStart (nI W) t v = some t' ∧ ∀ i, tb t' i ↔ tb t i ∨ (i < W ∧ 128 * (i : Int) + 64 = V) := by
  unfold n40 at b
  unfold P_Pg_touchStart
  obtain ⟨r, e1, e2, e3⟩ := ff_v hv (by omega) hW
  rw [e1, some_bind]
  rcases Nat.lt_or_ge r W with w | w
  · rw [if_neg (nI_ge w (by omega)), cen_v, some_bind]
    have h0 : ¬ 128 * (r : Int) + 64 < V := fun z => absurd ((e3 r w).mpr z) (by omega)
    by_cases q : 128 * (r : Int) + 64 = V
    · rw [if_pos (by rw [← Int32.toInt_inj, nI_ti (by omega), hv]; omega)]
      refine ⟨_, rfl, fun i => (tb_set (by omega) t i).trans ⟨fun z => z.imp id (fun z => by omega), fun z => z.imp id (fun z => by omega)⟩⟩
    · rw [if_neg (fun z => q (by rw [← Int32.toInt_inj, nI_ti (by omega), hv] at z; omega))]
      refine ⟨_, rfl, fun i => ⟨Or.inl, fun z => z.elim id (fun z => ?_)⟩⟩
      have := e3 i z.1
      omega
  · rw [if_pos (nI_le w (by omega))]
    refine ⟨_, rfl, fun i => ⟨Or.inl, fun z => z.elim id (fun z => ?_)⟩⟩
    have := e3 i z.1
    omega
theorem tfl_v {p : Pc} {k W : Nat} {sx sy le ri lx ly qx qy : Nat → Int32} (hk : k < 256) (hW : W ≤ 64) (h : CvK p k sx sy lx ly qx qy) (hl : (le k).toInt = min p.2.2.1 (min p.1 p.2.2.2.2.1)) (hr : (ri k).toInt = max p.2.2.1 (max p.1 p.2.2.2.2.1)) (t : Int64) : ∃ t', P_Pg_touchFlat (nI W) t sx le ri lx qx (nI k) = some t' ∧ ∀ i, tb t' i ↔ tb t i ∨ (i < W ∧ cov (sqx p) (slx p) (p.1 - (128 * (i : Int) + 64))) := by
  have hB := h.1
  obtain ⟨b1, _, b3, _, b5, _⟩ := hB
  unfold n40 at b1 b3 b5
  unfold P_Pg_touchFlat P_Pg_touchFlat_29
  simp only [bdI hk (show 256 < 2 ^ 31 by omega), nI_clamp (show k < 2 ^ 31 by omega)]
  obtain ⟨r, e1, e2, e3⟩ := fb_v hr (by omega) hW
  obtain ⟨a, d1, d2, d3⟩ := ff_v hl (by omega) hW
  rw [e1, some_bind, d1, some_bind]
  have loop : ∀ (e i m : Nat) (t1 : Int64), i + e = max i r → e < m → a ≤ i → i ≤ W → (∀ j, tb t1 j ↔ tb t j ∨ (a ≤ j ∧ j < i ∧ cov (sqx p) (slx p) (p.1 - (128 * (j : Int) + 64)))) → ∃ t', lp (L_Pg_touchFlat_29 (nI W) sx le ri lx qx) m (nI k, nI r, nI i, t1) = some t' ∧ ∀ j, tb t' j ↔ tb t j ∨ (a ≤ j ∧ j < max i r ∧ cov (sqx p) (slx p) (p.1 - (128 * (j : Int) + 64))) := by
    intro e
    induction e with
    | zero =>
      intro i m t1 hi hm ha hiW hb
      obtain ⟨m, rfl⟩ := suc_of hm
      rw [e_Pg_touchFlat_29]
      unfold P_Pg_touchFlat_29b
      rw [if_pos (nI_le (by omega) (by omega))]
      refine ⟨t1, rfl, ?_⟩
      rw [show max i r = i by omega]
      exact hb
    | succ e ih =>
      intro i m t1 hi hm ha hiW hb
      obtain ⟨m, rfl⟩ := suc_of hm
      rw [e_Pg_touchFlat_29]
      unfold P_Pg_touchFlat_29b P_Pg_touchFlat_61
      rw [if_neg (nI_ge (show i < r by omega) (by omega)), cen_v, some_bind]
      obtain ⟨c, c1, c2⟩ := cov_v hk h (x := nI (128 * i + 64)) (X := 128 * (i : Int) + 64) (by rw [nI_ti (by omega)]; omega) (by unfold n40; omega)
      rw [c1, some_bind, nI_1]
      have hmx : max i r = max (i + 1) r := by omega
      rw [hmx]
      by_cases q : c = 0
      · rw [if_pos q]
        refine ih (i + 1) m t1 (by omega) (by omega) (by omega) (by omega) (fun j => (hb j).trans ⟨fun z => z.imp id (fun z => ⟨z.1, by omega, z.2.2⟩), fun z => z.imp id (fun z => ⟨z.1, ?_, z.2.2⟩)⟩)
        rcases Nat.lt_or_ge j i with w | w
        · exact w
        · have : j = i := by omega
          subst this
          exact absurd z.2.2 (c2.mp q)
      · rw [if_neg q]
        have hc : cov (sqx p) (slx p) (p.1 - (128 * (i : Int) + 64)) := Classical.byContradiction (fun w => q (c2.mpr w))
        refine ih (i + 1) m _ (by omega) (by omega) (by omega) (by omega) (fun j => (tb_set (by omega) t1 j).trans ⟨fun z => ?_, fun z => ?_⟩)
        · rcases z with z | z
          · exact ((hb j).mp z).imp id (fun z => ⟨z.1, by omega, z.2.2⟩)
          · subst z; exact Or.inr ⟨ha, by omega, hc⟩
        · rcases z with z | z
          · exact Or.inl ((hb j).mpr (Or.inl z))
          · rcases Nat.lt_or_ge j i with w | w
            · exact Or.inl ((hb j).mpr (Or.inr ⟨z.1, w, z.2.2⟩))
            · exact Or.inr (by omega)
  obtain ⟨t', f1, f2⟩ := loop (max a r - a) a fuel t (by omega) (by unfold fuel; omega) (Nat.le_refl a) d2 (fun j => ⟨Or.inl, fun z => z.elim id (fun z => by omega)⟩)
  refine ⟨t', f1, fun j => (f2 j).trans ⟨fun z => z.imp id (fun z => ⟨by omega, z.2.2⟩), fun z => z.imp id (fun z => ?_)⟩⟩
  refine ⟨?_, ?_, z.2⟩
  · rcases Nat.lt_or_ge j a with w | w
    · have := (d3 j z.1).mp w
      exact absurd z.2 (cov_l (by omega) (by omega) (by omega))
    · exact w
  · rcases Nat.lt_or_ge j r with w | w
    · omega
    · have : ¬ 128 * (j : Int) + 64 ≤ _ := fun y => absurd ((e3 j z.1).mpr y) (by omega)
      exact absurd z.2 (cov_r (by omega) (by omega) (by omega))
theorem crs_l {p : Pc} {k W N a : Nat} {w Y : Int} {w' y : Int32} {sx sy le ri lx ly qx qy tu : Nat → Int32} (hk : k < 256) (hW : W ≤ 64) (hN : N ≤ W) (haN : a ≤ N) (h : CvK p k sx sy lx ly qx qy) (hw : w = 1 ∧ w' = 1 ∨ w = -1 ∧ w' = -1) (hy : y.toInt = Y) (by_ : n40 Y) (hmono : ∀ i j : Nat, i < j → 0 ≤ sdP w p (128 * (j : Int) + 64) Y → 0 < sdP w p (128 * (i : Int) + 64) Y) {t0 : Int64} : ∀ (e c m : Nat) (t : Int64), e + 2 < m → a ≤ c → c ≤ N → c + 2 * 2 ^ e ≤ a + 128 → (∀ i, a ≤ i → i < c → 0 < sdP w p (128 * (i : Int) + 64) Y) → (∀ i, tb t i → tb t0 i ∨ (a ≤ i ∧ i < N ∧ sdP w p (128 * (i : Int) + 64) Y = 0)) → (∀ i, tb t0 i → tb t i) → (c + 2 * 2 ^ e - 1 < a + 127 → (N ≤ c + 2 * 2 ^ e - 1 ∨ sdP w p (128 * ((c + 2 * 2 ^ e - 1 : Nat) : Int) + 64) Y ≤ 0) ∧ (c + 2 * 2 ^ e - 1 < N → sdP w p (128 * ((c + 2 * 2 ^ e - 1 : Nat) : Int) + 64) Y = 0 → tb t (c + 2 * 2 ^ e - 1))) → ∃ t' c', lp (L_Pg_cross_34 (nI W) (W + 1) sx sy le ri lx ly qx qy) m (nI k, w', y, nI c, nI N, nI (2 ^ e), t, tu) = some (t', upd tu c' (tu c' + w')) ∧ a ≤ c' ∧ c' ≤ N ∧ (∀ i, a ≤ i → i < N → (i < c' ↔ 0 < sdP w p (128 * (i : Int) + 64) Y)) ∧ ∀ i, tb t' i ↔ tb t0 i ∨ (a ≤ i ∧ i < N ∧ sdP w p (128 * (i : Int) + 64) Y = 0) := by
  have stp : ∀ (e c m : Nat) (t : Int64), 2 ^ e ≤ 64 → a ≤ c → c ≤ N → ∃ q, lp (L_Pg_cross_34 (nI W) (W + 1) sx sy le ri lx ly qx qy) (m + 1) (nI k, w', y, nI c, nI N, nI (2 ^ e), t, tu) = lp (L_Pg_cross_34 (nI W) (W + 1) sx sy le ri lx ly qx qy) m (nI k, w', y, nI (if c + 2 ^ e - 1 < N ∧ 0 < sdP w p (128 * ((c + 2 ^ e - 1 : Nat) : Int) + 64) Y then c + 2 ^ e else c), nI N, nI (2 ^ e) / 2, q, tu) ∧ (∀ i, tb q i ↔ tb t i ∨ (i = c + 2 ^ e - 1 ∧ c + 2 ^ e - 1 < N ∧ sdP w p (128 * ((c + 2 ^ e - 1 : Nat) : Int) + 64) Y = 0)) := by
    intro e c m t he hc1 hc2
    have hp : 1 ≤ 2 ^ e := Nat.one_le_two_pow
    rw [e_Pg_cross_34]
    unfold P_Pg_cross_34b P_Pg_cross_72 P_Pg_cross_106
    rw [if_neg (show ¬ nI (2 ^ e) ≤ 0 from fun z => absurd (show nI (2 ^ e) ≤ nI 0 from z) (nI_ge (by omega) (by omega))), nI_add, show (1 : Int32) = nI 1 from rfl, pk_sub (by omega)]
    by_cases q : c + 2 ^ e - 1 < N
    · rw [if_neg (nI_ge q (by omega)), cen_v, some_bind, side_v hk h hw (x := nI (128 * (c + 2 ^ e - 1) + 64)) (X := 128 * ((c + 2 ^ e - 1 : Nat) : Int) + 64) (by rw [nI_ti (by omega)]; omega) hy (by unfold n40; omega) by_, some_bind]
      rcases Int.lt_trichotomy (sdP w p (128 * ((c + 2 ^ e - 1 : Nat) : Int) + 64) Y) 0 with z | z | z
      · rw [if_pos (sI_le.mpr (by omega)), if_neg (fun x => absurd (sI_z.mp x) (by omega)), if_neg (by omega)]
        exact ⟨t, rfl, fun i => ⟨Or.inl, fun x => x.elim id (fun x => by omega)⟩⟩
      · rw [if_pos (sI_le.mpr (by omega)), if_pos (sI_z.mpr z), if_neg (by omega)]
        refine ⟨_, rfl, fun i => (tb_set (by omega) t i).trans ⟨fun x => x.imp id (fun x => ⟨x, q, z⟩), fun x => x.imp id (fun x => x.1)⟩⟩
      · rw [if_neg (fun x => absurd (sI_le.mp x) (by omega)), if_pos ⟨q, z⟩, nI_add, show c + 2 ^ e - 1 + 1 = c + 2 ^ e by omega]
        exact ⟨t, rfl, fun i => ⟨Or.inl, fun x => x.elim id (fun x => by omega)⟩⟩
    · rw [if_pos (nI_le (by omega) (by omega)), if_pos (by decide), if_neg (by decide), if_neg (fun z => q z.1)]
      exact ⟨t, rfl, fun i => ⟨Or.inl, fun x => x.elim id (fun x => by omega)⟩⟩
  intro e
  induction e with
  | zero =>
    intro c m t hm hc1 hc2 hu hlow ht1 ht2 hup
    obtain ⟨m, rfl⟩ := suc_of (show 0 < m by omega)
    obtain ⟨m, rfl⟩ := suc_of (show 0 < m by omega)
    obtain ⟨q, k1, k2⟩ := stp 0 c (m + 1) t (by decide) hc1 hc2
    rw [k1, show nI (2 ^ 0) / 2 = 0 from by decide, e_Pg_cross_34]
    unfold P_Pg_cross_34b
    rw [if_pos (by decide)]
    have e1 : c + 2 ^ 0 - 1 = c := by omega
    have e2 : c + 2 * 2 ^ 0 - 1 = c + 1 := by omega
    have e3 : c + 2 ^ 0 = c + 1 := rfl
    rw [e1] at k2
    rw [e1, e3]
    rw [e2] at hup
    generalize hc' : (if c < N ∧ 0 < sdP w p (128 * (c : Int) + 64) Y then c + 1 else c) = c'
    have hc3 : c' ≤ N ∧ a ≤ c' := by
      rw [← hc']; split <;> omega
    simp only [bdI (show c' < W + 1 by omega) (show W + 1 < 2 ^ 31 by omega), nI_clamp (show c' < 2 ^ 31 by omega)]
    have hlow' : ∀ i, a ≤ i → i < c' → 0 < sdP w p (128 * (i : Int) + 64) Y := by
      intro i i1 i2
      rcases Nat.lt_or_ge i c with z | z
      · exact hlow i i1 z
      · rw [← hc'] at i2
        split at i2
        · rename_i x
          have : i = c := by omega
          subst this
          exact x.2
        · omega
    have hnot : c' < N → ¬ 0 < sdP w p (128 * (c' : Int) + 64) Y := by
      intro i1 i2
      rw [← hc'] at i1 i2
      split at i1
      · rename_i x
        rw [if_pos x] at i2
        rcases Nat.lt_or_ge (c + 1) (a + 127) with z | z
        · rcases (hup z).1 with y | y
          · omega
          · omega
        · omega
      · rename_i x
        rw [if_neg x] at i2
        exact x ⟨i1, i2⟩
    refine ⟨q, c', rfl, hc3.2, hc3.1, fun i i1 i2 => ⟨fun z => hlow' i i1 z, fun z => ?_⟩, fun i => ?_⟩
    · rcases Nat.lt_or_ge i c' with x | x
      · exact x
      · exfalso
        rcases Nat.lt_or_ge c' i with v | v
        · exact hnot (by omega) (hmono c' i v (by omega))
        · have : i = c' := by omega
          subst this
          exact hnot i2 z
    · rw [k2]
      constructor
      · rintro (z | z)
        · exact ht1 i z
        · obtain ⟨rfl, z1, z2⟩ := z
          exact Or.inr ⟨hc1, z1, z2⟩
      · rintro (z | z)
        · exact Or.inl (ht2 i z)
        · obtain ⟨z1, z2, z3⟩ := z
          have ic : i = c' := by
            rcases Nat.lt_trichotomy i c' with x | x | x
            · have := hlow' i z1 x; omega
            · exact x
            · exact absurd (hmono c' i x (by omega)) (hnot (by omega))
          by_cases x : c < N ∧ 0 < sdP w p (128 * (c : Int) + 64) Y
          · rw [if_pos x] at hc'
            have z5 : i = c + 1 := by omega
            subst z5
            exact Or.inl ((hup (by omega)).2 z2 z3)
          · rw [if_neg x] at hc'
            have z5 : i = c := by omega
            subst z5
            exact Or.inr ⟨rfl, z2, z3⟩
  | succ e ih =>
    intro c m t hm hc1 hc2 hu hlow ht1 ht2 hup
    have hpow : 2 ^ (e + 1) = 2 * 2 ^ e := by rw [Nat.pow_succ, Nat.mul_comm]
    have hp1 : 1 ≤ 2 ^ e := Nat.one_le_two_pow
    obtain ⟨m, rfl⟩ := suc_of (show 0 < m by omega)
    obtain ⟨q, k1, k2⟩ := stp (e + 1) c m t (by omega) hc1 hc2
    rw [k1, show nI (2 ^ (e + 1)) / 2 = nI (2 ^ e) from by
      rw [show (2 : Int32) = nI 2 from rfl, pk_div (by omega) (by decide) (by decide)]
      congr 1
      omega]
    rw [hpow] at hu hup k2 ⊢
    have tq1 : ∀ i, tb q i → tb t0 i ∨ (a ≤ i ∧ i < N ∧ sdP w p (128 * (i : Int) + 64) Y = 0) := by
      intro i hi
      rcases (k2 i).mp hi with z | z
      · exact ht1 i z
      · obtain ⟨rfl, z1, z2⟩ := z
        exact Or.inr ⟨by omega, z1, z2⟩
    have tq2 : ∀ i, tb t0 i → tb q i := fun i hi => (k2 i).mpr (Or.inl (ht2 i hi))
    by_cases x : c + 2 * 2 ^ e - 1 < N ∧ 0 < sdP w p (128 * ((c + 2 * 2 ^ e - 1 : Nat) : Int) + 64) Y
    · rw [if_pos x]
      refine ih (c + 2 * 2 ^ e) m q (by omega) (by omega) (by omega) (by omega) (fun i i1 i2 => ?_) tq1 tq2 ?_
      · rcases Nat.lt_or_ge i (c + 2 * 2 ^ e - 1) with z | z
        · exact hmono i (c + 2 * 2 ^ e - 1) z (by omega)
        · rw [show i = c + 2 * 2 ^ e - 1 by omega]; exact x.2
      · intro z
        rw [show c + 2 * 2 ^ e + 2 * 2 ^ e - 1 = c + 2 * (2 * 2 ^ e) - 1 by omega] at z ⊢
        obtain ⟨y1, y2⟩ := hup z
        exact ⟨y1, fun v1 v2 => (k2 _).mpr (Or.inl (y2 v1 v2))⟩
    · rw [if_neg x]
      refine ih c m q (by omega) hc1 hc2 (by omega) hlow tq1 tq2 (fun z => ⟨?_, fun v1 v2 => (k2 _).mpr (Or.inr ⟨rfl, v1, v2⟩)⟩)
      rcases Nat.lt_or_ge (c + 2 * 2 ^ e - 1) N with y | y
      · exact Or.inr (by
          rcases Int.lt_or_le 0 (sdP w p (128 * ((c + 2 * 2 ^ e - 1 : Nat) : Int) + 64) Y) with v | v
          · exact absurd ⟨y, v⟩ x
          · exact v)
      · exact Or.inl y
theorem crs_x {p : Pc} {k W : Nat} {w Y : Int} {w' y : Int32} {sx sy le ri lx ly qx qy tu : Nat → Int32} (hk : k < 256) (hW : W ≤ 64) (h : CvK p k sx sy lx ly qx qy) (hl : (le k).toInt = min p.2.2.1 (min p.1 p.2.2.2.2.1)) (hr : (ri k).toInt = max p.2.2.1 (max p.1 p.2.2.2.2.1)) (hw : w = 1 ∧ w' = 1 ∨ w = -1 ∧ w' = -1) (hy : y.toInt = Y) (by_ : n40 Y) (hC : Cw w p Y) (nf : ¬ (sqy p = 0 ∧ sly p = 0)) (t : Int64) : ∃ t' c', P_Pg_cross (nI W) t (W + 1) tu sx sy le ri lx ly qx qy (nI k) w' y = some (t', upd tu c' (tu c' + w')) ∧ c' ≤ W ∧ (∀ i, i < W → (i < c' ↔ 0 < sdP w p (128 * (i : Int) + 64) Y)) ∧ ∀ i, tb t' i ↔ tb t i ∨ (i < W ∧ sdP w p (128 * (i : Int) + 64) Y = 0) := by
  obtain ⟨b1, _, b3, _, b5, _⟩ := h.1
  unfold n40 at b1 b3 b5
  unfold P_Pg_cross P_Pg_cross_34
  simp only [bdI hk (show 256 < 2 ^ 31 by omega), nI_clamp (show k < 2 ^ 31 by omega)]
  obtain ⟨N, e1, e2, e3⟩ := fb_v hr (by omega) hW
  obtain ⟨a, d1, d2, d3⟩ := ff_v hl (by omega) hW
  rw [e1, d1]
  simp only [some_bind]
  have haN : a ≤ N := by
    rcases Nat.lt_or_ge N a with z | z
    · have z1 := (d3 N (by omega)).mp z
      have z2 : ¬ 128 * (N : Int) + 64 ≤ _ := fun y => absurd ((e3 N (by omega)).mpr y) (by omega)
      omega
    · exact z
  have hmono : ∀ i j : Nat, i < j → 0 ≤ sdP w p (128 * (j : Int) + 64) Y → 0 < sdP w p (128 * (i : Int) + 64) Y := fun i j hij hs => sdP_up hC nf (by omega) hs
  obtain ⟨t', c', f1, f2, f3, f4, f5⟩ := crs_l (tu := tu) (le := le) (ri := ri) hk hW e2 haN h hw hy by_ hmono (t0 := t) 6 a fuel t (by unfold fuel; omega) (Nat.le_refl a) haN (by omega) (fun i i1 i2 => absurd i1 (by omega)) (fun i hi => Or.inl hi) (fun i hi => hi) (fun z => absurd z (by omega))
  have hL : ∀ i, i < W → i < a → 0 < sdP w p (128 * (i : Int) + 64) Y := fun i i1 i2 => by
    have := (d3 i i1).mp i2
    exact sdP_l hC nf (by omega) (by omega) (by omega)
  have hR : ∀ i, i < W → N ≤ i → sdP w p (128 * (i : Int) + 64) Y < 0 := fun i i1 i2 => by
    have : ¬ 128 * (i : Int) + 64 ≤ _ := fun y => absurd ((e3 i i1).mpr y) (by omega)
    exact sdP_r hC nf (by omega) (by omega) (by omega)
  refine ⟨t', c', f1, by omega, fun i hi => ?_, fun i => ?_⟩
  · rcases Nat.lt_or_ge i a with z | z
    · have := hL i hi z
      exact ⟨fun _ => this, fun _ => by omega⟩
    · rcases Nat.lt_or_ge i N with v | v
      · exact f4 i z v
      · have := hR i hi v
        exact ⟨fun _ => by omega, fun _ => by omega⟩
  · rw [f5]
    constructor
    · rintro (z | z)
      · exact Or.inl z
      · exact Or.inr ⟨by omega, z.2.2⟩
    · rintro (z | z)
      · exact Or.inl z
      · refine Or.inr ⟨?_, ?_, z.2⟩
        · rcases Nat.lt_or_ge i a with v | v
          · have := hL i z.1 v; omega
          · exact v
        · rcases Nat.lt_or_ge i N with v | v
          · exact v
          · have := hR i z.1 v; omega
