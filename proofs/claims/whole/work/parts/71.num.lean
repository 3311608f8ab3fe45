/-! PURE ROWS: longs as bounded integers; signum, comesBack, squareLess -/
def J (b : Int) (x : Int64) (v : Int) : Prop := x.toInt = v ∧ -b ≤ v ∧ v ≤ b
theorem z_ab {v b : Int} (h1 : -b ≤ v) (h2 : v ≤ b) : 0 ≤ b := by omega
theorem z_mb {v w a b : Int} (h1 : -a ≤ v) (h2 : v ≤ a) (h3 : -b ≤ w) (h4 : w ≤ b) : -(a * b) ≤ v * w ∧ v * w ≤ a * b := by
  have p1 := Int.mul_nonneg (show 0 ≤ a + v by omega) (show 0 ≤ b + w by omega)
  have p2 := Int.mul_nonneg (show 0 ≤ a - v by omega) (show 0 ≤ b - w by omega)
  have p3 := Int.mul_nonneg (show 0 ≤ a + v by omega) (show 0 ≤ b - w by omega)
  have p4 := Int.mul_nonneg (show 0 ≤ a - v by omega) (show 0 ≤ b + w by omega)
  have e1 : (a + v) * (b + w) = a * b + a * w + v * b + v * w := by grind
  have e2 : (a - v) * (b - w) = a * b - a * w - v * b + v * w := by grind
  have e3 : (a + v) * (b - w) = a * b - a * w + v * b - v * w := by grind
  have e4 : (a - v) * (b + w) = a * b + a * w - v * b - v * w := by grind
  omega
theorem J_mul {x y : Int64} {v w a b : Int} (hx : J a x v) (hy : J b y w) (h : a * b < 9223372036854775808) : J (a * b) (x * y) (v * w) := by
  obtain ⟨rfl, x1, x2⟩ := hx
  obtain ⟨rfl, y1, y2⟩ := hy
  have := z_mb x1 x2 y1 y2
  exact ⟨jt_mul (by omega), this.1, this.2⟩
theorem J_add {x y : Int64} {v w a b : Int} (hx : J a x v) (hy : J b y w) (h : a + b < 9223372036854775808) : J (a + b) (x + y) (v + w) := by
  obtain ⟨rfl, x1, x2⟩ := hx
  obtain ⟨rfl, y1, y2⟩ := hy
  exact ⟨jt_add (by omega), by omega, by omega⟩
theorem J_sub {x y : Int64} {v w a b : Int} (hx : J a x v) (hy : J b y w) (h : a + b < 9223372036854775808) : J (a + b) (x - y) (v - w) := by
  obtain ⟨rfl, x1, x2⟩ := hx
  obtain ⟨rfl, y1, y2⟩ := hy
  exact ⟨jt_sub (by omega), by omega, by omega⟩
theorem J_neg {x : Int64} {v a : Int} (hx : J a x v) (h : a < 9223372036854775808) : J a (-x) (-v) := by
  obtain ⟨rfl, x1, x2⟩ := hx
  exact ⟨jt_neg (by omega), by omega, by omega⟩
theorem J_i {x : Int32} {v a : Int} (h : x.toInt = v) (h1 : -a ≤ v ∧ v ≤ a) : J a x.toInt64 v := ⟨by rw [Int32.toInt_toInt64]; exact h, h1.1, h1.2⟩
theorem J_w {x : Int64} {v a b : Int} (hx : J a x v) (h : a ≤ b) : J b x v := ⟨hx.1, by have := hx.2.1; omega, by have := hx.2.2; omega⟩
theorem J0 : J 0 (0 : Int64) 0 := ⟨rfl, by decide, by decide⟩
theorem J2 : J 2 (2 : Int64) 2 := ⟨rfl, by decide, by decide⟩
theorem J4 : J 4 (4 : Int64) 4 := ⟨rfl, by decide, by decide⟩
theorem Jm2 : J 2 (-2 : Int64) (-2) := ⟨by decide, by decide, by decide⟩
theorem J_le {x y : Int64} {v w a b : Int} (hx : J a x v) (hy : J b y w) : lg_cmp x y ≤ 0 ↔ v ≤ w := by
  rw [lg_cmp_le, Int64.le_iff_toInt_le, hx.1, hy.1]
theorem J_ge {x y : Int64} {v w a b : Int} (hx : J a x v) (hy : J b y w) : 0 ≤ lg_cmp x y ↔ w ≤ v := by
  rw [lg_cmp_ge, Int64.le_iff_toInt_le, hx.1, hy.1]
theorem J_lt {x y : Int64} {v w a b : Int} (hx : J a x v) (hy : J b y w) : lg_cmp x y < 0 ↔ v < w := by
  rw [lg_cmp_lt, Int64.lt_iff_toInt_lt, hx.1, hy.1]
theorem J_gt {x y : Int64} {v w a b : Int} (hx : J a x v) (hy : J b y w) : 0 < lg_cmp x y ↔ w < v := by
  rw [lg_cmp_gt, Int64.lt_iff_toInt_lt, hx.1, hy.1]
theorem J_eq {x y : Int64} {v w a b : Int} (hx : J a x v) (hy : J b y w) : lg_cmp x y = 0 ↔ v = w := by
  rw [lg_cmp_eq, ← Int64.toInt_inj, hx.1, hy.1]
def sI (v : Int) : Int32 := if v < 0 then -1 else if v = 0 then 0 else 1
theorem sI_n {v : Int} (h : v < 0) : sI v = -1 := if_pos h
theorem sI_0 : sI 0 = 0 := rfl
theorem sI_p {v : Int} (h : 0 < v) : sI v = 1 := by unfold sI; rw [if_neg (by omega), if_neg (by omega)]
theorem sI_sg (v : Int) : sI v.sign = sI v := by
  rcases sg_tri v with ⟨h, k⟩ | ⟨h, k⟩ | ⟨h, k⟩
  · rw [h, sI_p k]; rfl
  · rw [h, k]
  · rw [h, sI_n k]; rfl
theorem sI_z {v : Int} : sI v = 0 ↔ v = 0 := by
  unfold sI
  rcases Int.lt_trichotomy v 0 with h | h | h
  · rw [if_pos h]; exact ⟨fun q => absurd q (by decide), fun q => by omega⟩
  · rw [if_neg (by omega), if_pos h]; exact ⟨fun _ => h, fun _ => rfl⟩
  · rw [if_neg (by omega), if_neg (by omega)]; exact ⟨fun q => absurd q (by decide), fun q => by omega⟩
theorem sI_mul (v w : Int) : sI v * sI w = sI (v * w) := by
  rcases Int.lt_trichotomy v 0 with h | h | h
  · rcases Int.lt_trichotomy w 0 with k | k | k
    · rw [sI_n h, sI_n k, sI_p (Int.mul_pos_of_neg_of_neg h k)]; rfl
    · rw [k, Int.mul_zero, sI_0, sI_n h]; rfl
    · rw [sI_n h, sI_p k, sI_n (Int.mul_neg_of_neg_of_pos h k)]; rfl
  · rw [h, Int.zero_mul, sI_0, Int32.zero_mul]
  · rcases Int.lt_trichotomy w 0 with k | k | k
    · rw [sI_p h, sI_n k, sI_n (Int.mul_neg_of_pos_of_neg h k)]; rfl
    · rw [k, Int.mul_zero, sI_0, sI_p h]; rfl
    · rw [sI_p h, sI_p k, sI_p (Int.mul_pos h k)]; rfl
theorem sI_pos {v : Int} : 0 < sI v ↔ 0 < v := by
  unfold sI
  rcases Int.lt_trichotomy v 0 with h | h | h
  · rw [if_pos h]; exact ⟨fun q => absurd q (by decide), fun q => by omega⟩
  · rw [if_neg (by omega), if_pos h]; exact ⟨fun q => absurd q (by decide), fun q => by omega⟩
  · rw [if_neg (by omega), if_neg (by omega)]; exact ⟨fun _ => h, fun _ => by decide⟩
theorem sI_le {v : Int} : sI v ≤ 0 ↔ v ≤ 0 := by
  unfold sI
  rcases Int.lt_trichotomy v 0 with h | h | h
  · rw [if_pos h]; exact ⟨fun q => by omega, fun q => by decide⟩
  · rw [if_neg (by omega), if_pos h]; exact ⟨fun q => by omega, fun q => by decide⟩
  · rw [if_neg (by omega), if_neg (by omega)]; exact ⟨fun q => absurd q (by decide), fun q => by omega⟩
theorem sI_inj {v w : Int} (h : sI v = sI w) : v.sign = w.sign := by
  rcases sg_tri v with ⟨e, k⟩ | ⟨e, k⟩ | ⟨e, k⟩ <;> rcases sg_tri w with ⟨e', k'⟩ | ⟨e', k'⟩ | ⟨e', k'⟩
  · rw [e, e']
  · rw [sI_p k, k', sI_0] at h; exact absurd h (by decide)
  · rw [sI_p k, sI_n k'] at h; exact absurd h (by decide)
  · rw [sI_p k', k, sI_0] at h; exact absurd h (by decide)
  · rw [e, e']
  · rw [sI_n k', k, sI_0] at h; exact absurd h (by decide)
  · rw [sI_p k', sI_n k] at h; exact absurd h (by decide)
  · rw [sI_n k, k', sI_0] at h; exact absurd h (by decide)
  · rw [e, e']
theorem sr63 (x : Int64) : (x >>> ((63 : Int32).toInt64 &&& 63)).toInt = x.toInt / 9223372036854775808 := by
  rw [show ((63 : Int32).toInt64 &&& 63) = (63 : Int64) from by decide]
  rw [← Int64.toInt_toBitVec, Int64.toBitVec_shiftRight]
  rw [show (Int64.toBitVec 63).smod 64 = 63#64 from by decide]
  rw [BitVec.sshiftRight_eq', BitVec.toInt_sshiftRight, Int64.toInt_toBitVec, Int.shiftRight_eq_div_pow]
  rfl
theorem jN_neg {x : Int64} (h : 0 < x.toInt) : jN (-x) = 18446744073709551616 - x.toInt.toNat := by
  have hx := Int64.toInt_lt x
  unfold jN
  rw [Int64.toBitVec_neg, BitVec.toNat_neg]
  have : x.toBitVec.toNat = x.toInt.toNat := by
    rw [← Int64.toInt_toBitVec] at h hx ⊢
    rw [BitVec.toInt_eq_toNat_cond] at h hx ⊢
    have := x.toBitVec.isLt
    split <;> split at h <;> omega
  rw [this]
  omega
theorem j_of {x : Int64} (h : 0 ≤ x.toInt) : (jN x : Int) = x.toInt := by
  unfold jN
  rw [← Int64.toInt_toBitVec] at h ⊢
  rw [BitVec.toInt_eq_toNat_cond] at h ⊢
  have := x.toBitVec.isLt
  split <;> split at h <;> omega
theorem signum_v (x : Int64) : P_Jl_signum x = some (sI x.toInt) := by
  unfold P_Jl_signum
  have h1 := Int64.toInt_lt x
  have h2 := Int64.le_toInt x
  congr 1
  rcases Int.lt_trichotomy x.toInt 0 with h | h | h
  · have e : x >>> ((63 : Int32).toInt64 &&& 63) = -1 := by
      rw [← Int64.toInt_inj, sr63, show (-1 : Int64).toInt = -1 from by decide]; omega
    rw [e, sI_n h]
    have : ∀ y : Int64, (-1 : Int64) ||| y = -1 := by
      intro y
      rw [← Int64.toBitVec_inj, Int64.toBitVec_or, show (-1 : Int64).toBitVec = BitVec.allOnes 64 from by decide, BitVec.allOnes_or]
    rw [this]; decide
  · have : x = 0 := by rw [← Int64.toInt_inj, h]; rfl
    rw [this]; decide
  · have e : x >>> ((63 : Int32).toInt64 &&& 63) = 0 := by
      rw [← Int64.toInt_inj, sr63, show (0 : Int64).toInt = 0 from rfl]; omega
    rw [e, sI_p h]
    have k := jN_shr (-x) ((63 : Int32).toInt64.toUInt64 &&& Int64.toUInt64 63) 63 (by decide)
    rw [jN_neg h] at k
    have e2 : ((-x).toUInt64 >>> ((63 : Int32).toInt64.toUInt64 &&& Int64.toUInt64 63)).toInt64 = 1 := by
      rw [← Int64.toBitVec_inj, ← BitVec.toNat_inj]
      unfold jN at k
      rw [k, show (Int64.toBitVec 1).toNat = 1 from by decide]
      omega
    rw [e2]; decide
theorem signum_J {x : Int64} {v a : Int} (h : J a x v) : P_Jl_signum x = some (sI v) := by rw [signum_v, h.1]
theorem msign_J {x : Int64} {v a : Int} (h : J a x v) : P_Mo_sign x = some (sI v) := by
  unfold P_Mo_sign sI
  by_cases q : v < 0
  · rw [if_pos q, if_neg (fun w => absurd ((J_ge h J0).mp w) (by omega))]
  · rw [if_neg q, if_pos ((J_ge h J0).mpr (by omega))]
    by_cases q2 : v = 0
    · rw [if_pos q2, if_pos ((J_le h J0).mpr (by omega))]
    · rw [if_neg q2, if_neg (fun w => absurd ((J_le h J0).mp w) (by omega))]
theorem abs_J {x : Int64} {v a : Int} (h : J a x v) (ha : a < 9223372036854775808) : ∃ y, P_Jm_abs_JJ x = some y ∧ J a y (v.natAbs : Int) := by
  unfold P_Jm_abs_JJ
  by_cases q : 0 ≤ v
  · rw [if_pos ((J_ge h J0).mpr q)]
    exact ⟨_, rfl, h.1.trans (by omega), by have := h.2; omega, by have := h.2; omega⟩
  · rw [if_neg (fun w => q ((J_ge h J0).mp w))]
    have := J_neg h ha
    exact ⟨_, rfl, this.1.trans (by omega), by have := h.2; omega, by have := h.2; omega⟩
theorem compare_J {x y : Int64} {v w a b : Int} (hx : J a x v) (hy : J b y w) : P_Jl_compare x y = some (sI (v - w)) := by
  unfold P_Jl_compare
  rcases Int.lt_trichotomy v w with h | h | h
  · rw [if_neg (fun q => absurd ((J_ge hx hy).mp q) (by omega)), sI_n (by omega)]
  · rw [if_pos ((J_ge hx hy).mpr (by omega)), if_pos ((J_eq hx hy).mpr h), show v - w = 0 by omega]; rfl
  · rw [if_pos ((J_ge hx hy).mpr (by omega)), if_neg (fun q => absurd ((J_eq hx hy).mp q) (by omega)), sI_p (by omega)]
def bI (p : Prop) [Decidable p] : Int32 := if p then 1 else 0
theorem bI_1 {p : Prop} [Decidable p] (h : p) : bI p = 1 := if_pos h
theorem bI_0 {p : Prop} [Decidable p] (h : ¬ p) : bI p = 0 := if_neg h
theorem bI_z {p : Prop} [Decidable p] : bI p = 0 ↔ ¬ p := by
  by_cases h : p
  · rw [bI_1 h]; exact ⟨fun q => absurd q (by decide), fun q => absurd h q⟩
  · rw [bI_0 h]; exact ⟨fun _ => h, fun _ => rfl⟩
theorem cb82 {x0 x2 x4 : Int64} {sq sl st : Int} (h0 : J 200000 x0 sq) (h2 : J 200000 x2 sl) (h4 : J 200000 x4 st) (p : Prop) [Decidable p] : P_Cv_comesBack_52 x0 x2 x4 (bI p) = some (bI (p ∧ (0 < st ↔ 0 < sq) ∧ 4 * sq * st ≤ sl * sl)) := by
  have e := J_lt (J_mul h2 h2 (by decide)) (J_mul (J_mul J4 h0 (by decide)) h4 (by decide))
  unfold P_Cv_comesBack_52 P_Cv_comesBack_71 P_Cv_comesBack_82
  by_cases hp : p
  · rw [bI_1 hp, if_neg (by decide)]
    by_cases q1 : 0 < st <;> by_cases q2 : 0 < sq <;> by_cases q3 : sl * sl < 4 * sq * st
    · rw [if_neg (fun w => absurd ((J_le h4 J0).mp w) (by omega)), if_neg (fun w => absurd ((J_le h0 J0).mp w) (by omega)), if_pos rfl, if_pos (e.mpr q3), bI_0 (by omega)]
    · rw [if_neg (fun w => absurd ((J_le h4 J0).mp w) (by omega)), if_neg (fun w => absurd ((J_le h0 J0).mp w) (by omega)), if_pos rfl, if_neg (fun w => q3 (e.mp w)), bI_1 ⟨hp, by omega, by omega⟩]
    · rw [if_neg (fun w => absurd ((J_le h4 J0).mp w) (by omega)), if_pos ((J_le h0 J0).mpr (by omega)), if_neg (by decide), bI_0 (by omega)]
    · rw [if_neg (fun w => absurd ((J_le h4 J0).mp w) (by omega)), if_pos ((J_le h0 J0).mpr (by omega)), if_neg (by decide), bI_0 (by omega)]
    · rw [if_pos ((J_le h4 J0).mpr (by omega)), if_neg (fun w => absurd ((J_le h0 J0).mp w) (by omega)), if_neg (by decide), bI_0 (by omega)]
    · rw [if_pos ((J_le h4 J0).mpr (by omega)), if_neg (fun w => absurd ((J_le h0 J0).mp w) (by omega)), if_neg (by decide), bI_0 (by omega)]
    · rw [if_pos ((J_le h4 J0).mpr (by omega)), if_pos ((J_le h0 J0).mpr (by omega)), if_pos rfl, if_pos (e.mpr q3), bI_0 (by omega)]
    · rw [if_pos ((J_le h4 J0).mpr (by omega)), if_pos ((J_le h0 J0).mpr (by omega)), if_pos rfl, if_neg (fun w => q3 (e.mp w)), bI_1 ⟨hp, by omega, by omega⟩]
  · rw [bI_0 hp, if_pos rfl, bI_0 (fun w => hp w.1)]
theorem cb_v {x0 x2 x4 : Int64} {sq sl st : Int} (h0 : J 200000 x0 sq) (h2 : J 200000 x2 sl) (h4 : J 200000 x4 st) : P_Cv_comesBack x0 x2 x4 = some (bI (cbk sq sl st)) := by
  have e1 := J_ge h2 (J_mul Jm2 h0 (by decide))
  have e2 := J_ge (J_neg h2 (by decide)) (J_mul J2 h0 (by decide))
  have hF := cb82 h0 h2 h4 (0 < sq ∧ sl < 0 ∧ -sl < 2 * sq ∨ sq ≤ 0 ∧ 0 < sl ∧ sl < -2 * sq)
  show _ = some (bI (_ ∧ _ ∧ _))
  rw [← hF]
  unfold P_Cv_comesBack P_Cv_comesBack_51 P_Cv_comesBack_27
  by_cases q1 : sq ≤ 0
  · rw [if_pos ((J_le h0 J0).mpr q1)]
    by_cases q2 : sl ≤ 0
    · rw [if_pos ((J_le h2 J0).mpr q2), bI_0 (by omega)]
    rw [if_neg (fun w => q2 ((J_le h2 J0).mp w))]
    by_cases q3 : -2 * sq ≤ sl
    · rw [if_pos (e1.mpr q3), bI_0 (by omega)]
    · rw [if_neg (fun w => q3 (e1.mp w)), bI_1 (by omega)]
  · rw [if_neg (fun w => q1 ((J_le h0 J0).mp w))]
    by_cases q2 : 0 ≤ sl
    · rw [if_pos ((J_ge h2 J0).mpr q2), bI_0 (by omega)]
    rw [if_neg (fun w => q2 ((J_ge h2 J0).mp w))]
    by_cases q3 : 2 * sq ≤ -sl
    · rw [if_pos (e2.mpr q3), bI_0 (by omega)]
    · rw [if_neg (fun w => q3 (e2.mp w)), bI_1 (by omega)]
theorem j_mask {x : Int64} (h : 0 ≤ x.toInt) : (x &&& (1048575 : Int64)).toInt = x.toInt % 1048576 := by
  have e : jN (x &&& (1048575 : Int64)) = jN x % 2 ^ 20 := by
    rw [jN_and, show jN (1048575 : Int64) = 2 ^ 20 - 1 from by decide, Nat.and_two_pow_sub_one_eq_mod]
  have k := j_of h
  have hl : jN (x &&& (1048575 : Int64)) < 9223372036854775808 := by omega
  have : (x &&& (1048575 : Int64)).toInt = jN (x &&& (1048575 : Int64)) := by
    unfold jN at hl ⊢
    rw [← Int64.toInt_toBitVec, BitVec.toInt_eq_toNat_cond, if_pos (by omega)]
  rw [this, e]
  omega
theorem j_sr20 (x : Int64) : (x >>> ((20 : Int32).toInt64 &&& 63)).toInt = x.toInt / 1048576 := by
  rw [show ((20 : Int32).toInt64 &&& 63) = (20 : Int64) from by decide]
  rw [← Int64.toInt_toBitVec, Int64.toBitVec_shiftRight]
  rw [show (Int64.toBitVec 20).smod 64 = 20#64 from by decide]
  rw [BitVec.sshiftRight_eq', BitVec.toInt_sshiftRight, Int64.toInt_toBitVec, Int.shiftRight_eq_div_pow]
  rfl
theorem Jmask {x : Int64} {v a : Int} (h : J a x v) (h0 : 0 ≤ v) : J 1048575 (x &&& (1048575 : Int64)) (v % 1048576) := ⟨by rw [j_mask (by rw [h.1]; exact h0), h.1], by omega, by omega⟩
theorem Jsr20 {x : Int64} {v a : Int} (h : J (a * 1048576 + 1048575) x v) (h0 : 0 ≤ v) : J a (x >>> ((20 : Int32).toInt64 &&& 63)) (v / 1048576) := ⟨by rw [j_sr20, h.1], by have := h.2; omega, by have := h.2; omega⟩
theorem sqid (p t : Int) : p * t = 1048576 * (p / 1048576 * t) + p % 1048576 * t := by
  have := Int.mul_ediv_add_emod p 1048576
  generalize p / 1048576 = x at *
  generalize p % 1048576 = y at *
  rw [← this]; grind
theorem hilo {H L H' L' : Int} : (1048576 * H + L) - (1048576 * H' + L') = 1048576 * ((H + L / 1048576) - (H' + L' / 1048576)) + (L % 1048576 - L' % 1048576) := by omega
theorem sI_hl {x y : Int} (hy : -1048576 < y ∧ y < 1048576) : sI (1048576 * x + y) = if sI x = 0 then sI y else sI x := by
  rcases Int.lt_trichotomy x 0 with h | h | h
  · rw [sI_n h, if_neg (by decide), sI_n (by omega)]
  · rw [h, sI_0, if_pos rfl]; congr 1; omega
  · rw [sI_p h, if_neg (by decide), sI_p (by omega)]
theorem sl_v {x1 x2 x3 : Int64} {k n j : Int} (h1 : J 68719476735 x1 k) (h2 : J 68719476735 x2 n) (h3 : J 68719476735 x3 j) : P_Cv_squareLess x1 x2 x3 = some (sI (k * k - n * j)) := by
  unfold P_Cv_squareLess
  rw [signum_J h2, some_bind, signum_J h3, some_bind, sI_mul]
  by_cases q : 0 < n * j
  · rw [if_pos (sI_pos.mpr q)]
    obtain ⟨p1, e1, k1⟩ := abs_J h1 (by decide)
    obtain ⟨p2, e2, k2⟩ := abs_J h2 (by decide)
    obtain ⟨p3, e3, k3⟩ := abs_J h3 (by decide)
    rw [e1, some_bind, e2, some_bind, e3, some_bind]
    have m1 := Jmask k1 (by omega)
    have m2 := Jmask k2 (by omega)
    have r1 := Jsr20 (a := 65535) k1 (by omega)
    have r2 := Jsr20 (a := 65535) k2 (by omega)
    have u1 := J_mul m1 k1 (by decide)
    have u2 := J_mul m2 k3 (by decide)
    have g1 : 0 ≤ (k.natAbs : Int) % 1048576 * k.natAbs := Int.mul_nonneg (by omega) (by omega)
    have g2 : 0 ≤ (n.natAbs : Int) % 1048576 * j.natAbs := Int.mul_nonneg (by omega) (by omega)
    have s1 := Jsr20 (a := 68719476735) (J_w u1 (by decide)) g1
    have s2 := Jsr20 (a := 68719476735) (J_w u2 (by decide)) g2
    have c1 := compare_J (J_add (J_mul r1 k1 (by decide)) s1 (by decide)) (J_add (J_mul r2 k3 (by decide)) s2 (by decide))
    have c2 := compare_J (Jmask u1 g1) (Jmask u2 g2)
    rw [c1, some_bind, c2, some_bind]
    have ek : k * k = (k.natAbs : Int) * k.natAbs := (Int.natAbs_mul_self' k).symm
    have en : n * j = (n.natAbs : Int) * j.natAbs := by
      have : (n * j).natAbs = n.natAbs * j.natAbs := Int.natAbs_mul n j
      have h : n * j = ((n * j).natAbs : Int) := by omega
      rw [h, this]; exact Int.natCast_mul _ _
    rw [ek, en, sqid k.natAbs k.natAbs, sqid n.natAbs j.natAbs, hilo, sI_hl (by omega)]
    split <;> rfl
  · rw [if_neg (fun w => q (sI_pos.mp w))]
    have hk := z_sq k
    by_cases q1 : k = 0
    · rw [if_pos ((J_eq h1 J0).mpr q1)]
      by_cases q2 : n = 0
      · rw [if_pos ((J_eq h2 J0).mpr q2), q1, q2, Int.zero_mul, Int.zero_mul]; rfl
      rw [if_neg (fun w => q2 ((J_eq h2 J0).mp w))]
      by_cases q3 : j = 0
      · rw [if_pos ((J_eq h3 J0).mpr q3), q1, q3, Int.mul_zero, Int.mul_zero]; rfl
      rw [if_neg (fun w => q3 ((J_eq h3 J0).mp w)), sI_p]
      have : n * j ≠ 0 := Int.mul_ne_zero q2 q3
      rw [q1]; omega
    · rw [if_neg (fun w => q1 ((J_eq h1 J0).mp w)), sI_p]
      have := z_pp q1
      omega
