/-! PURE ROWS: bits of a row, counted by class and reference -/
def pc (x : Nat) : Nat → Nat
  | 0 => 0
  | n + 1 => pc x n + x / 2 ^ n % 2
theorem pc_le (x n : Nat) : pc x n ≤ n := by
  induction n with
  | zero => exact Nat.le_refl _
  | succ n ih => show pc x n + x / 2 ^ n % 2 ≤ n + 1; omega
theorem pc_8 (x : Nat) : pc x 8 = pc (x % 256) 8 := by
  show 0 + x / 1 % 2 + x / 2 % 2 + x / 4 % 2 + x / 8 % 2 + x / 16 % 2 + x / 32 % 2 + x / 64 % 2 + x / 128 % 2 = 0 + x % 256 / 1 % 2 + x % 256 / 2 % 2 + x % 256 / 4 % 2 + x % 256 / 8 % 2 + x % 256 / 16 % 2 + x % 256 / 32 % 2 + x % 256 / 64 % 2 + x % 256 / 128 % 2
  omega
theorem pc_add (x a b : Nat) : pc x (a + b) = pc x a + pc (x / 2 ^ a) b := by
  induction b with
  | zero => rfl
  | succ b ih =>
    show pc x (a + b) + x / 2 ^ (a + b) % 2 = pc x a + (pc (x / 2 ^ a) b + x / 2 ^ a / 2 ^ b % 2)
    rw [ih, Nat.div_div_eq_div_mul, Nat.pow_add]
    omega
theorem pc_0 (n : Nat) : pc 0 n = 0 := by
  induction n with
  | zero => rfl
  | succ n ih => show pc 0 n + 0 / 2 ^ n % 2 = 0; rw [ih, Nat.zero_div]
theorem pc_w {x w : Nat} (hw : w ≤ 64) (hx : x < 2 ^ w) : pc x 64 = pc x w := by
  have h := pc_add x w (64 - w)
  rw [Nat.div_eq_of_lt hx, pc_0, show w + (64 - w) = 64 by omega] at h
  exact h
theorem pc_byte (q r n : Nat) (hr : r < 256) : pc (q * 256 + r) (8 + n) = pc r 8 + pc q n := by
  rw [pc_add, pc_8, show (q * 256 + r) % 256 = r by omega, show (q * 256 + r) / 2 ^ 8 = q by omega]
theorem land_st (q r Q R : Nat) (hr : r < 256) (hR : R < 256) : (q * 256 + r) &&& (Q * 256 + R) = (q &&& Q) * 256 + (r &&& R) := by
  have h1 := Nat.and_div_two_pow (a := q * 256 + r) (b := Q * 256 + R) (n := 8)
  have h2 := Nat.and_mod_two_pow (a := q * 256 + r) (b := Q * 256 + R) (n := 8)
  rw [show (q * 256 + r) / 2 ^ 8 = q by omega, show (Q * 256 + R) / 2 ^ 8 = Q by omega] at h1
  rw [show (q * 256 + r) % 2 ^ 8 = r by omega, show (Q * 256 + R) % 2 ^ 8 = R by omega] at h2
  omega
def mk8 (m : Nat) : Nat → Nat
  | 0 => 0
  | k + 1 => mk8 m k * 256 + m
def swA (x k : Nat) : Nat := x - ((x / 2) &&& mk8 85 k)
def swB (x k : Nat) : Nat := (x &&& mk8 51 k) + ((x / 4) &&& mk8 51 k)
def swC (x k : Nat) : Nat := (x + x / 16) &&& mk8 15 k
def sa (r : Nat) : Nat := r - ((r / 2) &&& 85)
def sb (r : Nat) : Nat := (r &&& 51) + ((r / 4) &&& 51)
def sc8 (r : Nat) : Nat := (r + r / 16) &&& 15
theorem byA : ∀ t, t < 2 → ∀ u, u < 128 → (t * 128 + u) &&& 85 = u &&& 85 := by decide +kernel
theorem byB : ∀ t, t < 4 → ∀ u, u < 64 → (t * 64 + u) &&& 51 = u &&& 51 := by decide +kernel
theorem byC : ∀ t, t < 5 → ∀ r, r < 69 → (r + t * 16 + r / 16) &&& 15 = (r + r / 16) &&& 15 := by decide +kernel
theorem byS : ∀ r, r < 256 → sc8 (sb (sa r)) = pc r 8 ∧ sa r < 256 ∧ sb (sa r) % 16 < 5 ∧ sb (sa r) < 69 := by decide +kernel
theorem swA_st (q r k : Nat) (hr : r < 256) : swA (q * 256 + r) (k + 1) = swA q k * 256 + sa r := by
  unfold swA sa
  show _ - (_ &&& (mk8 85 k * 256 + 85)) = _
  rw [show (q * 256 + r) / 2 = (q / 2) * 256 + ((q % 2) * 128 + r / 2) by omega, land_st _ _ _ _ (by omega) (by omega), byA (q % 2) (by omega) (r / 2) (by omega)]
  have h1 : (q / 2) &&& mk8 85 k ≤ q / 2 := Nat.and_le_left
  have h2 : (r / 2) &&& 85 ≤ r / 2 := Nat.and_le_left
  omega
theorem swB_st (q r k : Nat) (hr : r < 256) : swB (q * 256 + r) (k + 1) = swB q k * 256 + sb r := by
  unfold swB sb
  show (_ &&& (mk8 51 k * 256 + 51)) + (_ &&& (mk8 51 k * 256 + 51)) = _
  rw [show (q * 256 + r) / 4 = (q / 4) * 256 + ((q % 4) * 64 + r / 4) by omega, land_st _ _ _ _ (by omega) (by omega), land_st _ _ _ _ (by omega) (by omega), byB (q % 4) (by omega) (r / 4) (by omega)]
  omega
theorem swC_st (q r k : Nat) (hr : r < 69) (hq : q % 16 < 5) : swC (q * 256 + r) (k + 1) = swC q k * 256 + sc8 r := by
  unfold swC sc8
  show (_ &&& (mk8 15 k * 256 + 15)) = _
  rw [show q * 256 + r + (q * 256 + r) / 16 = (q + q / 16) * 256 + (r + (q % 16) * 16 + r / 16) by omega, land_st _ _ _ _ (by omega) (by omega), byC (q % 16) hq r hr]
theorem swB_lo (q k : Nat) : swB (swA q k) k % 16 < 5 := by
  cases k with
  | zero => unfold swB; show ((_ &&& 0) + (_ &&& 0)) % 16 < 5; rw [Nat.and_zero, Nat.and_zero]; decide
  | succ k =>
    have h := byS (q % 256) (by omega)
    have e : swB (swA q (k + 1)) (k + 1) = swB (swA (q / 256) k) k * 256 + sb (sa (q % 256)) := by
      rw [← swB_st _ _ _ h.2.1, ← swA_st _ _ _ (by omega), show (q / 256) * 256 + q % 256 = q by omega]
    rw [e]
    omega
def swS (x k : Nat) : Nat := swC (swB (swA x k) k) k
theorem swS_st (q r k : Nat) (hr : r < 256) : swS (q * 256 + r) (k + 1) = swS q k * 256 + pc r 8 := by
  have h := byS r hr
  unfold swS
  rw [swA_st _ _ _ hr, swB_st _ _ _ h.2.1, swC_st _ _ _ h.2.2.2 (swB_lo q k), h.1]
theorem swS_0 (q : Nat) : swS q 0 = 0 := by
  unfold swS swC; exact Nat.and_zero _
theorem sw_sum (x : Nat) (hx : x < 18446744073709551616) : swS x 8 ≤ 578721382704613384 ∧ (swS x 8 + swS x 8 / 256 + (swS x 8 + swS x 8 / 256) / 65536 + (swS x 8 + swS x 8 / 256 + (swS x 8 + swS x 8 / 256) / 65536) / 4294967296) % 128 = pc x 64 := by
  obtain ⟨b0, b1, b2, b3, b4, b5, b6, b7, h0, h1, h2, h3, h4, h5, h6, h7, e⟩ : ∃ b0 b1 b2 b3 b4 b5 b6 b7 : Nat, b0 < 256 ∧ b1 < 256 ∧ b2 < 256 ∧ b3 < 256 ∧ b4 < 256 ∧ b5 < 256 ∧ b6 < 256 ∧ b7 < 256 ∧ x = ((((((((0 * 256 + b7) * 256 + b6) * 256 + b5) * 256 + b4) * 256 + b3) * 256 + b2) * 256 + b1) * 256 + b0) :=
    ⟨x % 256, x / 256 % 256, x / 65536 % 256, x / 16777216 % 256, x / 4294967296 % 256, x / 1099511627776 % 256, x / 281474976710656 % 256, x / 72057594037927936, by omega, by omega, by omega, by omega, by omega, by omega, by omega, by omega, by omega⟩
  subst e
  rw [swS_st _ _ _ h0, swS_st _ _ _ h1, swS_st _ _ _ h2, swS_st _ _ _ h3, swS_st _ _ _ h4, swS_st _ _ _ h5, swS_st _ _ _ h6, swS_st _ _ _ h7, swS_0]
  rw [pc_byte _ _ 56 h0, pc_byte _ _ 48 h1, pc_byte _ _ 40 h2, pc_byte _ _ 32 h3, pc_byte _ _ 24 h4, pc_byte _ _ 16 h5, pc_byte _ _ 8 h6, pc_byte _ _ 0 h7]
  have g0 := pc_le b0 8
  have g1 := pc_le b1 8
  have g2 := pc_le b2 8
  have g3 := pc_le b3 8
  have g4 := pc_le b4 8
  have g5 := pc_le b5 8
  have g6 := pc_le b6 8
  have g7 := pc_le b7 8
  show _ ∧ _ = _ + (_ + (_ + (_ + (_ + (_ + (_ + (_ + 0)))))))
  generalize pc b0 8 = p0 at *
  generalize pc b1 8 = p1 at *
  generalize pc b2 8 = p2 at *
  generalize pc b3 8 = p3 at *
  generalize pc b4 8 = p4 at *
  generalize pc b5 8 = p5 at *
  generalize pc b6 8 = p6 at *
  generalize pc b7 8 = p7 at *
  clear h0 h1 h2 h3 h4 h5 h6 h7 hx
  have v0 : ((((((((0 * 256 + p7) * 256 + p6) * 256 + p5) * 256 + p4) * 256 + p3) * 256 + p2) * 256 + p1) * 256 + p0) = 1 * (p0) + 256 * (p1) + 65536 * (p2) + 16777216 * (p3) + 4294967296 * (p4) + 1099511627776 * (p5) + 281474976710656 * (p6) + 72057594037927936 * (p7) := by omega
  rw [v0]
  refine ⟨by omega, ?_⟩
  rw [show (1 * (p0) + 256 * (p1) + 65536 * (p2) + 16777216 * (p3) + 4294967296 * (p4) + 1099511627776 * (p5) + 281474976710656 * (p6) + 72057594037927936 * (p7)) / 256 = 1 * (p1) + 256 * (p2) + 65536 * (p3) + 16777216 * (p4) + 4294967296 * (p5) + 1099511627776 * (p6) + 281474976710656 * (p7) by omega]
  rw [show 1 * (p0) + 256 * (p1) + 65536 * (p2) + 16777216 * (p3) + 4294967296 * (p4) + 1099511627776 * (p5) + 281474976710656 * (p6) + 72057594037927936 * (p7) + (1 * (p1) + 256 * (p2) + 65536 * (p3) + 16777216 * (p4) + 4294967296 * (p5) + 1099511627776 * (p6) + 281474976710656 * (p7)) = 1 * (p0 + p1) + 256 * (p1 + p2) + 65536 * (p2 + p3) + 16777216 * (p3 + p4) + 4294967296 * (p4 + p5) + 1099511627776 * (p5 + p6) + 281474976710656 * (p6 + p7) + 72057594037927936 * (p7) by omega]
  rw [show (1 * (p0 + p1) + 256 * (p1 + p2) + 65536 * (p2 + p3) + 16777216 * (p3 + p4) + 4294967296 * (p4 + p5) + 1099511627776 * (p5 + p6) + 281474976710656 * (p6 + p7) + 72057594037927936 * (p7)) / 65536 = 1 * (p2 + p3) + 256 * (p3 + p4) + 65536 * (p4 + p5) + 16777216 * (p5 + p6) + 4294967296 * (p6 + p7) + 1099511627776 * (p7) by omega]
  rw [show 1 * (p0 + p1) + 256 * (p1 + p2) + 65536 * (p2 + p3) + 16777216 * (p3 + p4) + 4294967296 * (p4 + p5) + 1099511627776 * (p5 + p6) + 281474976710656 * (p6 + p7) + 72057594037927936 * (p7) + (1 * (p2 + p3) + 256 * (p3 + p4) + 65536 * (p4 + p5) + 16777216 * (p5 + p6) + 4294967296 * (p6 + p7) + 1099511627776 * (p7)) = 1 * (p0 + p1 + p2 + p3) + 256 * (p1 + p2 + p3 + p4) + 65536 * (p2 + p3 + p4 + p5) + 16777216 * (p3 + p4 + p5 + p6) + 4294967296 * (p4 + p5 + p6 + p7) + 1099511627776 * (p5 + p6 + p7) + 281474976710656 * (p6 + p7) + 72057594037927936 * (p7) by omega]
  rw [show (1 * (p0 + p1 + p2 + p3) + 256 * (p1 + p2 + p3 + p4) + 65536 * (p2 + p3 + p4 + p5) + 16777216 * (p3 + p4 + p5 + p6) + 4294967296 * (p4 + p5 + p6 + p7) + 1099511627776 * (p5 + p6 + p7) + 281474976710656 * (p6 + p7) + 72057594037927936 * (p7)) / 4294967296 = 1 * (p4 + p5 + p6 + p7) + 256 * (p5 + p6 + p7) + 65536 * (p6 + p7) + 16777216 * (p7) by omega]
  omega
def jN (x : Int64) : Nat := x.toBitVec.toNat
theorem jN_lt (x : Int64) : jN x < 18446744073709551616 := x.toBitVec.isLt
theorem jN_and (x y : Int64) : jN (x &&& y) = jN x &&& jN y := by
  unfold jN; rw [Int64.toBitVec_and, BitVec.toNat_and]
theorem jN_add (x y : Int64) (h : jN x + jN y < 18446744073709551616) : jN (x + y) = jN x + jN y := by
  unfold jN at *; rw [Int64.toBitVec_add, BitVec.toNat_add]; omega
theorem jN_sub (x y : Int64) (h : jN y ≤ jN x) : jN (x - y) = jN x - jN y := by
  have := jN_lt x
  unfold jN at *; rw [Int64.toBitVec_sub, BitVec.toNat_sub]; omega
theorem jN_shr (x : Int64) (c : UInt64) (k : Nat) (hc : c.toBitVec.toNat % 64 = k) : jN ((x.toUInt64 >>> c).toInt64) = jN x / 2 ^ k := by
  unfold jN
  rw [show ((x.toUInt64 >>> c).toInt64).toBitVec = (x.toUInt64 >>> c).toBitVec from rfl, UInt64.toBitVec_shiftRight]
  show (x.toBitVec >>> (c.toBitVec % 64#64)).toNat = _
  rw [BitVec.ushiftRight_eq', BitVec.toNat_ushiftRight, BitVec.toNat_umod, show (64#64).toNat = 64 from rfl, hc, Nat.shiftRight_eq_div_pow]
theorem bc_48 (x : Int64) (h : jN x + jN x / 4294967296 < 18446744073709551616) : P_Jl_bitCount_48 x = some (nI ((jN x + jN x / 4294967296) % 128)) := by
  unfold P_Jl_bitCount_48
  have e := jN_shr x ((32 : Int32).toInt64.toUInt64 &&& Int64.toUInt64 63) 32 (by decide)
  generalize ((x.toUInt64 >>> ((32 : Int32).toInt64.toUInt64 &&& Int64.toUInt64 63)).toInt64) = y at e
  have e2 := jN_add x y (by rw [e]; exact h)
  rw [e] at e2
  rw [← show jN (x + y) = jN x + jN x / 4294967296 from e2]
  generalize x + y = z
  apply congrArg
  apply Int32.toBitVec_inj.mp
  apply BitVec.eq_of_toNat_eq
  rw [Int32.toBitVec_and, BitVec.toNat_and, show (127 : Int32).toBitVec.toNat = 2 ^ 7 - 1 from rfl, Nat.and_two_pow_sub_one_eq_mod]
  show (z.toBitVec.signExtend 32).toNat % 2 ^ 7 = (BitVec.ofNat 32 (jN z % 128)).toNat
  rw [BitVec.toNat_ofNat]
  unfold jN
  have q : (z.toBitVec.signExtend 32) = z.toBitVec.setWidth 32 := BitVec.signExtend_eq_setWidth_of_le _ (by decide)
  rw [q, BitVec.toNat_setWidth]
  omega
theorem bc_v (x : Int64) : P_Jl_bitCount x = some (nI (pc (jN x) 64)) := by
  have hx := jN_lt x
  obtain ⟨hs, hsum⟩ := sw_sum (jN x) hx
  have e1 : jN (x - (((x.toUInt64 >>> ((1 : Int32).toInt64.toUInt64 &&& Int64.toUInt64 63)).toInt64) &&& (6148914691236517205 : Int64))) = swA (jN x) 8 := by
    have a : jN (((x.toUInt64 >>> ((1 : Int32).toInt64.toUInt64 &&& Int64.toUInt64 63)).toInt64) &&& (6148914691236517205 : Int64)) = (jN x / 2) &&& mk8 85 8 := by
      rw [jN_and, jN_shr x _ 1 (by decide)]; rfl
    rw [jN_sub _ _ (by rw [a]; exact Nat.le_trans Nat.and_le_left (Nat.div_le_self _ _)), a]
    rfl
  unfold P_Jl_bitCount P_Jl_bitCount_10
  generalize (x - (((x.toUInt64 >>> ((1 : Int32).toInt64.toUInt64 &&& Int64.toUInt64 63)).toInt64) &&& (6148914691236517205 : Int64))) = y at e1
  have e2 : jN ((y &&& (3689348814741910323 : Int64)) + (((y.toUInt64 >>> ((2 : Int32).toInt64.toUInt64 &&& Int64.toUInt64 63)).toInt64) &&& (3689348814741910323 : Int64))) = swB (swA (jN x) 8) 8 := by
    have a : jN (((y.toUInt64 >>> ((2 : Int32).toInt64.toUInt64 &&& Int64.toUInt64 63)).toInt64) &&& (3689348814741910323 : Int64)) = (jN y / 4) &&& mk8 51 8 := by
      rw [jN_and, jN_shr y _ 2 (by decide)]; rfl
    have b : jN (y &&& (3689348814741910323 : Int64)) = jN y &&& mk8 51 8 := by rw [jN_and]; rfl
    have m : mk8 51 8 = 3689348814741910323 := rfl
    have u1 : (jN y / 4) &&& mk8 51 8 ≤ mk8 51 8 := Nat.and_le_right
    have u2 : jN y &&& mk8 51 8 ≤ mk8 51 8 := Nat.and_le_right
    rw [jN_add _ _ (by rw [a, b]; omega), a, b, e1]
    rfl
  generalize ((y &&& (3689348814741910323 : Int64)) + (((y.toUInt64 >>> ((2 : Int32).toInt64.toUInt64 &&& Int64.toUInt64 63)).toInt64) &&& (3689348814741910323 : Int64))) = z at e2
  have hz : jN z ≤ 7378697629483820646 := by
    rw [e2]
    unfold swB
    have m : mk8 51 8 = 3689348814741910323 := rfl
    have u1 : (swA (jN x) 8 / 4) &&& mk8 51 8 ≤ mk8 51 8 := Nat.and_le_right
    have u2 : swA (jN x) 8 &&& mk8 51 8 ≤ mk8 51 8 := Nat.and_le_right
    omega
  unfold P_Jl_bitCount_24 P_Jl_bitCount_34
  have e3 : jN ((z + ((z.toUInt64 >>> ((4 : Int32).toInt64.toUInt64 &&& Int64.toUInt64 63)).toInt64)) &&& (1085102592571150095 : Int64)) = swS (jN x) 8 := by
    have a := jN_shr z ((4 : Int32).toInt64.toUInt64 &&& Int64.toUInt64 63) 4 (by decide)
    rw [jN_and, jN_add _ _ (by rw [a]; omega), a, e2]
    rfl
  generalize ((z + ((z.toUInt64 >>> ((4 : Int32).toInt64.toUInt64 &&& Int64.toUInt64 63)).toInt64)) &&& (1085102592571150095 : Int64)) = v at e3
  have a8 := jN_shr v ((8 : Int32).toInt64.toUInt64 &&& Int64.toUInt64 63) 8 (by decide)
  generalize ((v.toUInt64 >>> ((8 : Int32).toInt64.toUInt64 &&& Int64.toUInt64 63)).toInt64) = v8 at a8
  have e4 : jN (v + v8) = swS (jN x) 8 + swS (jN x) 8 / 256 := by
    rw [jN_add _ _ (by rw [a8, e3]; omega), a8, e3]
  generalize v + v8 = t at e4
  have a16 := jN_shr t ((16 : Int32).toInt64.toUInt64 &&& Int64.toUInt64 63) 16 (by decide)
  generalize ((t.toUInt64 >>> ((16 : Int32).toInt64.toUInt64 &&& Int64.toUInt64 63)).toInt64) = t8 at a16
  have e5 : jN (t + t8) = swS (jN x) 8 + swS (jN x) 8 / 256 + (swS (jN x) 8 + swS (jN x) 8 / 256) / 65536 := by
    rw [jN_add _ _ (by rw [a16, e4]; omega), a16, e4]
  rw [bc_48 _ (by rw [e5]; omega), e5, hsum]
