/-! PURE ROWS: numbers of 64 bits as integers; scaling -/
theorem jt_add {a b : Int64} (h : -9223372036854775808 ≤ a.toInt + b.toInt ∧ a.toInt + b.toInt < 9223372036854775808) : (a + b).toInt = a.toInt + b.toInt := by
  rw [Int64.toInt_add]; exact Int.bmod_eq_of_le (by omega) (by omega)
theorem jt_sub {a b : Int64} (h : -9223372036854775808 ≤ a.toInt - b.toInt ∧ a.toInt - b.toInt < 9223372036854775808) : (a - b).toInt = a.toInt - b.toInt := by
  rw [Int64.toInt_sub]; exact Int.bmod_eq_of_le (by omega) (by omega)
theorem jt_mul {a b : Int64} (h : -9223372036854775808 ≤ a.toInt * b.toInt ∧ a.toInt * b.toInt < 9223372036854775808) : (a * b).toInt = a.toInt * b.toInt := by
  rw [Int64.toInt_mul]; exact Int.bmod_eq_of_le (by omega) (by omega)
theorem jt_neg {a : Int64} (h : -9223372036854775808 < a.toInt) : (-a).toInt = - a.toInt := by
  have := Int64.toInt_lt a
  rw [Int64.toInt_neg]; exact Int.bmod_eq_of_le (by omega) (by omega)
theorem it_add {a b : Int32} (h : -2147483648 ≤ a.toInt + b.toInt ∧ a.toInt + b.toInt < 2147483648) : (a + b).toInt = a.toInt + b.toInt := by
  rw [Int32.toInt_add]; exact Int.bmod_eq_of_le (by omega) (by omega)
theorem it_sub {a b : Int32} (h : -2147483648 ≤ a.toInt - b.toInt ∧ a.toInt - b.toInt < 2147483648) : (a - b).toInt = a.toInt - b.toInt := by
  rw [Int32.toInt_sub]; exact Int.bmod_eq_of_le (by omega) (by omega)
theorem it_mul {a b : Int32} (h : -2147483648 ≤ a.toInt * b.toInt ∧ a.toInt * b.toInt < 2147483648) : (a * b).toInt = a.toInt * b.toInt := by
  rw [Int32.toInt_mul]; exact Int.bmod_eq_of_le (by omega) (by omega)
theorem jt_i (a : Int64) (h : -2147483648 ≤ a.toInt ∧ a.toInt < 2147483648) : a.toInt32.toInt = a.toInt := by
  rw [Int64.toInt_toInt32]; exact Int.bmod_eq_of_le (by omega) (by omega)
theorem jt_div {a b : Int64} (hb : 0 < b.toInt) : (a / b).toInt = a.toInt.tdiv b.toInt := by
  have h1 := Int64.toInt_lt a
  have h2 := Int64.le_toInt a
  rw [Int64.toInt_div]
  have h3 := Int.natAbs_tdiv_le_natAbs a.toInt b.toInt
  apply Int.bmod_eq_of_le
  · omega
  · rcases Int.lt_or_le a.toInt 0 with q | q
    · have e : a.toInt.tdiv b.toInt = -((-a.toInt).tdiv b.toInt) := by rw [Int.neg_tdiv, Int.neg_neg]
      have : 0 ≤ (-a.toInt).tdiv b.toInt := Int.tdiv_nonneg (by omega) (by omega)
      omega
    · omega
theorem xor_sg (a b : Int64) (hb : 0 ≤ b.toInt) : (0 : Int64) ≤ a ^^^ b ↔ 0 ≤ a.toInt := by
  rw [Int64.le_iff_toInt_le, show (0 : Int64).toInt = 0 from by decide]
  have e1 : (a ^^^ b).toInt < 0 ↔ (a ^^^ b).toBitVec.msb = true := by
    rw [BitVec.msb_eq_toInt, decide_eq_true_iff]; exact Iff.rfl
  have e2 : a.toInt < 0 ↔ a.toBitVec.msb = true := by
    rw [BitVec.msb_eq_toInt, decide_eq_true_iff]; exact Iff.rfl
  have e3 : b.toBitVec.msb = false := by
    rw [BitVec.msb_eq_toInt, decide_eq_false_iff_not]; exact Int.not_lt.mpr hb
  have e4 : (a ^^^ b).toBitVec.msb = a.toBitVec.msb := by
    rw [Int64.toBitVec_xor, BitVec.msb_xor, e3]; simp
  rw [e4] at e1
  have := e1.trans e2.symm
  omega
theorem fdv {x y : Int} (hy : 0 < y) : x / y = if 0 ≤ x then x.tdiv y else if x.tdiv y * y = x then x.tdiv y else x.tdiv y - 1 := by
  have h := Int.tdiv_eq_ediv (a := x) (b := y)
  have hs : y.sign = 1 := Int.sign_eq_one_of_pos hy
  rw [hs] at h
  by_cases c : 0 ≤ x
  · rw [if_pos c, h, if_pos (Or.inl c)]; omega
  · rw [if_neg c]
    by_cases d : y ∣ x
    · rw [if_pos (Or.inr d)] at h
      rw [if_pos (by rw [h, Int.add_zero]; exact Int.ediv_mul_cancel d), h]; omega
    · rw [if_neg (by rintro (q | q); exact c q; exact d q)] at h
      rw [if_neg (fun q => d ⟨x.tdiv y, by rw [Int.mul_comm]; exact q.symm⟩), h]; omega
theorem lg_ge0 (x : Int64) : (0 ≤ lg_cmp x (0 : Int64)) ↔ 0 ≤ x.toInt := by
  rw [lg_cmp_ge, Int64.le_iff_toInt_le, show (0 : Int64).toInt = 0 from by decide]
/-- v units on the page, in 64ths -/
def scl (px U : Nat) (v : Int) : Int := (128 * px * v + U) / (2 * U)
theorem scl_b {px U : Nat} (hpx : px ≤ 64) (hU : 16 ≤ U ∧ U ≤ 16384) {v : Int} {K : Nat} (h : -(K : Int) ≤ v ∧ v ≤ K) : -(256 * (K : Int)) - 1 ≤ scl px U v ∧ scl px U v ≤ 256 * K + 1 := by
  unfold scl
  have hy : (0 : Int) < 2 * U := by omega
  have p1 : (px : Int) * v ≤ 64 * K := by
    rcases Int.lt_or_le v 0 with q | q
    · have := Int.mul_nonneg (Int.natCast_nonneg px) (show 0 ≤ -v by omega)
      rw [Int.mul_neg] at this; omega
    · exact Int.mul_le_mul (by omega) h.2 q (by omega)
  have p2 : -(64 * (K : Int)) ≤ (px : Int) * v := by
    rcases Int.lt_or_le v 0 with q | q
    · have := Int.mul_le_mul (show (px : Int) ≤ 64 by omega) (show -v ≤ K by omega) (by omega) (by omega)
      rw [Int.mul_neg] at this; omega
    · have := Int.mul_nonneg (Int.natCast_nonneg px) q; omega
  have e : 128 * (px : Int) * v = 128 * (px * v) := by rw [Int.mul_assoc]
  rw [e]
  generalize (px : Int) * v = w at *
  have p3 : (K : Int) * 16 ≤ K * U := Int.mul_le_mul_of_nonneg_left (by omega) (by omega)
  constructor
  · apply Int.le_ediv_of_mul_le hy
    have : (-(256 * (K : Int)) - 1) * (2 * U) = -(512 * (K * U)) - 2 * U := by
      rw [Int.sub_mul, Int.neg_mul]
      have : 256 * (K : Int) * (2 * U) = 512 * (K * U) := by grind
      omega
    omega
  · apply Int.le_of_lt_add_one
    apply Int.ediv_lt_of_lt_mul hy
    have : (256 * (K : Int) + 1 + 1) * (2 * U) = 512 * (K * U) + 4 * U := by grind
    omega
theorem sc_b {px U : Nat} (hpx : px ≤ 64) (hU : 16 ≤ U ∧ U ≤ 16384) {v : Int32} (hv : -1048576 ≤ v.toInt ∧ v.toInt ≤ 1048576) : ∃ r, P_Ff_scaled (nI U) v (nI px) = some r ∧ P_Mo_scaled (nI px) (nI U) v = some r ∧ r.toInt = scl px U v.toInt := by
  have ep : ((nI px).toInt64).toInt = px := by rw [Int32.toInt_toInt64, nI_toInt (by omega)]
  have eu : ((nI U).toInt64).toInt = U := by rw [Int32.toInt_toInt64, nI_toInt (by omega)]
  have ev : (v.toInt64).toInt = v.toInt := Int32.toInt_toInt64 v
  have c128 : (128 : Int64).toInt = 128 := by decide
  have c2 : (2 : Int64).toInt = 2 := by decide
  have c1 : (1 : Int64).toInt = 1 := by decide
  have e1 : ((128 : Int64) * (nI px).toInt64).toInt = 128 * px := by rw [jt_mul (by rw [c128, ep]; omega), c128, ep]
  have pb : -(64 * 1048576) ≤ (px : Int) * v.toInt ∧ (px : Int) * v.toInt ≤ 64 * 1048576 := by
    constructor
    · rcases Int.lt_or_le v.toInt 0 with q | q
      · have := Int.mul_le_mul (show (px : Int) ≤ 64 by omega) (show -v.toInt ≤ 1048576 by omega) (by omega) (by omega)
        rw [Int.mul_neg] at this; omega
      · have := Int.mul_nonneg (Int.natCast_nonneg px) q; omega
    · rcases Int.lt_or_le v.toInt 0 with q | q
      · have := Int.mul_nonneg (Int.natCast_nonneg px) (show 0 ≤ -v.toInt by omega)
        rw [Int.mul_neg] at this; omega
      · exact Int.mul_le_mul (by omega) hv.2 q (by omega)
  have pe : 128 * (px : Int) * v.toInt = 128 * (px * v.toInt) := by rw [Int.mul_assoc]
  have e2 : ((128 : Int64) * (nI px).toInt64 * v.toInt64).toInt = 128 * px * v.toInt := by rw [jt_mul (by rw [e1, ev, pe]; omega), e1, ev]
  have eX : ((128 : Int64) * (nI px).toInt64 * v.toInt64 + (nI U).toInt64).toInt = 128 * px * v.toInt + U := by rw [jt_add (by rw [e2, eu, pe]; omega), e2, eu]
  have eY : ((2 : Int64) * (nI U).toInt64).toInt = 2 * U := by rw [jt_mul (by rw [c2, eu]; omega), c2, eu]
  have hb := scl_b hpx hU (v := v.toInt) (K := 1048576) (by omega)
  have hs : scl px U v.toInt = (128 * px * v.toInt + U) / (2 * U) := rfl
  have bx : -(8192 * 1048576) ≤ 128 * px * v.toInt + (U : Int) ∧ 128 * px * v.toInt + (U : Int) ≤ 8192 * 1048576 + 16384 := by omega
  unfold P_Ff_scaled P_Mo_scaled P_Mo_scaled_42 P_Jm_floorDiv_JJJ
  generalize (128 : Int64) * (nI px).toInt64 * v.toInt64 + (nI U).toInt64 = X at *
  generalize (2 : Int64) * (nI U).toInt64 = Y at *
  rw [← eX, ← eY] at hs
  generalize hsc : scl px U v.toInt = R at *
  clear hsc
  have hy : 0 < Y.toInt := by omega
  have hY0 : ¬ Y = 0 := fun q => by rw [q] at hy; exact absurd hy (by decide)
  have hq : (X / Y).toInt = X.toInt.tdiv Y.toInt := jt_div hy
  have hqb := Int.natAbs_tdiv_le_natAbs X.toInt Y.toInt
  have hqm : X.toInt.tdiv Y.toInt * Y.toInt + X.toInt.tmod Y.toInt = X.toInt := Int.tdiv_mul_add_tmod _ _
  have hqr : (X.toInt.tmod Y.toInt).natAbs ≤ X.toInt.natAbs := by
    rw [Int.natAbs_tmod]; exact Nat.mod_le _ _
  have hm : (X / Y * Y).toInt = X.toInt.tdiv Y.toInt * Y.toInt := by rw [jt_mul (by rw [hq]; omega), hq]
  have hr : (X - X / Y * Y).toInt = X.toInt - X.toInt.tdiv Y.toInt * Y.toInt := by rw [jt_sub (by rw [hm]; omega), hm]
  have h1 : (X / Y - 1).toInt = X.toInt.tdiv Y.toInt - 1 := by rw [jt_sub (by rw [hq, c1]; omega), hq, c1]
  have hf := fdv (x := X.toInt) hy
  unfold dzJ
  simp only [if_neg hY0]
  simp only [lg_cmp_ge, xor_sg X Y (by omega), lg_cmp_eq]
  have o1 : (0 : Int64) ≤ X - X / Y * Y ↔ 0 ≤ X.toInt - X.toInt.tdiv Y.toInt * Y.toInt := by
    rw [Int64.le_iff_toInt_le, hr, show (0 : Int64).toInt = 0 from by decide]
  have o2 : X / Y * Y = X ↔ X.toInt.tdiv Y.toInt * Y.toInt = X.toInt := by rw [← Int64.toInt_inj, hm]
  simp only [o1, o2]
  have sg0 : 0 ≤ X.toInt → 0 ≤ X.toInt.tmod Y.toInt := fun h => Int.tmod_nonneg _ h
  have sg1 : X.toInt < 0 → X.toInt.tmod Y.toInt ≤ 0 := fun h => by
    have := Int.tmod_nonneg (a := -X.toInt) Y.toInt (by omega)
    rw [Int.neg_tmod] at this; omega
  by_cases d1 : 0 ≤ X.toInt
  · rw [if_pos d1, if_pos (by have := sg0 d1; omega)]
    rw [if_pos d1] at hf
    exact ⟨_, rfl, rfl, by rw [jt_i _ (by omega)]; omega⟩
  · rw [if_neg d1]
    rw [if_neg d1] at hf
    by_cases d2 : X.toInt.tdiv Y.toInt * Y.toInt = X.toInt
    · rw [if_pos d2, if_pos (by omega)]
      rw [if_pos d2] at hf
      exact ⟨_, rfl, rfl, by rw [jt_i _ (by omega)]; omega⟩
    · rw [if_neg d2, if_neg (by have := sg1 (by omega); omega)]
      rw [if_neg d2] at hf
      exact ⟨_, rfl, rfl, by rw [jt_i _ (by omega)]; omega⟩
