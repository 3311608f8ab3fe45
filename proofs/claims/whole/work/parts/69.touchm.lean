/-! PURE ROWS: where a curve that bends touches the point: towards the class's touch -/
theorem mKL (ay by_ cy K L : Int) : (-2 * (ay - 2 * by_ + cy) * K - 2 * (by_ - ay) * (K + L)) * (K * L) = (K + L) * (L * L * ay - K * K * cy) + (K - L) * (ay * (L * L) + 2 * by_ * (K * L) + cy * (K * K)) := by grind
/-- a root strictly between the ends, at K : L: the way that crosses there -/
theorem way_of {ay by_ cy K L : Int} (hKL : 0 < K * L) (hq : ay * (L * L) + 2 * by_ * (K * L) + cy * (K * K) = 0) (hd : 0 ≤ by_ * by_ - ay * cy) (nf : ¬ (ay = 0 ∧ by_ = 0 ∧ cy = 0)) : (wdn (ay - 2 * by_ + cy) (2 * (by_ - ay)) ay ∧ L * L * ay ≤ K * K * cy) ∨ (wup (ay - 2 * by_ + cy) (2 * (by_ - ay)) ay ∧ K * K * cy ≤ L * L * ay) := by
  have hK : K ≠ 0 := fun z => by rw [z, Int.zero_mul] at hKL; omega
  have hL : L ≠ 0 := fun z => by rw [z, Int.mul_zero] at hKL; omega
  have kk := z_pp hK
  have ll := z_pp hL
  rw [wdn_v, wup_v, show ay + 2 * (by_ - ay) + (ay - 2 * by_ + cy) = cy by omega, show 2 * (by_ - ay) * (2 * (by_ - ay)) - 4 * (ay - 2 * by_ + cy) * ay = 4 * (by_ * by_ - ay * cy) by grind]
  have e1 : L * L * ay = ay * (L * L) := Int.mul_comm _ _
  have e2 : K * K * cy = cy * (K * K) := Int.mul_comm _ _
  have e3 : 2 * by_ * (K * L) = 2 * (by_ * (K * L)) := Int.mul_assoc _ _ _
  have pos : ∀ {x y : Int}, 0 < y → (0 < x → 0 < x * y) ∧ (x < 0 → x * y < 0) ∧ (x = 0 → x * y = 0) := fun {x y} h => ⟨fun q => Int.mul_pos q h, fun q => Int.mul_neg_of_neg_of_pos q h, fun q => by rw [q, Int.zero_mul]⟩
  have pa := pos (x := ay) ll
  have pc_ := pos (x := cy) kk
  have pb := pos (x := by_) hKL
  rw [e1, e2]
  rw [e3] at hq
  clear e1 e2 e3
  generalize ay * (L * L) = A at *
  generalize cy * (K * K) = Z at *
  generalize by_ * (K * L) = B at *
  rcases Int.lt_trichotomy ay 0 with h1 | h1 | h1 <;> rcases Int.lt_trichotomy cy 0 with h2 | h2 | h2 <;> rcases Int.lt_trichotomy by_ 0 with h3 | h3 | h3 <;> omega
theorem cramer (ax bx cx ay by_ cy : Int) : ax * (bx * cy - cx * by_) + bx * (cx * ay - ax * cy) + cx * (ax * by_ - bx * ay) = 0 ∧ ay * (bx * cy - cx * by_) + by_ * (cx * ay - ax * cy) + cy * (ax * by_ - bx * ay) = 0 := by
  constructor <;> grind
theorem z_inv {x y : Int} (hx : x ≠ 0) (h : 0 ≤ x.sign * y) : 0 ≤ x * y := by
  rcases Int.lt_or_gt_of_ne hx with q | q
  · rw [sg_n q] at h
    exact Int.mul_nonneg_of_nonpos_of_nonpos (by omega) (by omega)
  · rw [sg_p q] at h
    exact Int.mul_nonneg (by omega) (by omega)
theorem qid (ay by_ cy U V W : Int) (e : V * V = 4 * (U * W)) : ay * ((2 * U + V) * (2 * U + V)) + 2 * by_ * ((2 * W + V) * (2 * U + V)) + cy * ((2 * W + V) * (2 * W + V)) = 4 * (U + V + W) * (ay * U + by_ * V + cy * W) := by
  have e1 : (2 * U + V) * (2 * U + V) = 4 * (U + V + W) * U + (V * V - 4 * (U * W)) := by grind
  have e2 : (2 * W + V) * (2 * W + V) = 4 * (U + V + W) * W + (V * V - 4 * (U * W)) := by grind
  have e3 : 2 * ((2 * W + V) * (2 * U + V)) = 4 * (U + V + W) * V - 2 * (V * V - 4 * (U * W)) := by grind
  have z : V * V - 4 * (U * W) = 0 := by omega
  rw [show 2 * by_ * ((2 * W + V) * (2 * U + V)) = by_ * (2 * ((2 * W + V) * (2 * U + V))) by grind, e1, e2, e3, z]
  grind
theorem i_e3 (U V W : Int) : 2 * ((U + V + W) * V) = (2 * W + V) * (2 * U + V) - (4 * (U * W) - V * V) := by grind
theorem i_e5 (U W : Int) : 4 * (W * (U - W)) = 4 * (U * W) - (-2 * W) * (-2 * W) := by grind
theorem i_e6 (U W : Int) : 4 * (U * (W - U)) = 4 * (U * W) - (-2 * U) * (-2 * U) := by grind
theorem i_m2 (a b K n : Int) : 2 * a * -K - b * n = -2 * a * K - b * n := by grind
theorem touch_n2 {ax ay bx by_ cx cy : Int} (hn : (bx * cy - cx * by_) + (cx * ay - ax * cy) + (ax * by_ - bx * ay) ≠ 0) (hv : 0 ≤ ((bx * cy - cx * by_) + (cx * ay - ax * cy) + (ax * by_ - bx * ay)).sign * (cx * ay - ax * cy)) (he : (cx * ay - ax * cy) * (cx * ay - ax * cy) = 4 * ((bx * cy - cx * by_) * (ax * by_ - bx * ay))) : cth (ax - 2 * bx + cx) (2 * (bx - ax)) ax (ay - 2 * by_ + cy) (2 * (by_ - ay)) ay ∨ (cx = 0 ∧ cy = 0) := by
  obtain ⟨c1, c2⟩ := cramer ax bx cx ay by_ cy
  have En := uvw_n ax ay bx by_ cx cy
  have Ek := uvw_k ax ay bx by_ cx cy
  have Ej := uvw_j ax ay bx by_
  have hd4 : 2 * (by_ - ay) * (2 * (by_ - ay)) - 4 * (ay - 2 * by_ + cy) * ay = 4 * (by_ * by_ - ay * cy) := by grind
  have hm := mnk (ax - 2 * bx + cx) (2 * (bx - ax)) ax (ay - 2 * by_ + cy) (2 * (by_ - ay)) ay
  have eX : ay - 2 * by_ + cy = 0 → (cx * ay - ax * cy) * (cx * ay - ax * cy) - 4 * ((bx * cy - cx * by_) * (ax * by_ - bx * ay)) = (ax - 2 * bx + cx) * ((ax - 2 * bx + cx) * ay * ay - 2 * (bx - ax) * (2 * (by_ - ay)) * ay + ax * (2 * (by_ - ay)) * (2 * (by_ - ay))) := fun z => by
    have hcy : cy = 2 * by_ - ay := by omega
    subst hcy; grind
  have nf0 : ¬ (ay = 0 ∧ by_ = 0 ∧ cy = 0) := fun z => by
    obtain ⟨rfl, rfl, rfl⟩ := z
    simp at hn
  have nf1 : ¬ (ay - 2 * by_ + cy = 0 ∧ 2 * (by_ - ay) = 0) := fun z => by
    have e1 : by_ = ay := by omega
    have e2 : cy = ay := by omega
    rw [e1, e2] at hn
    omega
  rw [hd4, En, Ek, Ej] at hm
  have hdz := uvw_d (bx * cy - cx * by_) (cx * ay - ax * cy) (ax * by_ - bx * ay)
  have qe := qid ay by_ cy _ _ _ he
  rw [c2, Int.mul_zero] at qe
  unfold cth sd
  rw [hd4, En, Ek]
  have hp := z_inv hn hv
  generalize eU : bx * cy - cx * by_ = U at *
  generalize eV : cx * ay - ax * cy = V at *
  generalize eW : ax * by_ - bx * ay = W at *
  have e3 := i_e3 U V W
  have hP : 0 ≤ (2 * W + V) * (2 * U + V) := by omega
  by_cases k0 : 2 * W + V = 0
  · have hVz : V = -2 * W := by omega
    have h5 : W * (U - W) = 0 := by
      have e5 := i_e5 U W
      rw [← hVz] at e5; omega
    rcases Int.mul_eq_zero.mp h5 with z | z
    · have hV0 : V = 0 := by omega
      rw [z, hV0] at c1 c2
      simp only [Int.mul_zero, Int.add_zero] at c1 c2
      have hU : U ≠ 0 := by omega
      exact Or.inl (Or.inl ⟨(Int.mul_eq_zero.mp c1).resolve_right hU, (Int.mul_eq_zero.mp c2).resolve_right hU⟩)
    · exact absurd (show U + V + W = 0 by omega) hn
  by_cases l0 : 2 * U + V = 0
  · have hVz : V = -2 * U := by omega
    have h5 : U * (W - U) = 0 := by
      have e5 := i_e6 U W
      rw [← hVz] at e5; omega
    rcases Int.mul_eq_zero.mp h5 with z | z
    · have hV0 : V = 0 := by omega
      rw [z, hV0] at c1 c2
      simp only [Int.mul_zero, Int.zero_add] at c1 c2
      have hU : W ≠ 0 := by omega
      exact Or.inr ⟨(Int.mul_eq_zero.mp c1).resolve_right hU, (Int.mul_eq_zero.mp c2).resolve_right hU⟩
    · exact absurd (show U + V + W = 0 by omega) hn
  have hKL : 0 < (2 * W + V) * (2 * U + V) := by
    rcases Int.lt_or_le 0 ((2 * W + V) * (2 * U + V)) with q | q
    · exact q
    · have : (2 * W + V) * (2 * U + V) = 0 := by omega
      rcases Int.mul_eq_zero.mp this with z | z
      · exact absurd z k0
      · exact absurd z l0
  have hnn := z_pp (show 2 * (U + V + W) ≠ 0 by omega)
  have hz0 : -(2 * W + V) * -(2 * W + V) - 2 * (U + V + W) * (2 * W) = 0 := by omega
  rw [hz0, Int.mul_zero] at hm
  have mk := mKL ay by_ cy (2 * W + V) (2 * U + V)
  rw [qe, Int.mul_zero, Int.add_zero, show 2 * W + V + (2 * U + V) = 2 * (U + V + W) by omega] at mk
  have em2 : 2 * (ay - 2 * by_ + cy) * -(2 * W + V) - 2 * (by_ - ay) * (2 * (U + V + W)) = -2 * (ay - 2 * by_ + cy) * (2 * W + V) - 2 * (by_ - ay) * (2 * (U + V + W)) := i_m2 _ _ _ _
  rw [em2] at hm ⊢
  generalize em : -2 * (ay - 2 * by_ + cy) * (2 * W + V) - 2 * (by_ - ay) * (2 * (U + V + W)) = m at *
  have hd : 0 ≤ by_ * by_ - ay * cy := by
    rcases Int.lt_or_le (by_ * by_ - ay * cy) 0 with q | q
    · have h6 := Int.mul_neg_of_pos_of_neg hnn (show 4 * (by_ * by_ - ay * cy) < 0 by omega)
      have := z_sq m
      omega
    · exact q
  refine Or.inl (Or.inr (Or.inr ⟨nf1, ?_⟩))
  have hne : 2 * (U + V + W) ≠ 0 := by omega
  have sg : ∀ w : Int, (w = 1 ∨ w = -1) → w * (2 * (U + V + W)) * m ≤ 0 → (if ay - 2 * by_ + cy = 0 then ((ax - 2 * bx + cx) * ay * ay - 2 * (bx - ax) * (2 * (by_ - ay)) * ay + ax * (2 * (by_ - ay)) * (2 * (by_ - ay))).sign else sgR m (w * (2 * (U + V + W))) (4 * (by_ * by_ - ay * cy))) = 0 := by
    intro w hw hs
    by_cases ha : ay - 2 * by_ + cy = 0
    · rw [if_pos ha]
      have h7 := eX ha
      rw [show V * V - 4 * (U * W) = 0 by omega] at h7
      rcases Int.mul_eq_zero.mp h7.symm with z | z
      · exfalso
        rw [ha, z, Int.zero_mul, Int.zero_mul] at En
        omega
      · rw [z]; rfl
    · rw [if_neg ha, sgR_z (by omega)]
      have hww : w * w = 1 := by rcases hw with rfl | rfl <;> rfl
      refine ⟨?_, fun q => ?_, fun q => ?_⟩
      · rw [w4id, hww, Int.one_mul]; omega
      · rcases Int.lt_or_le (w * (2 * (U + V + W))) 0 with y | y
        · exact y
        · have y2 : w * (2 * (U + V + W)) ≠ 0 := fun y3 => by
            rcases Int.mul_eq_zero.mp y3 with y4 | y4
            · omega
            · exact hne y4
          have := Int.mul_pos (show 0 < w * (2 * (U + V + W)) by omega) q
          omega
      · rcases Int.lt_or_le 0 (w * (2 * (U + V + W))) with y | y
        · exact y
        · have y2 : w * (2 * (U + V + W)) ≠ 0 := fun y3 => by
            rcases Int.mul_eq_zero.mp y3 with y4 | y4
            · omega
            · exact hne y4
          have := Int.mul_pos_of_neg_of_neg (show w * (2 * (U + V + W)) < 0 by omega) q
          omega
  have mn : ∀ s : Int, 2 * (U + V + W) * m * ((2 * W + V) * (2 * U + V)) = 2 * (U + V + W) * (2 * (U + V + W)) * ((2 * U + V) * (2 * U + V) * ay - (2 * W + V) * (2 * W + V) * cy) := fun _ => by
    rw [Int.mul_assoc (2 * (U + V + W)) m, mk]; exact (Int.mul_assoc _ _ _).symm
  rcases way_of hKL qe hd nf0 with ⟨h1, h2⟩ | ⟨h1, h2⟩
  · refine Or.inl ⟨h1, sg 1 (Or.inl rfl) ?_⟩
    rw [Int.one_mul]
    rcases Int.lt_or_le 0 (2 * (U + V + W) * m) with q | q
    · have h8 := Int.mul_pos q hKL
      rw [mn 0] at h8
      have h9 := Int.mul_nonpos_of_nonneg_of_nonpos (show 0 ≤ 2 * (U + V + W) * (2 * (U + V + W)) by omega) (show (2 * U + V) * (2 * U + V) * ay - (2 * W + V) * (2 * W + V) * cy ≤ 0 by omega)
      omega
    · exact q
  · refine Or.inr ⟨h1, sg (-1) (Or.inr rfl) ?_⟩
    rw [show -1 * (2 * (U + V + W)) * m = -(2 * (U + V + W) * m) by rw [Int.neg_mul, Int.one_mul, Int.neg_mul]]
    rcases Int.lt_or_le (2 * (U + V + W) * m) 0 with q | q
    · have h8 := Int.mul_neg_of_neg_of_pos q hKL
      rw [mn 0] at h8
      have h9 := Int.mul_nonneg (show 0 ≤ 2 * (U + V + W) * (2 * (U + V + W)) by omega) (show 0 ≤ (2 * U + V) * (2 * U + V) * ay - (2 * W + V) * (2 * W + V) * cy by omega)
      omega
    · omega
