/-! PURE ROWS: where a curve that bends touches the point: the class's touch is the reference's -/
theorem nng_v {w ay by_ cy : Int} (h : Cr w ay by_ cy) : nng (4 * (2 * (ay * cy) - by_ * (ay + cy))) (2 * (w * (cy - ay))) (4 * (by_ * by_ - ay * cy)) := by
  obtain ⟨hw, hx⟩ := h
  have hww : w * w = 1 := by rcases hw with rfl | rfl <;> rfl
  have sq : (2 * (w * (cy - ay))) * (2 * (w * (cy - ay))) * (4 * (by_ * by_ - ay * cy)) = (4 * (2 * (ay * cy) - by_ * (ay + cy))) * (4 * (2 * (ay * cy) - by_ * (ay + cy))) - 16 * (ay * cy * ((ay - 2 * by_ + cy) * (ay - 2 * by_ + cy))) := by
    rw [show (2 * (w * (cy - ay))) * (2 * (w * (cy - ay))) * (4 * (by_ * by_ - ay * cy)) = 4 * (w * w) * ((cy - ay) * (cy - ay) * (4 * (by_ * by_ - ay * cy))) by grind, hww]; grind
  unfold nng
  rcases hx with ⟨x1, x2⟩ | ⟨x1, x2, _⟩
  · have hs : ay * cy * ((ay - 2 * by_ + cy) * (ay - 2 * by_ + cy)) ≤ 0 := Int.mul_nonpos_of_nonpos_of_nonneg x1 (z_sq _)
    by_cases c : 0 ≤ 4 * (2 * (ay * cy) - by_ * (ay + cy))
    · exact Or.inl ⟨c, by omega⟩
    · exact Or.inr (Or.inr ⟨by omega, by omega, by omega⟩)
  · have hs : 0 ≤ ay * cy * ((ay - 2 * by_ + cy) * (ay - 2 * by_ + cy)) := Int.mul_nonneg x1 (z_sq _)
    have hp : 0 ≤ 4 * (2 * (ay * cy) - by_ * (ay + cy)) := by omega
    by_cases c : 0 ≤ 2 * (w * (cy - ay))
    · exact Or.inl ⟨hp, c⟩
    · exact Or.inr (Or.inl ⟨hp, by omega, by omega⟩)
/-- with a root of d that is told: R / N -/
theorem nng_at {p q d R N : Int} (h : nng p q d) (hR : 0 ≤ R) (hN : 0 ≤ N) (e : R * R = N * N * d) : 0 ≤ p * N + q * R := by
  rcases h with ⟨h1, h2⟩ | ⟨h1, h2, h3⟩ | ⟨h1, h2, h3⟩
  · have := Int.mul_nonneg h1 hN; have := Int.mul_nonneg h2 hR; omega
  · have h4 := Int.mul_le_mul_of_nonneg_right h3 (z_sq N)
    have h5 : -(q * R) ≤ p * N := by
      apply z_leq (Int.mul_nonneg h1 hN)
      have e1 : -(q * R) * -(q * R) = q * q * (R * R) := by grind
      have e2 : p * N * (p * N) = p * p * (N * N) := by grind
      have e3 : q * q * (N * N * d) = q * q * d * (N * N) := by grind
      rw [e1, e, e2, e3]
      exact h4
    omega
  · have h4 := Int.mul_le_mul_of_nonneg_right h3 (z_sq N)
    have h5 : -(p * N) ≤ q * R := by
      apply z_leq (Int.mul_nonneg h2 hR)
      have e1 : q * R * (q * R) = q * q * (R * R) := by grind
      have e2 : -(p * N) * -(p * N) = p * p * (N * N) := by grind
      have e3 : q * q * (N * N * d) = q * q * d * (N * N) := by grind
      rw [e1, e, e2, e3]
      exact h4
    omega
theorem cr_dn {ay by_ cy : Int} (h : wdn (ay - 2 * by_ + cy) (2 * (by_ - ay)) ay) : Cr 1 ay by_ cy := by
  rw [wdn_v, show ay + 2 * (by_ - ay) + (ay - 2 * by_ + cy) = cy by omega, show 2 * (by_ - ay) * (2 * (by_ - ay)) - 4 * (ay - 2 * by_ + cy) * ay = 4 * (by_ * by_ - ay * cy) by grind] at h
  refine ⟨Or.inl rfl, ?_⟩
  rcases h with ⟨h1, h2⟩ | ⟨h1, h2⟩
  · exact Or.inl ⟨Int.mul_nonpos_of_nonpos_of_nonneg h1 (by omega), by omega⟩
  · refine Or.inr ⟨?_, ?_, by omega⟩
    · rcases h1 with ⟨g1, g2, _⟩ | ⟨g1, g2, _⟩
      · exact Int.mul_nonneg (by omega) (by omega)
      · exact Int.mul_nonneg_of_nonpos_of_nonpos g1 g2
    · rcases h1 with ⟨g1, g2, g3⟩ | ⟨g1, g2, g3⟩
      · exact Int.mul_nonpos_of_nonpos_of_nonneg (by omega) (by omega)
      · exact Int.mul_nonpos_of_nonneg_of_nonpos (by omega) (by omega)
theorem cr_up {ay by_ cy : Int} (h : wup (ay - 2 * by_ + cy) (2 * (by_ - ay)) ay) : Cr (-1) ay by_ cy := by
  rw [wup_v, show ay + 2 * (by_ - ay) + (ay - 2 * by_ + cy) = cy by omega, show 2 * (by_ - ay) * (2 * (by_ - ay)) - 4 * (ay - 2 * by_ + cy) * ay = 4 * (by_ * by_ - ay * cy) by grind] at h
  refine ⟨Or.inr rfl, ?_⟩
  rcases h with ⟨h1, h2⟩ | ⟨h1, h2⟩
  · exact Or.inl ⟨Int.mul_nonpos_of_nonneg_of_nonpos (by omega) h2, by omega⟩
  · refine Or.inr ⟨?_, ?_, by omega⟩
    · rcases h1 with ⟨g1, g2, _⟩ | ⟨g1, g2, _⟩
      · exact Int.mul_nonneg (by omega) (by omega)
      · exact Int.mul_nonneg_of_nonpos_of_nonpos g1 g2
    · rcases h1 with ⟨g1, g2, g3⟩ | ⟨g1, g2, g3⟩
      · exact Int.mul_nonpos_of_nonpos_of_nonneg (by omega) (by omega)
      · exact Int.mul_nonpos_of_nonneg_of_nonpos (by omega) (by omega)
theorem z_sgn {x y : Int} (hx : x ≠ 0) (h : 0 ≤ x * y) : 0 ≤ x.sign * y := by
  rcases Int.lt_or_gt_of_ne hx with q | q
  · rw [sg_n q]
    rcases Int.lt_or_le 0 y with z | z
    · have := Int.mul_neg_of_neg_of_pos q z; omega
    · omega
  · rw [sg_p q]
    rcases Int.lt_or_le y 0 with z | z
    · have := Int.mul_neg_of_pos_of_neg q z; omega
    · omega
theorem sgs {U V W : Int} (hz : U + V + W ≠ 0) (e : V * V = 4 * (U * W)) (h : 0 ≤ (2 * W + V) * (2 * U + V)) : 0 ≤ (U + V + W).sign * U ∧ 0 ≤ (U + V + W).sign * V ∧ 0 ≤ (U + V + W).sign * W := by
  have e1 : 4 * ((U + V + W) * U) = (2 * U + V) * (2 * U + V) + (4 * (U * W) - V * V) := by grind
  have e2 : 4 * ((U + V + W) * W) = (2 * W + V) * (2 * W + V) + (4 * (U * W) - V * V) := by grind
  have e3 : 2 * ((U + V + W) * V) = (2 * W + V) * (2 * U + V) - (4 * (U * W) - V * V) := by grind
  have q1 := z_sq (2 * U + V)
  have q2 := z_sq (2 * W + V)
  exact ⟨z_sgn hz (by omega), z_sgn hz (by omega), z_sgn hz (by omega)⟩
theorem e6id (U V W a b : Int) : -((2 * a * -(2 * W + V) - b * (2 * (U + V + W))) * (2 * a * -(2 * W + V) - b * (2 * (U + V + W)))) - (b * b + 2 * a * b) * (2 * (U + V + W) * (2 * (U + V + W))) + -2 * (a + b) * (2 * (U + V + W)) * (2 * a * -(2 * W + V) - b * (2 * (U + V + W))) = 4 * (a * a) * ((2 * W + V) * (2 * U + V)) := by grind
theorem e8id (d a b N : Int) : -(d + b * b + 2 * a * b) * N = -(d * N) - (b * b + 2 * a * b) * N := by grind
theorem w2id (w x y : Int) : -(w * x * y) * -(w * x * y) = w * w * (x * x) * (y * y) := by grind
theorem w3id (w x y z : Int) : 2 * (w * z) * -(w * x * y) = w * w * (-2 * z * x * y) := by grind
theorem w4id (w x d : Int) : w * x * (w * x) * d = w * w * (x * x * d) := by grind
/-- a crossing with side 0, n not 0: a common root between the ends -/
theorem root_of {w ax ay bx by_ cx cy : Int} (hc : Cr w ay by_ cy) (hl : ay - 2 * by_ + cy = 0 → ay * cy ≤ 0) (hn : (bx * cy - cx * by_) + (cx * ay - ax * cy) + (ax * by_ - bx * ay) ≠ 0) (h : sd w (ax - 2 * bx + cx) (2 * (bx - ax)) ax (ay - 2 * by_ + cy) (2 * (by_ - ay)) ay = 0) : (cx * ay - ax * cy) * (cx * ay - ax * cy) = 4 * ((bx * cy - cx * by_) * (ax * by_ - bx * ay)) ∧ 0 ≤ (2 * (ax * by_ - bx * ay) + (cx * ay - ax * cy)) * (2 * (bx * cy - cx * by_) + (cx * ay - ax * cy)) := by
  have En := uvw_n ax ay bx by_ cx cy
  have Ek := uvw_k ax ay bx by_ cx cy
  have Ej := uvw_j ax ay bx by_
  have hd4 : 2 * (by_ - ay) * (2 * (by_ - ay)) - 4 * (ay - 2 * by_ + cy) * ay = 4 * (by_ * by_ - ay * cy) := by grind
  have hD := cr_disc hc
  have hV := nng_v hc
  have hww : w * w = 1 := by rcases hc.1 with rfl | rfl <;> rfl
  unfold sd at h
  by_cases ha : ay - 2 * by_ + cy = 0
  · rw [if_pos ha] at h
    have hX := Int.sign_eq_zero_iff_zero.mp h
    have hcy : cy = 2 * by_ - ay := by omega
    have hp := hl ha
    have e1 : (cx * ay - ax * cy) * (cx * ay - ax * cy) - 4 * ((bx * cy - cx * by_) * (ax * by_ - bx * ay)) = (ax - 2 * bx + cx) * ((ax - 2 * bx + cx) * ay * ay - 2 * (bx - ax) * (2 * (by_ - ay)) * ay + ax * (2 * (by_ - ay)) * (2 * (by_ - ay))) := by
      subst hcy; grind
    rw [hX, Int.mul_zero] at e1
    refine ⟨by omega, ?_⟩
    have e2 : (2 * (ax * by_ - bx * ay) + (cx * ay - ax * cy)) * (2 * (bx * cy - cx * by_) + (cx * ay - ax * cy)) = (ax - 2 * bx + cx) * (ax - 2 * bx + cx) * -(ay * cy) := by
      subst hcy; grind
    rw [e2]
    exact Int.mul_nonneg (z_sq _) (by omega)
  · rw [if_neg ha, hd4, sgR_z (by omega)] at h
    have hm := mnk (ax - 2 * bx + cx) (2 * (bx - ax)) ax (ay - 2 * by_ + cy) (2 * (by_ - ay)) ay
    rw [hd4, En, Ek, Ej] at hm
    rw [En, Ek] at h
    have Eab : (ay - 2 * by_ + cy) + 2 * (by_ - ay) = cy - ay := by omega
    have Ep : -(4 * (by_ * by_ - ay * cy) + 2 * (by_ - ay) * (2 * (by_ - ay)) + 2 * (ay - 2 * by_ + cy) * (2 * (by_ - ay))) = 4 * (2 * (ay * cy) - by_ * (ay + cy)) := by grind
    generalize eU : bx * cy - cx * by_ = U at *
    generalize eV : cx * ay - ax * cy = V at *
    generalize eW : ax * by_ - bx * ay = W at *
    generalize eA : ay - 2 * by_ + cy = a at *
    generalize eB : 2 * (by_ - ay) = b at *
    generalize ed : 4 * (by_ * by_ - ay * cy) = d at *
    generalize em : 2 * a * -(2 * W + V) - b * (2 * (U + V + W)) = m at *
    obtain ⟨h1, h2, h3⟩ := h
    have h1' : m * m = 2 * (U + V + W) * (2 * (U + V + W)) * d := by
      rw [h1]
      rw [w4id, hww, Int.one_mul]
    have haa := z_pp ha
    have hz : V * V - 4 * (U * W) = 0 := by
      have h5 : 4 * (a * a) * (-(2 * W + V) * -(2 * W + V) - 2 * (U + V + W) * (2 * W)) = 0 := by rw [← hm, h1']; omega
      rcases Int.mul_eq_zero.mp h5 with z | z
      · omega
      · rw [uvw_d] at z; exact z
    refine ⟨by omega, ?_⟩
    have hR : 0 ≤ -(w * (2 * (U + V + W)) * m) := by
      rcases Int.lt_trichotomy m 0 with q | q | q
      · have := Int.mul_neg_of_pos_of_neg (h3 q) q; omega
      · rw [q, Int.mul_zero]; omega
      · have := Int.mul_neg_of_neg_of_pos (h2 q) q; omega
    have hN : 0 ≤ 2 * (U + V + W) * (2 * (U + V + W)) := z_sq _
    have hf := nng_at hV hR hN (by
      rw [w2id, hww, Int.one_mul, h1']; exact (Int.mul_assoc _ _ _).symm)
    have e6 : 4 * (2 * (ay * cy) - by_ * (ay + cy)) * (2 * (U + V + W) * (2 * (U + V + W))) + 2 * (w * (cy - ay)) * -(w * (2 * (U + V + W)) * m) = 4 * (a * a) * ((2 * W + V) * (2 * U + V)) := by
      rw [w3id, hww, ← Ep, ← Eab]
      have h7 : d * (2 * (U + V + W) * (2 * (U + V + W))) = m * m := by rw [h1', Int.mul_comm]
      have h8 : -(d + b * b + 2 * a * b) * (2 * (U + V + W) * (2 * (U + V + W))) = -(d * (2 * (U + V + W) * (2 * (U + V + W)))) - (b * b + 2 * a * b) * (2 * (U + V + W) * (2 * (U + V + W))) := e8id _ _ _ _
      rw [h8, h7, ← em, Int.one_mul]
      exact e6id U V W a b
    rw [e6] at hf
    rcases Int.lt_or_le ((2 * W + V) * (2 * U + V)) 0 with q | q
    · have := Int.mul_neg_of_pos_of_neg (show 0 < 4 * (a * a) by omega) q; omega
    · exact q
theorem hl_dn {ay by_ cy : Int} (h : wdn (ay - 2 * by_ + cy) (2 * (by_ - ay)) ay) : ay - 2 * by_ + cy = 0 → ay * cy ≤ 0 := by
  intro h0
  rw [wdn_v, show ay + 2 * (by_ - ay) + (ay - 2 * by_ + cy) = cy by omega] at h
  rcases h with ⟨h1, h2⟩ | ⟨h1, _⟩
  · exact Int.mul_nonpos_of_nonpos_of_nonneg h1 (by omega)
  · omega
theorem hl_up {ay by_ cy : Int} (h : wup (ay - 2 * by_ + cy) (2 * (by_ - ay)) ay) : ay - 2 * by_ + cy = 0 → ay * cy ≤ 0 := by
  intro h0
  rw [wup_v, show ay + 2 * (by_ - ay) + (ay - 2 * by_ + cy) = cy by omega] at h
  rcases h with ⟨h1, h2⟩ | ⟨h1, _⟩
  · exact Int.mul_nonpos_of_nonneg_of_nonpos (by omega) h2
  · omega
theorem touch_n1 {ax ay bx by_ cx cy : Int} (hn : (bx * cy - cx * by_) + (cx * ay - ax * cy) + (ax * by_ - bx * ay) ≠ 0) (h : cth (ax - 2 * bx + cx) (2 * (bx - ax)) ax (ay - 2 * by_ + cy) (2 * (by_ - ay)) ay) : mth ax ay bx by_ cx cy := by
  have key : (cx * ay - ax * cy) * (cx * ay - ax * cy) = 4 * ((bx * cy - cx * by_) * (ax * by_ - bx * ay)) ∧ 0 ≤ (2 * (ax * by_ - bx * ay) + (cx * ay - ax * cy)) * (2 * (bx * cy - cx * by_) + (cx * ay - ax * cy)) := by
    rcases h with ⟨rfl, rfl⟩ | ⟨h1, h2, h3, _⟩ | ⟨_, ⟨h1, h2⟩ | ⟨h1, h2⟩⟩
    · simp
    · exfalso
      have e1 : by_ = ay := by omega
      have e2 : cy = ay := by omega
      rw [e1, e2] at hn
      omega
    · exact root_of (cr_dn h1) (hl_dn h1) hn h2
    · exact root_of (cr_up h1) (hl_up h1) hn h2
  obtain ⟨k1, k2⟩ := key
  obtain ⟨s1, s2, s3⟩ := sgs hn k1 k2
  exact Or.inr ⟨hn, ⟨s1, s2, s3⟩, k1⟩
