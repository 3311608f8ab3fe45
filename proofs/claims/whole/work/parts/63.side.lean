/-! PURE ROWS: the side of a crossing: numbers of the curve in x (a2 b2 c), in y (a b C) -/
theorem nng_half {p q d : Int} (h : nng (2 * p) (2 * q) d) : nng p q d := by
  unfold nng at *
  rw [show 2 * q * (2 * q) * d = 4 * (q * q * d) by grind, show 2 * p * (2 * p) = 4 * (p * p) by grind] at h
  omega
theorem nng_root {p q r : Int} (hr : 0 ≤ r) : nng p q (r * r) ↔ 0 ≤ p + q * r := by
  have e : q * q * (r * r) = (q * r) * (q * r) := by grind
  unfold nng
  rw [e]
  constructor
  · rintro (⟨h1, h2⟩ | ⟨h1, h2, h3⟩ | ⟨h1, h2, h3⟩)
    · have := Int.mul_nonneg h2 hr; omega
    · have h4 : -(q * r) ≤ p := z_leq h1 (by rw [Int.neg_mul_neg]; exact h3)
      omega
    · have h4 : -p ≤ q * r := z_leq (Int.mul_nonneg h2 hr) (by rw [Int.neg_mul_neg]; exact h3)
      omega
  · intro h
    by_cases c1 : 0 ≤ p
    · by_cases c2 : 0 ≤ q
      · exact Or.inl ⟨c1, c2⟩
      · refine Or.inr (Or.inl ⟨c1, by omega, ?_⟩)
        have h4 : 0 ≤ -(q * r) := by
          have := Int.mul_nonneg (show 0 ≤ -q by omega) hr
          rw [Int.neg_mul] at this; exact this
        have := z_sqle h4 (show -(q * r) ≤ p by omega)
        rw [Int.neg_mul_neg] at this
        exact this
    · have hq : 0 ≤ q := by
        rcases Int.lt_or_le q 0 with z | z
        · have := Int.mul_nonneg (show 0 ≤ -q by omega) hr
          rw [Int.neg_mul] at this
          omega
        · exact z
      refine Or.inr (Or.inr ⟨by omega, hq, ?_⟩)
      have := z_sqle (show 0 ≤ -p by omega) (show -p ≤ q * r by omega)
      rw [Int.neg_mul_neg] at this
      exact this
theorem sgR_root {p q r : Int} (hr : 0 ≤ r) : sgR p q (r * r) = (p + q * r).sign := by
  have hd := z_sq r
  have h1 := sgR_nng (p := p) (q := q) hd
  have h2 := sgR_pos (p := p) (q := q) hd
  rw [nng_root hr] at h1 h2
  have h3 := sgR_val p q (r * r)
  have h4 := sg_tri (p + q * r)
  rw [Int.neg_mul] at h2
  omega
def sd (w a2 b2 c a b C : Int) : Int := if a = 0 then (a2 * C * C - b2 * b * C + c * b * b).sign else sgR (2 * a * (a * c - a2 * C) - b * (a * b2 - a2 * b)) (w * (a * b2 - a2 * b)) (b * b - 4 * a * C)
theorem sd_val (w a2 b2 c a b C : Int) : sd w a2 b2 c a b C = 1 ∨ sd w a2 b2 c a b C = 0 ∨ sd w a2 b2 c a b C = -1 := by
  unfold sd
  by_cases h : a = 0
  · rw [if_pos h]; have := sg_tri (a2 * C * C - b2 * b * C + c * b * b); omega
  · rw [if_neg h]; exact sgR_val _ _ _
theorem sg_sc {k x : Int} (hk : 0 < k) : (k * x).sign = x.sign := by
  rw [Int.sign_mul, sg_p hk, Int.one_mul]
/-- the curve starts on the row -/
theorem sd_start {w a2 b2 c a b : Int} (hab : a ≠ 0 ∨ b ≠ 0) (hw : w = 1 ∧ 0 ≤ b ∨ w = -1 ∧ b ≤ 0 ∨ a = 0) : sd w a2 b2 c a b 0 = c.sign := by
  unfold sd
  by_cases h : a = 0
  · rw [if_pos h]
    have hb : b ≠ 0 := by omega
    have : 0 < b * b := by
      rcases Int.lt_or_gt_of_ne hb with z | z
      · exact Int.mul_pos_of_neg_of_neg z z
      · exact Int.mul_pos z z
    rw [show a2 * 0 * 0 - b2 * b * 0 + c * b * b = (b * b) * c by grind, sg_sc this]
  · rw [if_neg h]
    have h2 : 0 < 2 * (a * a) := by
      have : 0 < a * a := by
        rcases Int.lt_or_gt_of_ne h with z | z
        · exact Int.mul_pos_of_neg_of_neg z z
        · exact Int.mul_pos z z
      omega
    rcases hw with ⟨rfl, hb⟩ | ⟨rfl, hb⟩ | z
    · rw [show b * b - 4 * a * 0 = b * b by grind, sgR_root hb, show 2 * a * (a * c - a2 * 0) - b * (a * b2 - a2 * b) + 1 * (a * b2 - a2 * b) * b = (2 * (a * a)) * c by grind, sg_sc h2]
    · rw [show b * b - 4 * a * 0 = (-b) * (-b) by grind, sgR_root (by omega), show 2 * a * (a * c - a2 * 0) - b * (a * b2 - a2 * b) + -1 * (a * b2 - a2 * b) * -b = (2 * (a * a)) * c by grind, sg_sc h2]
    · exact absurd z h
/-- the curve ends on the row -/
theorem sd_stop {w a2 b2 c a b C : Int} (hC : C + b + a = 0) (hab : a ≠ 0 ∨ b ≠ 0) (hw : w = 1 ∧ 0 ≤ b + 2 * a ∨ w = -1 ∧ b + 2 * a ≤ 0 ∨ a = 0) : sd w a2 b2 c a b C = (c + b2 + a2).sign := by
  unfold sd
  have eC : C = -b - a := by omega
  subst eC
  by_cases h : a = 0
  · rw [if_pos h]
    subst h
    have hb : b ≠ 0 := by omega
    have : 0 < b * b := by
      rcases Int.lt_or_gt_of_ne hb with z | z
      · exact Int.mul_pos_of_neg_of_neg z z
      · exact Int.mul_pos z z
    rw [show a2 * (-b - 0) * (-b - 0) - b2 * b * (-b - 0) + c * b * b = (b * b) * (c + b2 + a2) by grind, sg_sc this]
  · rw [if_neg h]
    have h2 : 0 < 2 * (a * a) := by
      have : 0 < a * a := by
        rcases Int.lt_or_gt_of_ne h with z | z
        · exact Int.mul_pos_of_neg_of_neg z z
        · exact Int.mul_pos z z
      omega
    rcases hw with ⟨rfl, hb⟩ | ⟨rfl, hb⟩ | z
    · rw [show b * b - 4 * a * (-b - a) = (b + 2 * a) * (b + 2 * a) by grind, sgR_root hb, show 2 * a * (a * c - a2 * (-b - a)) - b * (a * b2 - a2 * b) + 1 * (a * b2 - a2 * b) * (b + 2 * a) = (2 * (a * a)) * (c + b2 + a2) by grind, sg_sc h2]
    · rw [show b * b - 4 * a * (-b - a) = (-(b + 2 * a)) * (-(b + 2 * a)) by grind, sgR_root (by omega), show 2 * a * (a * c - a2 * (-b - a)) - b * (a * b2 - a2 * b) + -1 * (a * b2 - a2 * b) * -(b + 2 * a) = (2 * (a * a)) * (c + b2 + a2) by grind, sg_sc h2]
    · exact absurd z h
/-- farther left, farther right of it -/
theorem sd_up {w a2 b2 c c' a b C : Int} (hd : 0 ≤ b * b - 4 * a * C) (hab : a ≠ 0 ∨ b ≠ 0) (hc : c < c') (h : 0 ≤ sd w a2 b2 c a b C) : 0 < sd w a2 b2 c' a b C := by
  unfold sd at *
  by_cases ha : a = 0
  · rw [if_pos ha] at *
    have hb : b ≠ 0 := by omega
    have h0 : 0 < b * b := by
      rcases Int.lt_or_gt_of_ne hb with z | z
      · exact Int.mul_pos_of_neg_of_neg z z
      · exact Int.mul_pos z z
    have h1 := Int.mul_lt_mul_of_pos_right hc h0
    have e1 : c * (b * b) = c * b * b := by grind
    have e2 : c' * (b * b) = c' * b * b := by grind
    have h3 := sg_tri (a2 * C * C - b2 * b * C + c * b * b)
    have h4 := sg_tri (a2 * C * C - b2 * b * C + c' * b * b)
    omega
  · rw [if_neg ha] at *
    have h0 : 0 < a * a := by
      rcases Int.lt_or_gt_of_ne ha with z | z
      · exact Int.mul_pos_of_neg_of_neg z z
      · exact Int.mul_pos z z
    refine sgR_up hd h ?_
    have h1 := Int.mul_lt_mul_of_pos_right hc h0
    have e1 : 2 * a * (a * c - a2 * C) = 2 * (c * (a * a)) - 2 * a * a2 * C := by grind
    have e2 : 2 * a * (a * c' - a2 * C) = 2 * (c' * (a * a)) - 2 * a * a2 * C := by grind
    omega
/-- the way w crosses the row, by the three heights -/
def Cr (w ay by_ cy : Int) : Prop := (w = 1 ∨ w = -1) ∧ (ay * cy ≤ 0 ∧ 0 ≤ w * (cy - ay) ∨ 0 ≤ ay * cy ∧ by_ * (ay + cy) ≤ 0 ∧ ay * cy ≤ by_ * by_)
theorem cr_disc {w ay by_ cy : Int} (h : Cr w ay by_ cy) : ay * cy ≤ by_ * by_ := by
  rcases h.2 with ⟨h1, _⟩ | ⟨_, _, h1⟩
  · have := z_sq by_; omega
  · exact h1
theorem sd_hull {w ax bx cx ay by_ cy : Int} (h : Cr w ay by_ cy) (hab : ay - 2 * by_ + cy ≠ 0 ∨ 2 * (by_ - ay) ≠ 0) (hl : ay - 2 * by_ + cy = 0 → ay * cy ≤ 0) (h1 : 0 ≤ ax) (h2 : 0 ≤ bx) (h3 : 0 ≤ cx) : 0 ≤ sd w (ax - 2 * bx + cx) (2 * (bx - ax)) ax (ay - 2 * by_ + cy) (2 * (by_ - ay)) ay := by
  have hD := cr_disc h
  obtain ⟨hw, hx⟩ := h
  have hww : w * w = 1 := by rcases hw with rfl | rfl <;> rfl
  unfold sd
  by_cases ha : ay - 2 * by_ + cy = 0
  · rw [if_pos ha]
    have hn := hl ha
    have e : (ax - 2 * bx + cx) * ay * ay - 2 * (bx - ax) * (2 * (by_ - ay)) * ay + ax * (2 * (by_ - ay)) * (2 * (by_ - ay)) = ax * (cy * cy) + 2 * (bx * -(ay * cy)) + cx * (ay * ay) := by
      rw [show cy = 2 * by_ - ay by omega]; grind
    rw [e]
    have g1 := Int.mul_nonneg h1 (z_sq cy)
    have g2 := Int.mul_nonneg h2 (show 0 ≤ -(ay * cy) by omega)
    have g3 := Int.mul_nonneg h3 (z_sq ay)
    have := sg_tri (ax * (cy * cy) + 2 * (bx * -(ay * cy)) + cx * (ay * ay))
    omega
  · rw [if_neg ha]
    generalize eA : ay - 2 * by_ + cy = a at *
    generalize eB : 2 * (by_ - ay) = b at *
    have ed : b * b - 4 * a * ay = 4 * (by_ * by_ - ay * cy) := by rw [← eA, ← eB]; grind
    have hd : 0 ≤ b * b - 4 * a * ay := by omega
    rw [sgR_nng hd]
    generalize eD : b * b - 4 * a * ay = d at *
    have n1 := nng_sc h1 hd (nng_sq (2 * a + b) d hd hww)
    have n3 := nng_sc h3 hd (nng_sq b d hd hww)
    have n2' : nng (-(d + b * b + 2 * a * b)) (2 * w * (a + b)) d := by
      have ep : -(d + b * b + 2 * a * b) = 4 * (2 * (ay * cy) - by_ * (ay + cy)) := by rw [ed, ← eA, ← eB]; grind
      have eq : 2 * w * (a + b) = 2 * (w * (cy - ay)) := by rw [← eA, ← eB]; grind
      have sq : (2 * (w * (cy - ay))) * (2 * (w * (cy - ay))) * d = (4 * (2 * (ay * cy) - by_ * (ay + cy))) * (4 * (2 * (ay * cy) - by_ * (ay + cy))) - 16 * (ay * cy * (a * a)) := by
        rw [show (2 * (w * (cy - ay))) * (2 * (w * (cy - ay))) * d = 4 * (w * w) * ((cy - ay) * (cy - ay) * d) by grind, hww, ed, ← eA]; grind
      rw [ep, eq]
      unfold nng
      rcases hx with ⟨x1, x2⟩ | ⟨x1, x2, _⟩
      · have hs : ay * cy * (a * a) ≤ 0 := Int.mul_nonpos_of_nonpos_of_nonneg x1 (z_sq a)
        by_cases c : 0 ≤ 4 * (2 * (ay * cy) - by_ * (ay + cy))
        · exact Or.inl ⟨c, by omega⟩
        · exact Or.inr (Or.inr ⟨by omega, by omega, by omega⟩)
      · have hs : 0 ≤ ay * cy * (a * a) := Int.mul_nonneg x1 (z_sq a)
        have hp : 0 ≤ 4 * (2 * (ay * cy) - by_ * (ay + cy)) := by omega
        by_cases c : 0 ≤ 2 * (w * (cy - ay))
        · exact Or.inl ⟨hp, c⟩
        · exact Or.inr (Or.inl ⟨hp, by omega, by omega⟩)
    have n2 := nng_sc (show 0 ≤ 2 * bx by omega) hd n2'
    have n := nng_add hd (nng_add hd n1 n2) n3
    apply nng_half
    have e1 : 2 * (2 * a * (a * ax - (ax - 2 * bx + cx) * ay) - b * (a * (2 * (bx - ax)) - (ax - 2 * bx + cx) * b)) = ax * ((2 * a + b) * (2 * a + b) + d) + 2 * bx * -(d + b * b + 2 * a * b) + cx * (b * b + d) := by rw [← eD]; grind
    have e2 : 2 * (w * (a * (2 * (bx - ax)) - (ax - 2 * bx + cx) * b)) = ax * (-2 * w * (2 * a + b)) + 2 * bx * (2 * w * (a + b)) + cx * (-2 * w * b) := by grind
    rw [e1, e2]
    exact n
