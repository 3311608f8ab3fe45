/-! PURE ROWS: the sign of p + q sqrt d -/
theorem z_sq (x : Int) : 0 ≤ x * x := by
  rcases Int.le_total 0 x with h | h
  · exact Int.mul_nonneg h h
  · exact Int.mul_nonneg_of_nonpos_of_nonpos h h
theorem z_sqle {x y : Int} (hx : 0 ≤ x) (h : x ≤ y) : x * x ≤ y * y := Int.mul_le_mul h h hx (Int.le_trans hx h)
theorem z_leq {x y : Int} (hy : 0 ≤ y) (h : x * x ≤ y * y) : x ≤ y := by
  rcases Int.lt_or_le y x with q | q
  · exfalso
    have h1 : y * y ≤ y * x := Int.mul_le_mul_of_nonneg_left (Int.le_of_lt q) hy
    have h2 : y * x < x * x := Int.mul_lt_mul_of_pos_right q (by omega)
    omega
  · exact q
theorem z_can {c x y : Int} (hc : 0 < c) (h : c * x ≤ c * y) : x ≤ y := Int.le_of_mul_le_mul_left h hc
theorem z_mul {a b c d : Int} (ha : 0 ≤ a) (hc : 0 ≤ c) (h1 : a ≤ b) (h2 : c ≤ d) : a * c ≤ b * d := Int.mul_le_mul h1 h2 hc (Int.le_trans ha h1)
/-- p + q sqrt d is not negative -/
def nng (p q d : Int) : Prop := (0 ≤ p ∧ 0 ≤ q) ∨ (0 ≤ p ∧ q < 0 ∧ q * q * d ≤ p * p) ∨ (p < 0 ∧ 0 ≤ q ∧ p * p ≤ q * q * d)
theorem nng_mix {p q p' q' d : Int} (hd : 0 ≤ d) (a1 : 0 ≤ p) (a2 : q < 0) (a3 : q * q * d ≤ p * p) (b1 : p' < 0) (b2 : 0 ≤ q') (b3 : p' * p' ≤ q' * q' * d) : nng (p + p') (q + q') d := by
  obtain ⟨Q, rfl⟩ : ∃ Q, q = -Q := ⟨-q, by omega⟩
  obtain ⟨P, rfl⟩ : ∃ P, p' = -P := ⟨-p', by omega⟩
  have hQ : 0 < Q := by omega
  have hP : 0 < P := by omega
  have a3 : Q * Q * d ≤ p * p := by rw [show Q * Q = -Q * -Q by grind]; exact a3
  have b3 : P * P ≤ q' * q' * d := by rw [show P * P = -P * -P by grind]; exact b3
  have key : Q * P ≤ p * q' := by
    apply z_leq (Int.mul_nonneg a1 b2)
    have h1 : (Q * Q) * (P * P) ≤ (Q * Q) * (q' * q' * d) := Int.mul_le_mul_of_nonneg_left b3 (z_sq Q)
    have h2 : (q' * q') * (Q * Q * d) ≤ (q' * q') * (p * p) := Int.mul_le_mul_of_nonneg_left a3 (z_sq q')
    have e1 : Q * P * (Q * P) = (Q * Q) * (P * P) := by grind
    have e2 : p * q' * (p * q') = (q' * q') * (p * p) := by grind
    have e3 : (Q * Q) * (q' * q' * d) = (q' * q') * (Q * Q * d) := by grind
    omega
  unfold nng
  by_cases c1 : 0 ≤ p + -P
  · by_cases c2 : 0 ≤ -Q + q'
    · exact Or.inl ⟨c1, c2⟩
    · refine Or.inr (Or.inl ⟨c1, by omega, ?_⟩)
      apply z_can (c := Q * Q) (Int.mul_pos hQ hQ)
      have h1 : p * (Q + -q') ≤ (p + -P) * Q := by
        have e1 : p * (Q + -q') = p * Q - p * q' := by grind
        have e2 : (p + -P) * Q = p * Q - Q * P := by grind
        omega
      have h2 := z_sqle (Int.mul_nonneg a1 (show 0 ≤ Q + -q' by omega)) h1
      have h3 : ((Q + -q') * (Q + -q')) * (Q * Q * d) ≤ ((Q + -q') * (Q + -q')) * (p * p) := Int.mul_le_mul_of_nonneg_left a3 (z_sq _)
      have e3 : Q * Q * ((-Q + q') * (-Q + q') * d) = ((Q + -q') * (Q + -q')) * (Q * Q * d) := by grind
      have e4 : p * (Q + -q') * (p * (Q + -q')) = ((Q + -q') * (Q + -q')) * (p * p) := by grind
      have e5 : Q * Q * ((p + -P) * (p + -P)) = (p + -P) * Q * ((p + -P) * Q) := by grind
      omega
  · by_cases c2 : 0 ≤ -Q + q'
    · refine Or.inr (Or.inr ⟨by omega, c2, ?_⟩)
      have hq : 0 < q' := by omega
      apply z_can (c := q' * q') (Int.mul_pos hq hq)
      have h1 : q' * (P + -p) ≤ P * (-Q + q') := by
        have e1 : q' * (P + -p) = q' * P - p * q' := by grind
        have e2 : P * (-Q + q') = q' * P - Q * P := by grind
        omega
      have h2 := z_sqle (Int.mul_nonneg (Int.le_of_lt hq) (show 0 ≤ P + -p by omega)) h1
      have h3 : ((-Q + q') * (-Q + q')) * (P * P) ≤ ((-Q + q') * (-Q + q')) * (q' * q' * d) := Int.mul_le_mul_of_nonneg_left b3 (z_sq _)
      have e3 : q' * q' * ((-Q + q') * (-Q + q') * d) = ((-Q + q') * (-Q + q')) * (q' * q' * d) := by grind
      have e4 : q' * (P + -p) * (q' * (P + -p)) = q' * q' * ((p + -P) * (p + -P)) := by grind
      have e5 : P * (-Q + q') * (P * (-Q + q')) = ((-Q + q') * (-Q + q')) * (P * P) := by grind
      omega
    · exfalso
      have h1 : q' * q' ≤ Q * Q := z_sqle b2 (by omega)
      have h2 : q' * q' * d ≤ Q * Q * d := Int.mul_le_mul_of_nonneg_right h1 hd
      have h3 : P ≤ p := z_leq a1 (by omega)
      omega
theorem nng_one {p q p' q' d : Int} (hd : 0 ≤ d) (a1 : 0 ≤ p) (a2 : 0 ≤ q) (h : nng p' q' d) : nng (p + p') (q + q') d := by
  unfold nng
  rcases h with ⟨b1, b2⟩ | ⟨b1, b2, b3⟩ | ⟨b1, b2, b3⟩
  · exact Or.inl ⟨by omega, by omega⟩
  · by_cases c : 0 ≤ q + q'
    · exact Or.inl ⟨by omega, c⟩
    · refine Or.inr (Or.inl ⟨by omega, by omega, ?_⟩)
      have h1 : (q + q') * (q + q') ≤ q' * q' := by
        have := z_sqle (x := -(q + q')) (y := -q') (by omega) (by omega)
        have e1 : -(q + q') * -(q + q') = (q + q') * (q + q') := by grind
        have e2 : -q' * -q' = q' * q' := by grind
        omega
      have h2 := Int.mul_le_mul_of_nonneg_right h1 hd
      have h3 := z_sqle (x := p') (y := p + p') b1 (by omega)
      omega
  · by_cases c : 0 ≤ p + p'
    · exact Or.inl ⟨c, by omega⟩
    · refine Or.inr (Or.inr ⟨by omega, by omega, ?_⟩)
      have h1 : (p + p') * (p + p') ≤ p' * p' := by
        have := z_sqle (x := -(p + p')) (y := -p') (by omega) (by omega)
        have e1 : -(p + p') * -(p + p') = (p + p') * (p + p') := by grind
        have e2 : -p' * -p' = p' * p' := by grind
        omega
      have h3 := Int.mul_le_mul_of_nonneg_right (z_sqle (x := q') (y := q + q') b2 (by omega)) hd
      omega
theorem nng_add {p q p' q' d : Int} (hd : 0 ≤ d) (h : nng p q d) (h' : nng p' q' d) : nng (p + p') (q + q') d := by
  rcases id h with ⟨a1, a2⟩ | ⟨a1, a2, a3⟩ | ⟨a1, a2, a3⟩
  · exact nng_one hd a1 a2 h'
  · rcases id h' with ⟨b1, b2⟩ | ⟨b1, b2, b3⟩ | ⟨b1, b2, b3⟩
    · rw [Int.add_comm p, Int.add_comm q]; exact nng_one hd b1 b2 h
    · refine Or.inr (Or.inl ⟨by omega, by omega, ?_⟩)
      have hq : 0 ≤ q * q' := Int.mul_nonneg_of_nonpos_of_nonpos (by omega) (by omega)
      have h1 : q * q' * d ≤ p * p' := by
        apply z_leq (Int.mul_nonneg a1 b1)
        have h2 := z_mul (Int.mul_nonneg (z_sq q) hd) (Int.mul_nonneg (z_sq q') hd) a3 b3
        have e1 : q * q' * d * (q * q' * d) = q * q * d * (q' * q' * d) := by grind
        have e2 : p * p' * (p * p') = p * p * (p' * p') := by grind
        omega
      have e1 : (q + q') * (q + q') * d = q * q * d + 2 * (q * q' * d) + q' * q' * d := by grind
      have e2 : (p + p') * (p + p') = p * p + 2 * (p * p') + p' * p' := by grind
      omega
    · exact nng_mix hd a1 a2 a3 b1 b2 b3
  · rcases id h' with ⟨b1, b2⟩ | ⟨b1, b2, b3⟩ | ⟨b1, b2, b3⟩
    · rw [Int.add_comm p, Int.add_comm q]; exact nng_one hd b1 b2 h
    · rw [Int.add_comm p, Int.add_comm q]; exact nng_mix hd b1 b2 b3 a1 a2 a3
    · refine Or.inr (Or.inr ⟨by omega, by omega, ?_⟩)
      have h1 : p * p' ≤ q * q' * d := by
        apply z_leq (Int.mul_nonneg (Int.mul_nonneg a2 b2) hd)
        have h2 := z_mul (z_sq p) (z_sq p') a3 b3
        have e1 : q * q' * d * (q * q' * d) = q * q * d * (q' * q' * d) := by grind
        have e2 : p * p' * (p * p') = p * p * (p' * p') := by grind
        omega
      have e1 : (q + q') * (q + q') * d = q * q * d + 2 * (q * q' * d) + q' * q' * d := by grind
      have e2 : (p + p') * (p + p') = p * p + 2 * (p * p') + p' * p' := by grind
      omega
theorem nng_sc {p q d : Int} {c : Int} (hc : 0 ≤ c) (hd : 0 ≤ d) (h : nng p q d) : nng (c * p) (c * q) d := by
  rcases Int.lt_or_le 0 c with z | z
  · rcases h with ⟨a1, a2⟩ | ⟨a1, a2, a3⟩ | ⟨a1, a2, a3⟩
    · exact Or.inl ⟨Int.mul_nonneg hc a1, Int.mul_nonneg hc a2⟩
    · refine Or.inr (Or.inl ⟨Int.mul_nonneg hc a1, Int.mul_neg_of_pos_of_neg z a2, ?_⟩)
      have := Int.mul_le_mul_of_nonneg_left a3 (z_sq c)
      have e1 : c * q * (c * q) * d = c * c * (q * q * d) := by grind
      have e2 : c * p * (c * p) = c * c * (p * p) := by grind
      omega
    · refine Or.inr (Or.inr ⟨Int.mul_neg_of_pos_of_neg z a1, Int.mul_nonneg hc a2, ?_⟩)
      have := Int.mul_le_mul_of_nonneg_left a3 (z_sq c)
      have e1 : c * q * (c * q) * d = c * c * (q * q * d) := by grind
      have e2 : c * p * (c * p) = c * c * (p * p) := by grind
      omega
  · have : c = 0 := by omega
    subst this
    exact Or.inl ⟨by omega, by omega⟩
/-- ½ (P - w sqrt d)², w = ±1, as p + q sqrt d doubled: (P P + d, -2 w P) -/
theorem nng_sq (P d : Int) (hd : 0 ≤ d) {w : Int} (hw : w * w = 1) : nng (P * P + d) (-2 * w * P) d := by
  have hp : 0 ≤ P * P + d := by have := z_sq P; omega
  by_cases c : 0 ≤ -2 * w * P
  · exact Or.inl ⟨hp, c⟩
  · refine Or.inr (Or.inl ⟨hp, by omega, ?_⟩)
    have := z_sq (P * P - d)
    have e1 : -2 * w * P * (-2 * w * P) * d = 4 * (w * w) * (P * P * d) := by grind
    have e2 : (P * P + d) * (P * P + d) = (P * P - d) * (P * P - d) + 4 * (P * P * d) := by grind
    rw [e1, hw, e2]
    omega
theorem sg_p {x : Int} (h : 0 < x) : x.sign = 1 := Int.sign_eq_one_of_pos h
theorem sg_n {x : Int} (h : x < 0) : x.sign = -1 := Int.sign_eq_neg_one_of_neg h
theorem sg_tri (x : Int) : (x.sign = 1 ∧ 0 < x) ∨ (x.sign = 0 ∧ x = 0) ∨ (x.sign = -1 ∧ x < 0) := by
  rcases Int.lt_trichotomy x 0 with h | h | h
  · exact Or.inr (Or.inr ⟨sg_n h, h⟩)
  · exact Or.inr (Or.inl ⟨by rw [h]; rfl, h⟩)
  · exact Or.inl ⟨sg_p h, h⟩
/-- the sign of p + q sqrt d -/
def sgR (p q d : Int) : Int := if (if 0 < d then q.sign else 0) = 0 ∨ p.sign = (if 0 < d then q.sign else 0) then p.sign else if p.sign = 0 then (if 0 < d then q.sign else 0) else p.sign * (p * p - q * q * d).sign
theorem sgR_0 {p q d : Int} (h : ¬ 0 < d) : sgR p q d = p.sign := by
  unfold sgR; rw [if_neg h, if_pos (Or.inl rfl)]
theorem sgR_1 {p q d : Int} (h : 0 < d) : sgR p q d = if q.sign = 0 ∨ p.sign = q.sign then p.sign else if p.sign = 0 then q.sign else p.sign * (p * p - q * q * d).sign := by
  unfold sgR; rw [if_pos h]
theorem sgR_neg (p q d : Int) : sgR (-p) (-q) d = - sgR p q d := by
  by_cases hd : 0 < d
  · rw [sgR_1 hd, sgR_1 hd, show -p * -p - -q * -q * d = p * p - q * q * d by grind, Int.sign_neg, Int.sign_neg]
    by_cases c1 : q.sign = 0 ∨ p.sign = q.sign
    · rw [if_pos c1, if_pos (by omega)]
    · rw [if_neg c1, if_neg (by omega)]
      by_cases c2 : p.sign = 0
      · rw [if_pos c2, if_pos (by omega)]
      · rw [if_neg c2, if_neg (by omega), Int.neg_mul]
  · rw [sgR_0 hd, sgR_0 hd, Int.sign_neg]
theorem sgR_val (p q d : Int) : sgR p q d = 1 ∨ sgR p q d = 0 ∨ sgR p q d = -1 := by
  have hp := sg_tri p
  have hq := sg_tri q
  have hr := sg_tri (p * p - q * q * d)
  by_cases hd : 0 < d
  · rw [sgR_1 hd]
    by_cases c1 : q.sign = 0 ∨ p.sign = q.sign
    · rw [if_pos c1]; omega
    · rw [if_neg c1]
      by_cases c2 : p.sign = 0
      · rw [if_pos c2]; omega
      · rw [if_neg c2]
        rcases hp with ⟨h, _⟩ | ⟨h, _⟩ | ⟨h, _⟩ <;> rw [h] <;> omega
  · rw [sgR_0 hd]; omega
theorem sgR_nng {p q d : Int} (hd : 0 ≤ d) : 0 ≤ sgR p q d ↔ nng p q d := by
  by_cases z : 0 < d
  · rw [sgR_1 z]
    unfold nng
    have hr := sg_tri (p * p - q * q * d)
    rcases sg_tri p with ⟨p1, p2⟩ | ⟨p1, p2⟩ | ⟨p1, p2⟩ <;> rcases sg_tri q with ⟨q1, q2⟩ | ⟨q1, q2⟩ | ⟨q1, q2⟩ <;> rw [p1, q1]
    · rw [if_pos (by omega)]; exact ⟨fun _ => Or.inl ⟨by omega, by omega⟩, fun _ => by omega⟩
    · rw [if_pos (by omega)]; exact ⟨fun _ => Or.inl ⟨by omega, by omega⟩, fun _ => by omega⟩
    · rw [if_neg (by omega), if_neg (by omega), Int.one_mul]
      exact ⟨fun h => Or.inr (Or.inl ⟨by omega, by omega, by omega⟩), fun h => by omega⟩
    · rw [if_neg (by omega), if_pos rfl]; exact ⟨fun _ => Or.inl ⟨by omega, by omega⟩, fun _ => by omega⟩
    · rw [if_pos (by omega)]; exact ⟨fun _ => Or.inl ⟨by omega, by omega⟩, fun _ => by omega⟩
    · rw [if_neg (by omega), if_pos rfl]
      have h0 : 0 < q * q * d := Int.mul_pos (Int.mul_pos_of_neg_of_neg q2 q2) z
      have h1 : p * p = 0 := by rw [p2]; rfl
      exact ⟨fun h => by omega, fun h => by omega⟩
    · rw [if_neg (by omega), if_neg (by omega), Int.neg_one_mul]
      exact ⟨fun h => Or.inr (Or.inr ⟨by omega, by omega, by omega⟩), fun h => by omega⟩
    · rw [if_pos (by omega)]
      have h0 : 0 < p * p := Int.mul_pos_of_neg_of_neg p2 p2
      have h1 : q * q * d = 0 := by rw [q2]; simp
      exact ⟨fun h => by omega, fun h => by omega⟩
    · rw [if_pos (by omega)]
      exact ⟨fun h => by omega, fun h => by omega⟩
  · have : d = 0 := by omega
    subst this
    rw [sgR_0 (by omega)]
    unfold nng
    rw [Int.mul_zero]
    rcases sg_tri p with ⟨p1, p2⟩ | ⟨p1, p2⟩ | ⟨p1, p2⟩ <;> rw [p1]
    · have h0 : 0 < p * p := Int.mul_pos p2 p2
      exact ⟨fun _ => by omega, fun _ => by omega⟩
    · subst p2
      exact ⟨fun _ => by omega, fun _ => by omega⟩
    · have h0 : 0 < p * p := Int.mul_pos_of_neg_of_neg p2 p2
      exact ⟨fun _ => by omega, fun _ => by omega⟩
theorem sgR_pos {p q d : Int} (hd : 0 ≤ d) : 0 < sgR p q d ↔ ¬ nng (-p) (-q) d := by
  rw [← sgR_nng hd, sgR_neg]; omega
/-- more p, more -/
theorem sgR_up {p q d p' : Int} (hd : 0 ≤ d) (h : 0 ≤ sgR p q d) (hp : p < p') : 0 < sgR p' q d := by
  rw [sgR_pos hd]
  intro h2
  have h3 := nng_add hd ((sgR_nng hd).mp h) h2
  rw [Int.add_right_neg] at h3
  rcases h3 with ⟨a, _⟩ | ⟨a, _, _⟩ | ⟨a, b, c⟩
  · omega
  · omega
  · have h0 : 0 < (p + -p') * (p + -p') := Int.mul_pos_of_neg_of_neg a a
    rw [Int.zero_mul, Int.zero_mul] at c
    omega
theorem sgR_z {p q d : Int} (hd : 0 ≤ d) : sgR p q d = 0 ↔ p * p = q * q * d ∧ (0 < p → q < 0) ∧ (p < 0 → 0 < q) := by
  by_cases z : 0 < d
  · rw [sgR_1 z]
    have hr := sg_tri (p * p - q * q * d)
    rcases sg_tri p with ⟨p1, p2⟩ | ⟨p1, p2⟩ | ⟨p1, p2⟩ <;> rcases sg_tri q with ⟨q1, q2⟩ | ⟨q1, q2⟩ | ⟨q1, q2⟩ <;> rw [p1, q1]
    · rw [if_pos (by omega)]; exact ⟨fun h => by omega, fun h => by omega⟩
    · rw [if_pos (by omega)]; exact ⟨fun h => by omega, fun h => by omega⟩
    · rw [if_neg (by omega), if_neg (by omega), Int.one_mul]
      exact ⟨fun h => by omega, fun h => by omega⟩
    · rw [if_neg (by omega), if_pos rfl]
      have h0 : 0 < q * q * d := Int.mul_pos (Int.mul_pos q2 q2) z
      have h1 : p * p = 0 := by rw [p2]; rfl
      exact ⟨fun h => by omega, fun h => by omega⟩
    · rw [if_pos (by omega), p2, q2]
      exact ⟨fun h => by simp, fun h => rfl⟩
    · rw [if_neg (by omega), if_pos rfl]
      have h0 : 0 < q * q * d := Int.mul_pos (Int.mul_pos_of_neg_of_neg q2 q2) z
      have h1 : p * p = 0 := by rw [p2]; rfl
      exact ⟨fun h => by omega, fun h => by omega⟩
    · rw [if_neg (by omega), if_neg (by omega), Int.neg_one_mul]
      exact ⟨fun h => by omega, fun h => by omega⟩
    · rw [if_pos (by omega)]
      have h0 : 0 < p * p := Int.mul_pos_of_neg_of_neg p2 p2
      exact ⟨fun h => by omega, fun h => by omega⟩
    · rw [if_pos (by omega)]
      exact ⟨fun h => by omega, fun h => by omega⟩
  · have : d = 0 := by omega
    subst this
    rw [sgR_0 (by omega), Int.mul_zero]
    rcases sg_tri p with ⟨p1, p2⟩ | ⟨p1, p2⟩ | ⟨p1, p2⟩ <;> rw [p1]
    · have h0 : 0 < p * p := Int.mul_pos p2 p2
      exact ⟨fun h => by omega, fun h => by omega⟩
    · rw [p2]; exact ⟨fun h => ⟨rfl, by omega, by omega⟩, fun h => rfl⟩
    · have h0 : 0 < p * p := Int.mul_pos_of_neg_of_neg p2 p2
      exact ⟨fun h => by omega, fun h => by omega⟩
