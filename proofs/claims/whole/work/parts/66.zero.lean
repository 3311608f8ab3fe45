/-! PURE ROWS: a root between the ends, on one axis; the curve's numbers and the reference's u, v, w -/
def zer (p q r : Int) : Prop := p = 0 ∨ r = 0 ∨ ¬ (0 < p ↔ 0 < r) ∨ ((0 < p ∧ q < 0 ∨ ¬ 0 < p ∧ 0 < q) ∧ p * r ≤ q * q)
theorem zer_cov {p q r : Int} : cov (p - 2 * q + r) (2 * (q - p)) p ↔ zer p q r := by
  have e1 : p + 2 * (q - p) + (p - 2 * q + r) = r := by omega
  have e2 : 2 * (q - p) * (2 * (q - p)) - 4 * (p - 2 * q + r) * p = 4 * (q * q - p * r) := by grind
  unfold cov zer
  rw [e1]
  by_cases h : (0 < p ↔ 0 < r)
  · have h' : 0 < p ↔ 0 < p + 2 * (q - p) + (p - 2 * q + r) := by rw [e1]; exact h
    rw [cbk_v h', e1, e2]
    constructor
    · rintro (z | z | z | z)
      · exact Or.inl z
      · exact Or.inr (Or.inl z)
      · exact absurd h z
      · exact Or.inr (Or.inr (Or.inr ⟨by omega, by omega⟩))
    · rintro (z | z | z | z)
      · exact Or.inl z
      · exact Or.inr (Or.inl z)
      · exact absurd h z
      · by_cases p0 : p = 0
        · exact Or.inl p0
        by_cases r0 : r = 0
        · exact Or.inr (Or.inl r0)
        exact Or.inr (Or.inr (Or.inr ⟨by omega, by omega⟩))
  · exact ⟨fun _ => Or.inr (Or.inr (Or.inl h)), fun _ => Or.inr (Or.inr (Or.inl h))⟩
/-- zero of a multiple: k p, k q, k r of m p', m q', m r' with k, m not 0 -/
theorem zer_sc {p q r k : Int} (hk : k ≠ 0) : zer (k * p) (k * q) (k * r) ↔ zer p q r := by
  have e1 : k * p * (k * r) = k * k * (p * r) := by grind
  have e2 : k * q * (k * q) = k * k * (q * q) := by grind
  have hkk := z_pp hk
  have e3 : k * p * (k * r) ≤ k * q * (k * q) ↔ p * r ≤ q * q := by
    rw [e1, e2]
    exact ⟨fun h => z_can hkk h, fun h => Int.mul_le_mul_of_nonneg_left h (by omega)⟩
  have z0 : ∀ x : Int, k * x = 0 ↔ x = 0 := fun x => ⟨fun h => (Int.mul_eq_zero.mp h).resolve_left hk, fun h => by rw [h, Int.mul_zero]⟩
  unfold zer
  rw [e3, z0, z0]
  by_cases p0 : p = 0
  · exact ⟨fun _ => Or.inl p0, fun _ => Or.inl p0⟩
  by_cases r0 : r = 0
  · exact ⟨fun _ => Or.inr (Or.inl r0), fun _ => Or.inr (Or.inl r0)⟩
  have sgp : ∀ x : Int, 0 < k → (0 < k * x ↔ 0 < x) := fun x h => ⟨fun y => by
      rcases Int.lt_or_le 0 x with w | w
      · exact w
      · have := Int.mul_nonpos_of_nonneg_of_nonpos (show 0 ≤ k by omega) w; omega, fun y => Int.mul_pos h y⟩
  have sgn : ∀ x : Int, k < 0 → (0 < k * x ↔ x < 0) := fun x h => ⟨fun y => by
      rcases Int.lt_or_le x 0 with w | w
      · exact w
      · have := Int.mul_nonpos_of_nonpos_of_nonneg (show k ≤ 0 by omega) w; omega, fun y => Int.mul_pos_of_neg_of_neg h y⟩
  have sgp' : ∀ x : Int, 0 < k → (k * x < 0 ↔ x < 0) := fun x h => ⟨fun y => by
      rcases Int.lt_or_le x 0 with w | w
      · exact w
      · have := Int.mul_nonneg (show 0 ≤ k by omega) w; omega, fun y => Int.mul_neg_of_pos_of_neg h y⟩
  have sgn' : ∀ x : Int, k < 0 → (k * x < 0 ↔ 0 < x) := fun x h => ⟨fun y => by
      rcases Int.lt_or_le 0 x with w | w
      · exact w
      · have := Int.mul_nonneg_of_nonpos_of_nonpos (show k ≤ 0 by omega) w; omega, fun y => Int.mul_neg_of_neg_of_pos h y⟩
  rcases Int.lt_or_gt_of_ne hk with h | h
  · rw [sgn p h, sgn r h, sgn q h, sgn' q h]; omega
  · rw [sgp p h, sgp r h, sgp q h, sgp' q h]
/-- the reference's numbers are the class's -/
theorem uvw_n (ax ay bx by_ cx cy : Int) : (ay - 2 * by_ + cy) * (2 * (bx - ax)) - (ax - 2 * bx + cx) * (2 * (by_ - ay)) = 2 * ((bx * cy - cx * by_) + (cx * ay - ax * cy) + (ax * by_ - bx * ay)) := by grind
theorem uvw_k (ax ay bx by_ cx cy : Int) : (ay - 2 * by_ + cy) * ax - (ax - 2 * bx + cx) * ay = -(2 * (ax * by_ - bx * ay) + (cx * ay - ax * cy)) := by grind
theorem uvw_j (ax ay bx by_ : Int) : 2 * (by_ - ay) * ax - 2 * (bx - ax) * ay = 2 * (ax * by_ - bx * ay) := by grind
theorem uvw_d (u v w : Int) : (-(2 * w + v)) * (-(2 * w + v)) - 2 * (u + v + w) * (2 * w) = v * v - 4 * (u * w) := by grind
theorem mnk (a2 b2 c a b C : Int) : (2 * a * (a * c - a2 * C) - b * (a * b2 - a2 * b)) * (2 * a * (a * c - a2 * C) - b * (a * b2 - a2 * b)) - (a * b2 - a2 * b) * (a * b2 - a2 * b) * (b * b - 4 * a * C) = 4 * (a * a) * ((a * c - a2 * C) * (a * c - a2 * C) - (a * b2 - a2 * b) * (b * c - b2 * C)) := by grind
