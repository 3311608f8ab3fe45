/-! PURE ROWS: where a line touches the point, in class and reference: from (c, C) to (e, E) -/
theorem z_pp {x : Int} (h : x ≠ 0) : 0 < x * x := by
  rcases Int.lt_or_gt_of_ne h with z | z
  · exact Int.mul_pos_of_neg_of_neg z z
  · exact Int.mul_pos z z
theorem sd_line (w b2 c b C : Int) : sd w 0 b2 c 0 b C = b.sign * (c * b - b2 * C).sign := by
  unfold sd
  rw [if_pos rfl, ← Int.sign_mul]
  congr 1
  grind
theorem ln_dn {b C : Int} : wdn 0 b C ↔ (C ≤ 0 ∧ 0 < C + b) := by
  rw [wdn_v]; omega
theorem ln_up {b C : Int} : wup 0 b C ↔ (0 < C ∧ C + b ≤ 0) := by
  rw [wup_v]; omega
theorem touch_l1 {c C e E : Int} (h : cth 0 (e - c) c 0 (E - C) C) : c * E - e * C = 0 ∧ c * e + C * E ≤ 0 := by
  rcases h with ⟨rfl, rfl⟩ | ⟨_, hb, hC, hv⟩ | ⟨_, hx⟩
  · constructor <;> simp
  · have hE : E = 0 := by omega
    subst hC
    subst hE
    refine ⟨by simp, ?_⟩
    rw [Int.zero_mul, Int.add_zero]
    rcases hv with h | h | h | h
    · rw [h, Int.zero_mul]; exact Int.le_refl 0
    · rw [show e = 0 by omega, Int.mul_zero]; exact Int.le_refl 0
    · rcases Int.lt_or_le 0 c with q | q
      · exact Int.mul_nonpos_of_nonneg_of_nonpos (by omega) (by omega)
      · rcases Int.lt_or_le 0 e with q2 | q2
        · exact Int.mul_nonpos_of_nonpos_of_nonneg q (by omega)
        · omega
    · exfalso
      obtain ⟨h1, _, _⟩ := h
      omega
  · have hz : (E - C).sign * (c * (E - C) - (e - c) * C).sign = 0 ∧ (C ≤ 0 ∧ 0 < E ∨ 0 < C ∧ E ≤ 0) := by
      rcases hx with ⟨h1, h2⟩ | ⟨h1, h2⟩
      · rw [sd_line] at h2; have := ln_dn.mp h1; exact ⟨h2, by omega⟩
      · rw [sd_line] at h2; have := ln_up.mp h1; exact ⟨h2, by omega⟩
    obtain ⟨h2, h3⟩ := hz
    have hX : c * E - e * C = 0 := by
      rw [show c * E - e * C = c * (E - C) - (e - c) * C by grind]
      rcases Int.mul_eq_zero.mp h2 with z | z
      · have := Int.sign_eq_zero_iff_zero.mp z; omega
      · exact Int.sign_eq_zero_iff_zero.mp z
    refine ⟨hX, ?_⟩
    rcases h3 with ⟨q1, q2⟩ | ⟨q1, q2⟩
    · apply z_can q2
      have h5 := Int.mul_nonpos_of_nonpos_of_nonneg q1 (show 0 ≤ e * e + E * E by have := z_sq e; have := z_sq E; omega)
      have e1 : E * (c * e + C * E) = C * (e * e + E * E) + e * (c * E - e * C) := by grind
      rw [hX] at e1
      omega
    · apply z_can q1
      have h5 := Int.mul_nonpos_of_nonpos_of_nonneg q2 (show 0 ≤ c * c + C * C by have := z_sq c; have := z_sq C; omega)
      have e1 : C * (c * e + C * E) = E * (c * c + C * C) - c * (c * E - e * C) := by grind
      rw [hX] at e1
      omega
theorem touch_l2 {c C e E : Int} (hX : c * E - e * C = 0) (hd : c * e + C * E ≤ 0) : cth 0 (e - c) c 0 (E - C) C ∨ (e = 0 ∧ E = 0) := by
  by_cases s0 : c = 0 ∧ C = 0
  · exact Or.inl (Or.inl s0)
  by_cases e0 : e = 0 ∧ E = 0
  · exact Or.inr e0
  refine Or.inl ?_
  have sqp : ∀ {x y : Int}, ¬ (x = 0 ∧ y = 0) → 0 < x * x + y * y := by
    intro x y h
    have h1 := z_sq x
    have h2 := z_sq y
    by_cases q : x = 0
    · have := z_pp (show y ≠ 0 by omega); omega
    · have := z_pp q; omega
  have p1 := sqp s0
  have p2 := sqp e0
  have i1 : E * (c * e + C * E) = C * (e * e + E * E) + e * (c * E - e * C) := by grind
  have i2 : C * (c * e + C * E) = E * (c * c + C * C) - c * (c * E - e * C) := by grind
  rw [hX, Int.mul_zero] at i1 i2
  by_cases fl : E = C
  · subst fl
    have hC : E = 0 := by
      rcases Int.lt_trichotomy E 0 with q | q | q
      · exfalso
        have h1 := Int.mul_neg_of_neg_of_pos q p2
        have h2 : 0 ≤ E * (c * e + E * E) := Int.mul_nonneg_of_nonpos_of_nonpos (by omega) hd
        omega
      · exact q
      · exfalso
        have h1 := Int.mul_pos q p2
        have h2 : E * (c * e + E * E) ≤ 0 := Int.mul_nonpos_of_nonneg_of_nonpos (by omega) hd
        omega
    refine Or.inr (Or.inl ⟨rfl, by omega, hC, ?_⟩)
    unfold cov
    rw [hC, Int.zero_mul, Int.add_zero] at hd
    by_cases c1 : c = 0
    · exact Or.inl c1
    by_cases c2 : e = 0
    · exact Or.inr (Or.inl (by omega))
    refine Or.inr (Or.inr (Or.inl (fun w => ?_)))
    rcases Int.lt_or_gt_of_ne c1 with q | q
    · have := Int.mul_pos_of_neg_of_neg q (show e < 0 by omega); omega
    · have := Int.mul_pos q (show 0 < e by omega); omega
  · refine Or.inr (Or.inr ⟨by omega, ?_⟩)
    rw [sd_line, sd_line, ln_dn, ln_up, show c * (E - C) - (e - c) * C = c * E - e * C by grind, hX]
    by_cases d1 : C ≤ 0 ∧ 0 < E
    · exact Or.inl ⟨by omega, by simp⟩
    by_cases d2 : 0 < C ∧ E ≤ 0
    · exact Or.inr ⟨by omega, by simp⟩
    exfalso
    by_cases q : 0 < C
    · have hE : 0 < E := by omega
      have h1 := Int.mul_pos q p2
      have h2 : E * (c * e + C * E) ≤ 0 := Int.mul_nonpos_of_nonneg_of_nonpos (by omega) hd
      omega
    · have hE : E ≤ 0 := by omega
      by_cases q2 : C = 0
      · have h3 : c * E = 0 := by rw [q2, Int.mul_zero] at hX; omega
        rcases Int.mul_eq_zero.mp h3 with z | z
        · exact s0 ⟨z, q2⟩
        · exact fl (by omega)
      by_cases q3 : E = 0
      · have h3 : e * C = 0 := by rw [q3, Int.mul_zero] at hX; omega
        rcases Int.mul_eq_zero.mp h3 with z | z
        · exact e0 ⟨z, q3⟩
        · exact q2 z
      have h1 := Int.mul_neg_of_neg_of_pos (show C < 0 by omega) p2
      have h2 : 0 ≤ E * (c * e + C * E) := Int.mul_nonneg_of_nonpos_of_nonpos hE hd
      omega
