/-! PURE ROWS: where a curve touches the point, as the reference asks it; the flat curve -/
def mth (ax ay bx by_ cx cy : Int) : Prop := ((bx * cy - cx * by_) + (cx * ay - ax * cy) + (ax * by_ - bx * ay) = 0 ∧ ((ax = bx ∧ bx = cx ∧ ay = by_ ∧ by_ = cy ∧ ax = 0 ∧ ay = 0) ∨ (¬ (ax = bx ∧ bx = cx ∧ ay = by_ ∧ by_ = cy) ∧ (bx * cy - cx * by_ = 0 ∧ cx * ay - ax * cy = 0 ∧ ax * by_ - bx * ay = 0) ∧ ((¬ (ax = bx ∧ bx = cx) ∧ zer ax bx cx) ∨ ((ax = bx ∧ bx = cx) ∧ zer ay by_ cy))))) ∨ ((bx * cy - cx * by_) + (cx * ay - ax * cy) + (ax * by_ - bx * ay) ≠ 0 ∧ (0 ≤ ((bx * cy - cx * by_) + (cx * ay - ax * cy) + (ax * by_ - bx * ay)).sign * (bx * cy - cx * by_) ∧ 0 ≤ ((bx * cy - cx * by_) + (cx * ay - ax * cy) + (ax * by_ - bx * ay)).sign * (cx * ay - ax * cy) ∧ 0 ≤ ((bx * cy - cx * by_) + (cx * ay - ax * cy) + (ax * by_ - bx * ay)).sign * (ax * by_ - bx * ay)) ∧ (cx * ay - ax * cy) * (cx * ay - ax * cy) = 4 * ((bx * cy - cx * by_) * (ax * by_ - bx * ay)))
theorem zer_eq {x : Int} (h : zer x x x) : x = 0 := by
  rcases h with h | h | h | ⟨h, _⟩
  · exact h
  · exact h
  · exact absurd Iff.rfl h
  · omega
theorem touch_flat {ax ay bx cx : Int} : cth (ax - 2 * bx + cx) (2 * (bx - ax)) ax (ay - 2 * ay + ay) (2 * (ay - ay)) ay ↔ mth ax ay bx ay cx ay := by
  have e1 : ay - 2 * ay + ay = 0 := by omega
  have e2 : 2 * (ay - ay) = 0 := by omega
  have e3 : (bx * ay - cx * ay) + (cx * ay - ax * ay) + (ax * ay - bx * ay) = 0 := by omega
  have u1 : bx * ay - cx * ay = (bx - cx) * ay := by grind
  have u2 : cx * ay - ax * ay = (cx - ax) * ay := by grind
  have u3 : ax * ay - bx * ay = (ax - bx) * ay := by grind
  rw [e1, e2]
  unfold cth mth
  rw [zer_cov]
  constructor
  · intro h
    have h' : ay = 0 ∧ zer ax bx cx := by
      rcases h with ⟨h1, h2⟩ | ⟨_, _, h1, h2⟩ | ⟨h1, _⟩
      · exact ⟨h2, Or.inl h1⟩
      · exact ⟨h1, h2⟩
      · exact absurd ⟨rfl, rfl⟩ h1
    obtain ⟨h1, h2⟩ := h'
    refine Or.inl ⟨e3, ?_⟩
    by_cases q : ax = bx ∧ bx = cx
    · refine Or.inl ⟨q.1, q.2, rfl, rfl, ?_, h1⟩
      obtain ⟨rfl, rfl⟩ := q
      exact zer_eq h2
    · refine Or.inr ⟨fun w => q ⟨w.1, w.2.1⟩, ?_, Or.inl ⟨q, h2⟩⟩
      rw [h1]
      simp
  · rintro (⟨_, h⟩ | ⟨h, _⟩)
    · rcases h with ⟨_, _, _, _, h1, h2⟩ | ⟨h1, ⟨h2, h3, h4⟩, h5⟩
      · exact Or.inl ⟨h1, h2⟩
      · have q : ¬ (ax = bx ∧ bx = cx) := fun w => h1 ⟨w.1, w.2, rfl, rfl⟩
        have hz : zer ax bx cx := by
          rcases h5 with h5 | h5
          · exact h5.2
          · exact absurd h5.1 q
        have hy : ay = 0 := by
          rw [u1] at h2
          rw [u3] at h4
          rcases Int.mul_eq_zero.mp h2 with z | z
          · rcases Int.mul_eq_zero.mp h4 with z2 | z2
            · exact absurd ⟨by omega, by omega⟩ q
            · exact z2
          · exact z
        exact Or.inr (Or.inl ⟨rfl, rfl, hy, hz⟩)
    · exact absurd e3 h
