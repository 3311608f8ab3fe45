/-! PURE ROWS: where a curve on one line touches the point -/
theorem aj0 (a2 b2 c a b C : Int) : a * (b * c - b2 * C) - b * (a * c - a2 * C) + C * (a * b2 - a2 * b) = 0 := by grind
theorem ways_v {a b C : Int} : (wdn a b C ∨ wup a b C) ↔ (¬ (0 < C ↔ 0 < C + b + a) ∨ ((0 < C ↔ 0 < C + b + a) ∧ cbk a b C)) := by
  constructor
  · rintro ((h | h) | (h | h))
    · exact Or.inl (by omega)
    · exact Or.inr h
    · exact Or.inl (by omega)
    · exact Or.inr h
  · rintro (h | h)
    · by_cases q : 0 < C
      · exact Or.inr (Or.inl ⟨q, by omega⟩)
      · exact Or.inl (Or.inl ⟨q, by omega⟩)
    · exact Or.inl (Or.inr h)
/-- side 0 on a line: the line goes through the point -/
theorem sd_n0 {w a2 b2 c a b C : Int} (hn : a * b2 - a2 * b = 0) (nf : ¬ (a = 0 ∧ b = 0)) : sd w a2 b2 c a b C = 0 ↔ a * c - a2 * C = 0 ∧ b * c - b2 * C = 0 := by
  unfold sd
  have hj := aj0 a2 b2 c a b C
  rw [hn, Int.mul_zero, Int.add_zero] at hj
  by_cases ha : a = 0
  · rw [if_pos ha]
    subst ha
    have hb : b ≠ 0 := by omega
    have h2 : a2 = 0 := by
      have : a2 * b = 0 := by omega
      exact (Int.mul_eq_zero.mp this).resolve_right hb
    subst h2
    rw [Int.sign_eq_zero_iff_zero, show 0 * C * C - b2 * b * C + c * b * b = b * (b * c - b2 * C) by grind]
    constructor
    · intro h
      exact ⟨by omega, (Int.mul_eq_zero.mp h).resolve_left hb⟩
    · rintro ⟨_, h⟩
      rw [h, Int.mul_zero]
  · rw [if_neg ha, hn, Int.mul_zero, Int.mul_zero]
    have hs : ∀ p d : Int, sgR p 0 d = p.sign := fun p d => by
      unfold sgR
      by_cases q : 0 < d
      · rw [if_pos q, if_pos (Or.inl (show Int.sign 0 = 0 from rfl))]
      · rw [if_neg q, if_pos (Or.inl rfl)]
    rw [hs, Int.sub_zero, Int.sign_eq_zero_iff_zero]
    constructor
    · intro h
      have h1 : a * c - a2 * C = 0 := (Int.mul_eq_zero.mp h).resolve_left (by omega)
      rw [h1, Int.mul_zero, Int.sub_zero] at hj
      exact ⟨h1, (Int.mul_eq_zero.mp hj).resolve_left ha⟩
    · rintro ⟨h, _⟩
      rw [h, Int.mul_zero]
theorem prop_of {ax ay bx by_ cx cy : Int} (nf : ¬ (ay - 2 * by_ + cy = 0 ∧ 2 * (by_ - ay) = 0)) (hn : (ay - 2 * by_ + cy) * (2 * (bx - ax)) - (ax - 2 * bx + cx) * (2 * (by_ - ay)) = 0) (hk : (ay - 2 * by_ + cy) * ax - (ax - 2 * bx + cx) * ay = 0) (hj : 2 * (by_ - ay) * ax - 2 * (bx - ax) * ay = 0) : ∃ p q : Int, p ≠ 0 ∧ p * ax = q * ay ∧ p * bx = q * by_ ∧ p * cx = q * cy := by
  by_cases ha : ay - 2 * by_ + cy = 0
  · have hb : 2 * (by_ - ay) ≠ 0 := fun z => nf ⟨ha, z⟩
    have h2 : ax - 2 * bx + cx = 0 := by
      rw [ha, Int.zero_mul] at hn
      have h3 : (ax - 2 * bx + cx) * (2 * (by_ - ay)) = 0 := by omega
      exact (Int.mul_eq_zero.mp h3).resolve_right hb
    refine ⟨2 * (by_ - ay), 2 * (bx - ax), hb, by omega, ?_, ?_⟩
    · have e1 : 2 * (by_ - ay) * bx - 2 * (bx - ax) * by_ = 2 * (by_ - ay) * ax - 2 * (bx - ax) * ay := by grind
      omega
    · have e1 : 2 * (by_ - ay) * cx - 2 * (bx - ax) * cy = 2 * (by_ - ay) * (ax - 2 * bx + cx) - 2 * (bx - ax) * (ay - 2 * by_ + cy) + (2 * (by_ - ay) * ax - 2 * (bx - ax) * ay) := by grind
      rw [ha, h2, hj] at e1
      omega
  · refine ⟨ay - 2 * by_ + cy, ax - 2 * bx + cx, ha, by omega, ?_, ?_⟩
    · have e1 : 2 * ((ay - 2 * by_ + cy) * bx - (ax - 2 * bx + cx) * by_) = ((ay - 2 * by_ + cy) * (2 * (bx - ax)) - (ax - 2 * bx + cx) * (2 * (by_ - ay))) + 2 * ((ay - 2 * by_ + cy) * ax - (ax - 2 * bx + cx) * ay) := by grind
      rw [hn, hk] at e1
      omega
    · have e1 : (ay - 2 * by_ + cy) * cx - (ax - 2 * bx + cx) * cy = ((ay - 2 * by_ + cy) * (2 * (bx - ax)) - (ax - 2 * bx + cx) * (2 * (by_ - ay))) + ((ay - 2 * by_ + cy) * ax - (ax - 2 * bx + cx) * ay) := by grind
      rw [hn, hk] at e1
      omega
theorem zer_xy {p q ax ay bx by_ cx cy : Int} (hp : p ≠ 0) (h1 : p * ax = q * ay) (h2 : p * bx = q * by_) (h3 : p * cx = q * cy) (hw : ¬ (ax = bx ∧ bx = cx)) : zer ax bx cx ↔ zer ay by_ cy := by
  have hq : q ≠ 0 := fun z => by
    rw [z, Int.zero_mul] at h1 h2 h3
    have g1 := (Int.mul_eq_zero.mp h1).resolve_left hp
    have g2 := (Int.mul_eq_zero.mp h2).resolve_left hp
    have g3 := (Int.mul_eq_zero.mp h3).resolve_left hp
    exact hw ⟨by omega, by omega⟩
  rw [← zer_sc hp, h1, h2, h3, zer_sc hq]
theorem touch_0 {ax ay bx by_ cx cy : Int} (hz : (bx * cy - cx * by_) + (cx * ay - ax * cy) + (ax * by_ - bx * ay) = 0) (nf : ¬ (ay - 2 * by_ + cy = 0 ∧ 2 * (by_ - ay) = 0)) : (cth (ax - 2 * bx + cx) (2 * (bx - ax)) ax (ay - 2 * by_ + cy) (2 * (by_ - ay)) ay → mth ax ay bx by_ cx cy) ∧ (mth ax ay bx by_ cx cy → cth (ax - 2 * bx + cx) (2 * (bx - ax)) ax (ay - 2 * by_ + cy) (2 * (by_ - ay)) ay ∨ (cx = 0 ∧ cy = 0)) := by
  have En := uvw_n ax ay bx by_ cx cy
  have Ek := uvw_k ax ay bx by_ cx cy
  have Ej := uvw_j ax ay bx by_
  rw [hz, Int.mul_zero] at En
  have eE : ay + 2 * (by_ - ay) + (ay - 2 * by_ + cy) = cy := by omega
  have nf2 : ¬ (ax = bx ∧ bx = cx ∧ ay = by_ ∧ by_ = cy) := fun z => nf ⟨by omega, by omega⟩
  have fin : (bx * cy - cx * by_ = 0 ∧ cx * ay - ax * cy = 0 ∧ ax * by_ - bx * ay = 0) → zer ay by_ cy → mth ax ay bx by_ cx cy := fun ho hy => by
    obtain ⟨p, q, hp, h1, h2, h3⟩ := prop_of nf En (by omega) (by omega)
    refine Or.inl ⟨hz, Or.inr ⟨nf2, ho, ?_⟩⟩
    by_cases hw : ax = bx ∧ bx = cx
    · exact Or.inr ⟨hw, hy⟩
    · exact Or.inl ⟨hw, (zer_xy hp h1 h2 h3 hw).mpr hy⟩
  constructor
  · rintro (⟨rfl, rfl⟩ | ⟨h1, h2, _⟩ | ⟨_, h⟩)
    · exact fin ⟨by omega, by omega, by omega⟩ (Or.inl rfl)
    · exact absurd ⟨h1, h2⟩ nf
    · have hk : ((ay - 2 * by_ + cy) * ax - (ax - 2 * bx + cx) * ay = 0 ∧ 2 * (by_ - ay) * ax - 2 * (bx - ax) * ay = 0) ∧ (wdn (ay - 2 * by_ + cy) (2 * (by_ - ay)) ay ∨ wup (ay - 2 * by_ + cy) (2 * (by_ - ay)) ay) := by
        rcases h with ⟨h1, h2⟩ | ⟨h1, h2⟩
        · exact ⟨(sd_n0 En nf).mp h2, Or.inl h1⟩
        · exact ⟨(sd_n0 En nf).mp h2, Or.inr h1⟩
      obtain ⟨⟨k1, k2⟩, k3⟩ := hk
      refine fin ⟨by omega, by omega, by omega⟩ ?_
      rw [ways_v] at k3
      rw [← zer_cov]
      rcases k3 with k | k
      · exact Or.inr (Or.inr (Or.inl k))
      · exact Or.inr (Or.inr (Or.inr k.2))
  · rintro (⟨_, h⟩ | ⟨h, _⟩)
    · rcases h with h | ⟨_, ⟨u1, u2, u3⟩, h⟩
      · exact absurd ⟨h.1, h.2.1, h.2.2.1, h.2.2.2.1⟩ nf2
      · have k1 : (ay - 2 * by_ + cy) * ax - (ax - 2 * bx + cx) * ay = 0 := by omega
        have k2 : 2 * (by_ - ay) * ax - 2 * (bx - ax) * ay = 0 := by omega
        obtain ⟨p, q, hp, h1, h2, h3⟩ := prop_of nf En k1 k2
        have hy : zer ay by_ cy := by
          rcases h with ⟨hw, h⟩ | ⟨hw, h⟩
          · exact (zer_xy hp h1 h2 h3 hw).mp h
          · exact h
        by_cases y0 : ay = 0
        · rw [y0, Int.mul_zero] at h1
          exact Or.inl (Or.inl ⟨(Int.mul_eq_zero.mp h1).resolve_left hp, y0⟩)
        by_cases y1 : cy = 0
        · rw [y1, Int.mul_zero] at h3
          exact Or.inr ⟨(Int.mul_eq_zero.mp h3).resolve_left hp, y1⟩
        rw [← zer_cov] at hy
        have hw : wdn (ay - 2 * by_ + cy) (2 * (by_ - ay)) ay ∨ wup (ay - 2 * by_ + cy) (2 * (by_ - ay)) ay := by
          rw [ways_v]
          rcases hy with g | g | g | g
          · exact absurd g y0
          · exact absurd (by omega) y1
          · exact Or.inl g
          · by_cases g2 : (0 < ay ↔ 0 < ay + 2 * (by_ - ay) + (ay - 2 * by_ + cy))
            · exact Or.inr ⟨g2, g⟩
            · exact Or.inl g2
        refine Or.inl (Or.inr (Or.inr ⟨nf, ?_⟩))
        rcases hw with g | g
        · exact Or.inl ⟨g, (sd_n0 En nf).mpr ⟨k1, k2⟩⟩
        · exact Or.inr ⟨g, (sd_n0 En nf).mpr ⟨k1, k2⟩⟩
    · exact absurd hz h
