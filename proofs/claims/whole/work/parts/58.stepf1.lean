/-! PURE ROWS: the state with a font: the calls that need no shape -/
theorem stepF_feed (X : LInv) : StepF_feed X InvF := by
  intro j iv jv av lw ov nv ad a1 a2 a3 a4 a5 hj ⟨⟨n, hn, e0, e1, ht⟩, hr⟩
  have e0 : iv 0 = nI n := e0
  have e1 : iv 78 = nI n := e1
  rw [e0, e1]
  by_cases h : n + 20 ≤ 4096
  · exact ⟨_, _, _, (feed_x n hn _ _ _ _ _ _).trans (if_pos h), _, _, (feed_m n hn _ _ _ _ _ _).trans (if_pos h), ⟨n + 20, h, rfl, rfl, fun k hk => ⟨tap20_same _ _ _ _ _ (fun i hi => (ht i hi).1) k hk, tap20_b _ _ _ _ _ (fun i hi => (ht i hi).2) k hk⟩⟩, hr⟩
  · exact ⟨_, _, _, (feed_x n hn _ _ _ _ _ _).trans (if_neg h), _, _, (feed_m n hn _ _ _ _ _ _).trans (if_neg h), ⟨n, hn, rfl, rfl, ht⟩, hr⟩
theorem stepF_end (X : LInv) : StepF_end X InvF := by
  intro j iv jv av lw ov nv ad a1 a2 a3 a4 a5 hj ⟨⟨n, hn, e0, e1, ht⟩, hr⟩
  have e0 : iv 0 = nI n := e0
  have e1 : iv 78 = nI n := e1
  rw [e0, e1]
  obtain ⟨r, k, hk, e⟩ := end_v n hn a1
  exact ⟨r, _, (end_x _ _).trans e, _, e, ⟨k, by omega, rfl, rfl, fun i hi => ht i (by omega)⟩, hr⟩
theorem stepF_size (X : LInv) : StepF_size X InvF := by
  intro j iv jv av lw ov nv ad a1 a2 a3 a4 a5 hj ⟨ht, ⟨⟨z, h4, h64, e1⟩, e2⟩, hr⟩
  have e1 : iv 1 = nI z := e1
  have e2 : iv 79 = iv 1 := e2
  rw [e2, e1]
  obtain ⟨r, k, g4, g64, e, e'⟩ := size_v z h4 h64 a1
  exact ⟨r, _, e, _, e', ht, ⟨⟨k, g4, g64, rfl⟩, rfl⟩, hr⟩
theorem stepF_glyph (X : LInv) : StepF_glyph X InvF := by
  intro j iv jv av lw ov nv ad a1 a2 a3 a4 a5 hj hI
  obtain ⟨n, en, U, G, F, M, C, B, D, s4, z4, s5, s1, ⟨hn, hg⟩, _, ⟨g1, g2, g3, g4⟩, _, _, _, ⟨c1, c2, c3, c4, c5, c6, d1, d2, d3⟩, _⟩ := hI.2.2.2.2
  have key : ∃ r, P_Gp_glyph (iv 64) (iv 66) (iv 72) (iv 73) (iv 74) (av 25) a1 = some r ∧ P_Mo_glyph_II (iv 89) (iv 94) (iv 95) (iv 96) (av 30) a1 = some r := by
    rw [en, g3, g4, c1, c2, c3, c4, c5, c6]
    unfold P_Gp_glyph P_Mo_glyph_II
    by_cases q1 : a1 < 0
    · rw [if_pos q1, if_pos q1]; exact ⟨_, rfl, rfl⟩
    rw [if_neg q1, if_neg q1]
    by_cases q2 : a1 ≤ (65535 : Int32)
    · rw [if_pos q2, if_pos q2]
      obtain ⟨k, hk, rfl⟩ := nI_of2 (M := 65535) (n := 65535) (by decide) q1 q2
      obtain ⟨r, _, p1, p2⟩ := gof_b hn hg d2 d3 ⟨g1, g2⟩ (show k < 65536 by omega)
      rw [p1, p2]
      exact ⟨_, rfl, rfl⟩
    · rw [if_neg q2, if_neg q2]; exact ⟨_, rfl, rfl⟩
  obtain ⟨r, p1, p2⟩ := key
  exact ⟨r, p1, p2, hI⟩
theorem stepF_metric (X : LInv) : StepF_metric X InvF := by
  intro j iv jv av lw ov nv ad a1 a2 a3 a4 a5 hj hI
  obtain ⟨n, en, U, G, F, M, C, B, D, s4, z4, s5, s1, _, ⟨u1, u2, u3, u4⟩, ⟨g1, g2, g3, g4⟩, _, ⟨m1, m2, m3, _⟩, _⟩ := hI.2.2.2.2
  have key : ∃ r, P_Gp_metric (iv 65) (iv 66) (iv 67) (iv 68) (iv 69) a1 = some r ∧ P_Mo_metric (iv 87) (iv 89) (iv 90) (iv 91) (iv 92) a1 = some r := by
    rw [u3, u4, g3, g4, m1, m2, m3]
    unfold P_Gp_metric P_Mo_metric
    by_cases q1 : a1 < 0
    · rw [if_pos q1]; exact ⟨_, rfl, rfl⟩
    rw [if_neg q1]
    by_cases q2 : a1 ≤ (4 : Int32)
    · rw [if_pos q2]
      obtain ⟨k, hk, rfl⟩ := nI_of2 (M := 4) (n := 4) (by decide) q1 q2
      match k, hk with
      | 0, _ => exact ⟨_, rfl, rfl⟩
      | 1, _ => exact ⟨_, rfl, rfl⟩
      | 2, _ => exact ⟨_, rfl, rfl⟩
      | 3, _ => exact ⟨_, rfl, rfl⟩
      | 4, _ => exact ⟨_, rfl, rfl⟩
      | k + 5, h => exact absurd h (by omega)
    · rw [if_neg q2]; exact ⟨_, rfl, rfl⟩
  obtain ⟨r, p1, p2⟩ := key
  exact ⟨r, p1, p2, hI⟩
theorem stepF_kern (X : LInv) : StepF_kern X InvF := by
  intro j iv jv av lw ov nv ad a1 a2 a3 a4 a5 hj hI
  obtain ⟨n, en, U, G, F, M, C, B, D, s4, z4, s5, s1, ⟨hn, hg⟩, _, _, _, _, _, _, _, hK, _⟩ := hI.2.2.2.2
  obtain ⟨r, p1, p2, _⟩ := kof_b hn hg hK a1 a2
  refine ⟨r, ?_, p2, hI⟩
  unfold P_Gp_kern
  rw [en, p1, some_bind]
theorem stepF_line (X : LInv) : StepF_line X InvF := by
  intro j iv jv av lw ov nv ad a1 a2 a3 a4 a5 hj hI
  obtain ⟨L, hL, e1, e2, hk⟩ := hI.2.2.2.1
  have key : ∃ r, P_Gp_line (iv 63) (av 18) (av 19) (av 20) a1 a2 = some r ∧ P_Mo_line_III (iv 80) (av 54) (av 55) (av 56) a1 a2 = some r := by
    rw [e1, e2]
    unfold P_Gp_line P_Mo_line_III
    by_cases q1 : a2 < 0
    · rw [if_pos q1, if_pos q1]; exact ⟨_, rfl, rfl⟩
    rw [if_neg q1, if_neg q1]
    by_cases q2 : a2 ≤ (2 : Int32)
    · rw [if_pos q2, if_pos q2]
      by_cases q3 : a1 < 0
      · rw [if_pos q3, if_pos q3]; exact ⟨_, rfl, rfl⟩
      rw [if_neg q3, if_neg q3]
      by_cases q4 : ¬ (a1 < nI L)
      · rw [if_neg q4, if_neg q4]; exact ⟨_, rfl, rfl⟩
      replace q4 := Decidable.of_not_not q4
      rw [if_pos q4, if_pos q4]
      obtain ⟨k, hk', rfl⟩ := nI_of q3
      have hkL : k < L := (nI_ltI hk' (by omega)).mp q4
      obtain ⟨p1, p2, p3⟩ := hk k hkL
      simp only [bdI (show k < 200 by omega) (show 200 < 2 ^ 31 by omega), bdI (show k < 204 by omega) (show 204 < 2 ^ 31 by omega), nI_clamp hk', p1, p2, p3]
      by_cases q5 : a2 = 0
      · simp only [q5, if_true]; exact ⟨_, rfl, rfl⟩
      · simp only [q5, if_false]
        by_cases q6 : a2 = (1 : Int32)
        · simp only [q6, if_true]; exact ⟨_, rfl, rfl⟩
        · simp only [q6, if_false]; exact ⟨_, rfl, rfl⟩
    · rw [if_neg q2, if_neg q2]; exact ⟨_, rfl, rfl⟩
  obtain ⟨r, p1, p2⟩ := key
  exact ⟨r, p1, p2, hI⟩
theorem stepF_row (X : LInv) : StepF_row X InvF := by
  intro j iv jv av lw ov nv ad a1 a2 a3 a4 a5 hj hI
  obtain ⟨w, h, ⟨_, hw, _, hh⟩, e1, e2, e3, e4, n0, n1, hk⟩ := hI.2.2.1
  have key : ∃ r, P_Gp_row (iv 3) (nv 0) (lw 0) a1 = some r ∧ P_Mo_row (iv 77) (lw 1) a1 = some r := by
    rw [e2, e4, n0]
    unfold P_Gp_row P_Mo_row
    by_cases q1 : a1 < 0
    · rw [if_pos q1, if_pos q1]; exact ⟨_, rfl, rfl⟩
    rw [if_neg q1, if_neg q1]
    by_cases q2 : a1 < nI h
    · rw [if_pos q2, if_pos q2]
      obtain ⟨k, hk', rfl⟩ := nI_of q1
      have hkh : k < h := (nI_ltI hk' (by omega)).mp q2
      rw [bdI hkh (by omega), bdI (show k < 64 by omega) (by omega), nI_clamp hk', (hk k hkh).1]
      exact ⟨_, rfl, rfl⟩
    · rw [if_neg q2, if_neg q2]; exact ⟨_, rfl, rfl⟩
  obtain ⟨r, p1, p2⟩ := key
  exact ⟨r, p1, p2, hI⟩
