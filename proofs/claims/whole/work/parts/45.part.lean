/-! PURE ROWS: the head of a part, as the class reads it -/
def hF (f : Nat → Int32) (p : Nat) : Int32 := nI (W2 f p)
def hA (fl : Int32) : Nat := if fl &&& (1 : Int32) = 0 then 2 else 4
def hB (fl : Int32) : Nat := if fl &&& (8 : Int32) = 0 then (if fl &&& (64 : Int32) = 0 then (if fl &&& (128 : Int32) = 0 then 0 else 8) else 4) else 2
def hL (fl : Int32) : Nat := 4 + hA fl + hB fl
def s8 (v : Nat) : Int32 := (nI v).toInt8.toInt32
def hDx (f : Nat → Int32) (p : Nat) : Int32 := if hF f p &&& (1 : Int32) = 0 then s8 (By f (p + 4)) else s16 (W2 f (p + 4))
def hDy (f : Nat → Int32) (p : Nat) : Int32 := if hF f p &&& (1 : Int32) = 0 then s8 (By f (p + 5)) else s16 (W2 f (p + 6))
def hM (f : Nat → Int32) (fl : Int32) (q : Nat) : Int32 × Int32 × Int32 × Int32 := if fl &&& (8 : Int32) = 0 then (if fl &&& (64 : Int32) = 0 then (if fl &&& (128 : Int32) = 0 then (16384, 0, 0, 16384) else (s16 (W2 f q), s16 (W2 f (q + 2)), s16 (W2 f (q + 4)), s16 (W2 f (q + 6)))) else (s16 (W2 f q), 0, 0, s16 (W2 f (q + 2)))) else (s16 (W2 f q), 0, 0, s16 (W2 f q))
def hQ (f : Nat → Int32) (p : Nat) : Int32 × Int32 × Int32 × Int32 := hM f (hF f p) (p + 4 + hA (hF f p))
def hOk (f : Nat → Int32) (p e G : Nat) : Prop := p + hL (hF f p) ≤ e ∧ ¬ hF f p &&& (2 : Int32) = 0 ∧ W2 f (p + 2) < G
theorem hL_b (fl : Int32) : 6 ≤ hL fl ∧ hL fl ≤ 16 := by
  unfold hL hA hB
  repeat' split
  all_goals omega
theorem s8_w (v : Nat) : w16 (s8 v) := by
  have := lg_i2b_range (nI v)
  unfold w16 s8
  omega
theorem hDx_w (f : Nat → Int32) (p : Nat) : w16 (hDx f p) := by
  unfold hDx
  split
  · exact s8_w _
  · exact s16_w _
theorem hDy_w (f : Nat → Int32) (p : Nat) : w16 (hDy f p) := by
  unfold hDy
  split
  · exact s8_w _
  · exact s16_w _
theorem hM_w (f : Nat → Int32) (fl : Int32) (q : Nat) : w16 (hM f fl q).1 ∧ w16 (hM f fl q).2.1 ∧ w16 (hM f fl q).2.2.1 ∧ w16 (hM f fl q).2.2.2 := by
  have z : w16 0 := by unfold w16; decide
  have u : w16 16384 := by unfold w16; decide
  unfold hM
  repeat' split
  · exact ⟨u, z, z, u⟩
  · exact ⟨s16_w _, s16_w _, s16_w _, s16_w _⟩
  · exact ⟨s16_w _, z, z, s16_w _⟩
  · exact ⟨s16_w _, z, z, s16_w _⟩
/-- a read, told by whether all was there -/
theorem rd2t {p e : Nat} (hp : p < 2 ^ 30) (he : e ≤ 4096) {w : Int32} (hw : w = 0 ∨ w = 1) (f : Nat → Int32) : ∃ (v q : Nat) (w' : Int32), P_Rd_two (nI p) (nI e) w f = some (nI v, nI q, w') ∧ q ≤ p + 2 ∧ (w' = 0 ∨ w' = 1 ∧ w = 1 ∧ q = p + 2 ∧ q ≤ e ∧ v = W2 f p) := by
  rcases Nat.lt_or_ge (p + 1) e with h | h
  · refine ⟨_, _, w, rd2 h he w f, by omega, ?_⟩
    rcases hw with rfl | rfl
    · exact Or.inl rfl
    · exact Or.inr ⟨rfl, rfl, rfl, by omega, rfl⟩
  · exact ⟨0, p, 0, rd2n h hp w f, by omega, Or.inl rfl⟩
theorem rd1t {p e : Nat} (hp : p < 2 ^ 30) (he : e ≤ 4096) {w : Int32} (hw : w = 0 ∨ w = 1) (f : Nat → Int32) : ∃ (v q : Nat) (w' : Int32), P_Rd_one (nI p) (nI e) w f = some (nI v, nI q, w') ∧ q ≤ p + 1 ∧ (w' = 0 ∨ w' = 1 ∧ w = 1 ∧ q = p + 1 ∧ q ≤ e ∧ v = By f p) := by
  rcases Nat.lt_or_ge p e with h | h
  · refine ⟨_, _, w, rd1 h he w f, by omega, ?_⟩
    rcases hw with rfl | rfl
    · exact Or.inl rfl
    · exact Or.inr ⟨rfl, rfl, rfl, by omega, rfl⟩
  · exact ⟨0, p, 0, rd1n h hp w f, by omega, Or.inl rfl⟩
theorem w01 {w' : Int32} {P : Prop} (h : w' = 0 ∨ w' = 1 ∧ P) : w' = 0 ∨ w' = 1 := h.imp id And.left
theorem pt209 {e G : Nat} (f : Nat → Int32) (fl gl il dx dy a b c d q w : Int32) (hw : w = 0 ∨ w = 1) : P_Pt_read_209 (nI e) f (nI G) fl gl il dx dy a b c d q w = some (if w = 0 ∨ fl &&& (2 : Int32) = 0 ∨ nI G ≤ gl then 0 else 1, gl, il, dx, dy, a, b, c, d, q, w) := by
  unfold P_Pt_read_209 P_Rd_isWhole
  rcases hw with rfl | rfl
  · rw [zb0, some_bind, if_pos rfl, if_pos (Or.inl rfl)]
  · rw [zb1, some_bind, if_neg (show ¬ (1 : Int32) = 0 by decide)]
    by_cases c1 : fl &&& (2 : Int32) = 0
    · rw [if_pos c1, if_pos (Or.inr (Or.inl c1))]
    · rw [if_neg c1]
      by_cases c2 : nI G ≤ gl
      · rw [if_pos c2, if_pos (Or.inr (Or.inr c2))]
      · rw [if_neg c2, if_neg (by rintro (q | q | q); exact absurd q (by decide); exact c1 q; exact c2 q)]
/-- all is there: what is read -/
theorem pt_y {e G p : Nat} (he : e ≤ 4096) (hG : G ≤ 64) (f : Nat → Int32) (h : p + hL (hF f p) ≤ e) (g0 l0 dx0 dy0 a0 b0 c0 d0 : Int32) : P_Pt_read g0 l0 dx0 dy0 a0 b0 c0 d0 (nI p) (nI e) 1 f (nI G) = some (if hF f p &&& (2 : Int32) = 0 ∨ G ≤ W2 f (p + 2) then 0 else 1, nI (W2 f (p + 2)), if hF f p &&& (32 : Int32) = 0 then 1 else 0, hDx f p, hDy f p, (hQ f p).1, (hQ f p).2.1, (hQ f p).2.2.1, (hQ f p).2.2.2, nI (p + hL (hF f p)), 1) := by
  have hb := hL_b (hF f p)
  have bG := W2_lt f (p + 2)
  have eG : (if (1 : Int32) = 0 ∨ hF f p &&& (2 : Int32) = 0 ∨ nI G ≤ nI (W2 f (p + 2)) then (0 : Int32) else 1) = if hF f p &&& (2 : Int32) = 0 ∨ G ≤ W2 f (p + 2) then 0 else 1 := by
    by_cases c : hF f p &&& (2 : Int32) = 0 ∨ G ≤ W2 f (p + 2)
    · rw [if_pos c, if_pos (Or.inr (c.imp id (fun q => nI_le q (by omega))))]
    · rw [if_neg c, if_neg]
      rintro (q | q | q)
      · exact absurd q (by decide)
      · exact c (Or.inl q)
      · exact c (Or.inr ((nI_leI (by omega) (by omega)).mp q))
  have st26 : ∀ il : Int32, (il = 0 ∨ il = 1) → P_Pt_read_26 (nI e) f (nI G) (hF f p) il (nI (W2 f (p + 2))) l0 dx0 dy0 a0 b0 c0 d0 (nI (p + 4)) 1 = some (if hF f p &&& (2 : Int32) = 0 ∨ G ≤ W2 f (p + 2) then 0 else 1, nI (W2 f (p + 2)), il, hDx f p, hDy f p, (hQ f p).1, (hQ f p).2.1, (hQ f p).2.2.1, (hQ f p).2.2.2, nI (p + hL (hF f p)), 1) := by
    intro il hil
    have zil : ∀ (k : Option (Int32 × Int32 × Int32 × Int32 × Int32 × Int32 × Int32 × Int32 × Int32 × Int32 × Int32)), zb il k = k := fun k => if_pos hil
    have st83 : ∀ (dx dy : Int32), P_Pt_read_83 (nI e) f (nI G) (hF f p) dy (nI (W2 f (p + 2))) il dx dy0 a0 b0 c0 d0 (nI (p + 4 + hA (hF f p))) 1 = some (if hF f p &&& (2 : Int32) = 0 ∨ G ≤ W2 f (p + 2) then 0 else 1, nI (W2 f (p + 2)), il, dx, dy, (hQ f p).1, (hQ f p).2.1, (hQ f p).2.2.1, (hQ f p).2.2.2, nI (p + hL (hF f p)), 1) := by
      intro dx dy
      unfold P_Pt_read_83 hQ
      unfold hL at h ⊢
      generalize hF f p = fl at *
      generalize hA fl = A at *
      unfold hB hM at *
      by_cases c8 : fl &&& (8 : Int32) = 0
      · by_cases c64 : fl &&& (64 : Int32) = 0
        · by_cases c128 : fl &&& (128 : Int32) = 0
          · simp only [c8, c64, c128, if_true] at h ⊢
            rw [pt209 f _ _ _ _ _ _ _ _ _ _ _ (Or.inr rfl), eG, show p + (4 + A + 0) = p + 4 + A by omega]
          · simp only [c8, c64, c128, if_true, if_false] at h ⊢
            rw [rd2 (by omega) he]
            show (P_Rd_two (nI (p + 4 + A + 2)) (nI e) 1 f).bind _ = _
            rw [rd2 (by omega) he]
            show (P_Rd_two (nI (p + 4 + A + 2 + 2)) (nI e) 1 f).bind _ = _
            rw [rd2 (by omega) he]
            show (P_Rd_two (nI (p + 4 + A + 2 + 2 + 2)) (nI e) 1 f).bind _ = _
            rw [rd2 (by omega) he]
            rw [some_bind]
            simp only [unp]
            rw [pt209 f _ _ _ _ _ _ _ _ _ _ _ (Or.inr rfl), eG, show p + (4 + A + 8) = p + 4 + A + 2 + 2 + 2 + 2 by omega]
            rfl
        · simp only [c8, c64, if_true, if_false] at h ⊢
          rw [rd2 (by omega) he]
          show (P_Rd_two (nI (p + 4 + A + 2)) (nI e) 1 f).bind _ = _
          rw [rd2 (by omega) he]
          rw [some_bind]
          simp only [unp]
          rw [pt209 f _ _ _ _ _ _ _ _ _ _ _ (Or.inr rfl), eG, show p + (4 + A + 4) = p + 4 + A + 2 + 2 by omega]
          rfl
      · simp only [c8, if_false] at h ⊢
        rw [rd2 (by omega) he]
        rw [some_bind]
        simp only [unp]
        rw [pt209 f _ _ _ _ _ _ _ _ _ _ _ (Or.inr rfl), eG, show p + (4 + A + 2) = p + 4 + A + 2 by omega]
        rfl
    unfold P_Pt_read_26 P_Pt_read_40 P_Pt_read_61
    rw [zil]
    have hLA : p + 4 + hA (hF f p) ≤ e := by unfold hL at h; omega
    unfold hDx hDy
    by_cases c1 : hF f p &&& (1 : Int32) = 0
    · have eA : hA (hF f p) = 2 := by unfold hA; rw [if_pos c1]
      rw [eA] at hLA st83
      rw [if_pos c1, if_pos c1, if_pos c1, if_pos rfl, rd1 (by omega) he]
      rw [some_bind]
      simp only [unp, if_true]
      rw [rd1 (by omega) he]
      exact st83 _ _
    · have eA : hA (hF f p) = 4 := by unfold hA; rw [if_neg c1]
      rw [eA] at hLA st83
      rw [if_neg c1, if_neg c1, if_neg c1, if_neg (show ¬ (1 : Int32) = 0 by decide), rd2 (by omega) he]
      rw [some_bind]
      simp only [unp]
      rw [if_neg (show ¬ (1 : Int32) = 0 by decide), rd2 (by omega) he]
      exact st83 _ _
  unfold P_Pt_read
  rw [rd2 (by omega) he]
  show (P_Rd_two (nI (p + 2)) (nI e) 1 f).bind _ = _
  rw [rd2 (by omega) he]
  show (if hF f p &&& (32 : Int32) = 0 then _ else _) = _
  by_cases c : hF f p &&& (32 : Int32) = 0
  · rw [if_pos c, if_pos c]; exact st26 1 (Or.inr rfl)
  · rw [if_neg c, if_neg c]; exact st26 0 (Or.inl rfl)
/-- not all is there: the class says so -/
theorem pt_n {e G p : Nat} (he : e ≤ 4096) (hp : p < 2 ^ 20) (f : Nat → Int32) (h : e < p + hL (hF f p)) (g0 l0 dx0 dy0 a0 b0 c0 d0 : Int32) : ∃ u, P_Pt_read g0 l0 dx0 dy0 a0 b0 c0 d0 (nI p) (nI e) 1 f (nI G) = some u ∧ u.1 = 0 := by
  obtain ⟨v1, q1, w1, r1, b1, t1⟩ := rd2t (p := p) (by omega) he (w := 1) (Or.inr rfl) f
  obtain ⟨v2, q2, w2, r2, b2, t2⟩ := rd2t (p := q1) (by omega) he (w01 t1) f
  have st83 : ∀ (il dx dy : Int32) (q w : Nat → Nat) (q4 : Nat) (w4 : Int32), q4 < 2 ^ 22 → (w4 = 0 ∨ w4 = 1 ∧ w2 = 1 ∧ q4 = q2 + hA (nI v1) ∧ q4 ≤ e) → ∃ u, P_Pt_read_83 (nI e) f (nI G) (nI v1) dy (nI v2) il dx dy0 a0 b0 c0 d0 (nI q4) w4 = some u ∧ u.1 = 0 := by
    intro il dx dy _ _ q4 w4 hq4 hw4
    have key : ∀ w : Int32, (w = 0 ∨ w = 1) → (w = 1 → w4 = 1 ∧ q4 + hB (nI v1) ≤ e) → ∀ (aa bb cc dd qq : Int32), ∃ u, P_Pt_read_209 (nI e) f (nI G) (nI v1) (nI v2) il dx dy aa bb cc dd qq w = some u ∧ u.1 = 0 := by
      intro w hw hh aa bb cc dd qq
      rw [pt209 f _ _ _ _ _ _ _ _ _ _ _ hw]
      have : w = 0 := by
        rcases hw with hw | hw
        · exact hw
        · exfalso
          obtain ⟨k1, k2⟩ := hh hw
          rcases hw4 with z | ⟨_, z1, z2, z3⟩
          · rw [z] at k1; exact absurd k1 (by decide)
          · rcases t2 with z | ⟨_, y1, y2, y3, y4⟩
            · rw [z] at z1; exact absurd z1 (by decide)
            · rcases t1 with z | ⟨_, x1, x2, x3, x4⟩
              · rw [z] at y1; exact absurd y1 (by decide)
              · have ef : hF f p = nI v1 := by unfold hF; rw [x4]
                rw [ef] at h
                unfold hL at h
                omega
      exact ⟨_, rfl, if_pos (Or.inl this)⟩
    have hw4' := w01 (hw4.imp id (fun q => ⟨q.1, q.2⟩))
    have h4e : w4 = 1 → q4 ≤ e := fun q => by
      rcases hw4 with z | z
      · rw [z] at q; exact absurd q (by decide)
      · exact z.2.2.2
    unfold P_Pt_read_83
    by_cases c8 : nI v1 &&& (8 : Int32) = 0
    · by_cases c64 : nI v1 &&& (64 : Int32) = 0
      · by_cases c128 : nI v1 &&& (128 : Int32) = 0
        · rw [if_pos c8, if_pos c64, if_pos c128]
          have eB : hB (nI v1) = 0 := by unfold hB; rw [if_pos c8, if_pos c64, if_pos c128]
          exact key w4 hw4' (fun q => ⟨q, by rw [eB]; have := h4e q; omega⟩) _ _ _ _ _
        · rw [if_pos c8, if_pos c64, if_neg c128]
          have eB : hB (nI v1) = 8 := by unfold hB; rw [if_pos c8, if_pos c64, if_neg c128]
          obtain ⟨v5, q5, w5, r5, b5, t5⟩ := rd2t (p := q4) (by omega) he hw4' f
          obtain ⟨v6, q6, w6, r6, b6, t6⟩ := rd2t (p := q5) (by omega) he (w01 t5) f
          obtain ⟨v7, q7, w7, r7, b7, t7⟩ := rd2t (p := q6) (by omega) he (w01 t6) f
          obtain ⟨v8, q8, w8, r8, b8, t8⟩ := rd2t (p := q7) (by omega) he (w01 t7) f
          rw [r5, some_bind]
          simp only [unp]
          rw [r6, some_bind]
          simp only [unp]
          rw [r7, some_bind]
          simp only [unp]
          rw [r8, some_bind]
          simp only [unp]
          refine key w8 (w01 t8) (fun q => ?_) _ _ _ _ _
          have n0 : ¬ (1 : Int32) = 0 := by decide
          rw [eB]
          rcases t8 with z | ⟨_, y1, y2, y3, _⟩
          · rw [z] at q; exact absurd q.symm n0
          rcases t7 with z | ⟨_, x1, x2, x3, _⟩
          · rw [z] at y1; exact absurd y1.symm n0
          rcases t6 with z | ⟨_, u1, u2, u3, _⟩
          · rw [z] at x1; exact absurd x1.symm n0
          rcases t5 with z | ⟨_, s1, s2, s3, _⟩
          · rw [z] at u1; exact absurd u1.symm n0
          exact ⟨s1, by omega⟩
      · rw [if_pos c8, if_neg c64]
        have eB : hB (nI v1) = 4 := by unfold hB; rw [if_pos c8, if_neg c64]
        obtain ⟨v5, q5, w5, r5, b5, t5⟩ := rd2t (p := q4) (by omega) he hw4' f
        obtain ⟨v6, q6, w6, r6, b6, t6⟩ := rd2t (p := q5) (by omega) he (w01 t5) f
        rw [r5, some_bind]
        simp only [unp]
        rw [r6, some_bind]
        simp only [unp]
        refine key w6 (w01 t6) (fun q => ?_) _ _ _ _ _
        have n0 : ¬ (1 : Int32) = 0 := by decide
        rw [eB]
        rcases t6 with z | ⟨_, u1, u2, u3, _⟩
        · rw [z] at q; exact absurd q.symm n0
        rcases t5 with z | ⟨_, s1, s2, s3, _⟩
        · rw [z] at u1; exact absurd u1.symm n0
        exact ⟨s1, by omega⟩
    · rw [if_neg c8]
      have eB : hB (nI v1) = 2 := by unfold hB; rw [if_neg c8]
      obtain ⟨v5, q5, w5, r5, b5, t5⟩ := rd2t (p := q4) (by omega) he hw4' f
      rw [r5, some_bind]
      simp only [unp]
      refine key w5 (w01 t5) (fun q => ?_) _ _ _ _ _
      have n0 : ¬ (1 : Int32) = 0 := by decide
      rw [eB]
      rcases t5 with z | ⟨_, s1, s2, s3, _⟩
      · rw [z] at q; exact absurd q.symm n0
      exact ⟨s1, by omega⟩
  have st26 : ∀ il : Int32, (il = 0 ∨ il = 1) → ∃ u, P_Pt_read_26 (nI e) f (nI G) (nI v1) il (nI v2) l0 dx0 dy0 a0 b0 c0 d0 (nI q2) w2 = some u ∧ u.1 = 0 := by
    intro il hil
    have zil : ∀ (k : Option (Int32 × Int32 × Int32 × Int32 × Int32 × Int32 × Int32 × Int32 × Int32 × Int32 × Int32)), zb il k = k := fun k => if_pos hil
    unfold P_Pt_read_26 P_Pt_read_40 P_Pt_read_61
    rw [zil]
    have n0 : ¬ (1 : Int32) = 0 := by decide
    by_cases c1 : nI v1 &&& (1 : Int32) = 0
    · have eA : hA (nI v1) = 2 := by unfold hA; rw [if_pos c1]
      obtain ⟨v3, q3, w3, r3, b3, t3⟩ := rd1t (p := q2) (by omega) he (w01 t2) f
      obtain ⟨v4, q4, w4, r4, b4, t4⟩ := rd1t (p := q3) (by omega) he (w01 t3) f
      rw [if_pos c1]
      simp only [if_true]
      rw [r3, some_bind]
      simp only [unp]
      rw [r4, some_bind]
      simp only [unp]
      refine st83 il _ _ id id q4 w4 (by omega) ?_
      rcases t4 with z | ⟨z, u1, u2, u3, _⟩
      · exact Or.inl z
      · refine Or.inr ⟨z, ?_, ?_, u3⟩
        · rcases t3 with y | ⟨_, s1, s2, s3, _⟩
          · rw [y] at u1; exact absurd u1.symm n0
          · exact s1
        · rcases t3 with y | ⟨_, s1, s2, s3, _⟩
          · rw [y] at u1; exact absurd u1.symm n0
          · omega
    · have eA : hA (nI v1) = 4 := by unfold hA; rw [if_neg c1]
      obtain ⟨v3, q3, w3, r3, b3, t3⟩ := rd2t (p := q2) (by omega) he (w01 t2) f
      obtain ⟨v4, q4, w4, r4, b4, t4⟩ := rd2t (p := q3) (by omega) he (w01 t3) f
      rw [if_neg c1, if_neg n0, r3, some_bind]
      simp only [unp]
      rw [if_neg n0, r4, some_bind]
      simp only [unp]
      refine st83 il _ _ id id q4 w4 (by omega) ?_
      rcases t4 with z | ⟨z, u1, u2, u3, _⟩
      · exact Or.inl z
      · refine Or.inr ⟨z, ?_, ?_, u3⟩
        · rcases t3 with y | ⟨_, s1, s2, s3, _⟩
          · rw [y] at u1; exact absurd u1.symm n0
          · exact s1
        · rcases t3 with y | ⟨_, s1, s2, s3, _⟩
          · rw [y] at u1; exact absurd u1.symm n0
          · omega
  unfold P_Pt_read
  rw [r1, some_bind]
  simp only [unp]
  rw [r2, some_bind]
  simp only [unp]
  by_cases c : nI v1 &&& (32 : Int32) = 0
  · rw [if_pos c]; exact st26 1 (Or.inr rfl)
  · rw [if_neg c]; exact st26 0 (Or.inl rfl)
