/-! PURE ROWS: the reference's composite glyphs, level by level (printed by wip/whole/gen/glyfm.py) -/
theorem mb2t {n p e : Nat} {f g : Nat → Int32} (hn : n ≤ 4096) (hg : Agr n f g) (hp : p < 2 ^ 30) (he : e ≤ n) {w : Int32} (hw : w = 0 ∨ w = 1) : ∃ (v : Int32) (q : Nat) (w' : Int32), P_Mo_twoHere (nI p) (nI e) w g = some (v, nI q, w') ∧ q ≤ p + 2 ∧ (w' = 0 ∨ w' = 1 ∧ w = 1 ∧ q = p + 2 ∧ q ≤ e ∧ v = nI (W2 f p)) := by
  rcases Nat.lt_or_ge (p + 1) e with h | h
  · refine ⟨_, _, w, mb2 hn hg h he w, by omega, ?_⟩
    rcases hw with rfl | rfl
    · exact Or.inl rfl
    · exact Or.inr ⟨rfl, rfl, rfl, by omega, rfl⟩
  · obtain ⟨v, q, h1, h2⟩ := mb2n hn hg h hp he w
    exact ⟨v, q, 0, h2, by omega, Or.inl rfl⟩
theorem mb1t {n p e : Nat} {f g : Nat → Int32} (hn : n ≤ 4096) (hg : Agr n f g) (hp : p < 2 ^ 30) (he : e ≤ n) {w : Int32} (hw : w = 0 ∨ w = 1) : ∃ (v : Int32) (q : Nat) (w' : Int32), P_Mo_byteHere (nI p) (nI e) w g = some (v, nI q, w') ∧ q ≤ p + 1 ∧ (w' = 0 ∨ w' = 1 ∧ w = 1 ∧ q = p + 1 ∧ q ≤ e ∧ v = nI (By f p)) := by
  rcases Nat.lt_or_ge p e with h | h
  · refine ⟨_, _, w, mb1 hn hg h he w, by omega, ?_⟩
    rcases hw with rfl | rfl
    · exact Or.inl rfl
    · exact Or.inr ⟨rfl, rfl, rfl, by omega, rfl⟩
  · exact ⟨0, p, 0, mb1n h hp w, by omega, Or.inl rfl⟩
theorem n10 : ¬ (1 : Int32) = 0 := by decide
theorem mh93_4 {n e q2 : Nat} {f g : Nat → Int32} (hn : n ≤ 4096) (hg : Agr n f g) (he : e ≤ n) (done : Nat → Int32) {G : Nat} (z : Int32 × Int32 × Int32 × Int32 × Int32 × (Nat → Int32) × (Nat → Int32) × (Nat → Int32) × (Nat → Int32) × (Nat → Int32) × (Nat → Int32) × (Nat → Int32) × (Nat → Int32) → Option (Int32 × Int32 × Int32 × Int32 × (Nat → Int32) × (Nat → Int32) × (Nat → Int32) × (Nat → Int32) × (Nat → Int32) × (Nat → Int32) × (Nat → Int32) × (Nat → Int32))) (gi fl0 pt dx dy : Int32) (dep prt cs ps x y on ct : Nat → Int32) (hq : q2 < 2 ^ 20) (w : Int32) (hw : w = 0 ∨ w = 1) : (w = 1 → q2 + hB fl0 ≤ e → P_Mo_composite_L4_93 (nI G) g done z gi fl0 pt dx dy (nI q2) (nI e) w dep prt cs ps x y on ct = P_Mo_composite_L4_202 (nI G) g done z gi fl0 pt dx dy (hM f fl0 q2).1 (hM f fl0 q2).2.1 (hM f fl0 q2).2.2.1 (hM f fl0 q2).2.2.2 (nI (q2 + hB fl0)) (nI e) 1 dep prt cs ps x y on ct) ∧ ((w = 0 ∨ e < q2 + hB fl0) → q2 ≤ e ∨ w = 0 → ∃ u, P_Mo_composite_L4_93 (nI G) g done z gi fl0 pt dx dy (nI q2) (nI e) w dep prt cs ps x y on ct = some u ∧ u.1 = 0) := by
  have bad : ∀ (aa bb cc dd qq : Int32), ∃ u, P_Mo_composite_L4_202 (nI G) g done z gi fl0 pt dx dy aa bb cc dd qq (nI e) 0 dep prt cs ps x y on ct = some u ∧ u.1 = 0 := by
    intro aa bb cc dd qq
    unfold P_Mo_composite_L4_202
    rw [if_pos rfl]
    exact ⟨_, rfl, rfl⟩
  unfold P_Mo_composite_L4_93 hB hM
  by_cases c8 : fl0 &&& (8 : Int32) = 0
  · by_cases c64 : fl0 &&& (64 : Int32) = 0
    · by_cases c128 : fl0 &&& (128 : Int32) = 0
      · simp only [c8, c64, c128, if_true]
        refine ⟨fun h1 h2 => by rw [h1]; rfl, fun h1 h2 => ?_⟩
        have : w = 0 := by rcases h1 with h1 | h1; exact h1; rcases h2 with h2 | h2; omega; exact h2
        rw [this]; exact bad _ _ _ _ _
      · simp only [c8, c64, c128, if_true, if_false]
        constructor
        · intro h1 h2
          rw [h1, mb2 hn hg (by omega) he, some_bind]
          simp only [unp]
          rw [mb2 hn hg (by omega) he, some_bind]
          simp only [unp]
          rw [mb2 hn hg (by omega) he, some_bind]
          simp only [unp]
          rw [mb2 hn hg (by omega) he, some_bind]
          rfl
        · intro h1 h2
          obtain ⟨v5, q5, w5, r5, b5, t5⟩ := mb2t hn hg (p := q2) (by omega) he hw
          obtain ⟨v6, q6, w6, r6, b6, t6⟩ := mb2t hn hg (p := q5) (by omega) he (w01 t5)
          obtain ⟨v7, q7, w7, r7, b7, t7⟩ := mb2t hn hg (p := q6) (by omega) he (w01 t6)
          obtain ⟨v8, q8, w8, r8, b8, t8⟩ := mb2t hn hg (p := q7) (by omega) he (w01 t7)
          rw [r5, some_bind]
          simp only [unp]
          rw [r6, some_bind]
          simp only [unp]
          rw [r7, some_bind]
          simp only [unp]
          rw [r8, some_bind]
          simp only [unp]
          have : w8 = 0 := by
            rcases t8 with z8 | ⟨_, y1, y2, y3, _⟩
            · exact z8
            rcases t7 with z7 | ⟨_, x1, x2, x3, _⟩
            · rw [z7] at y1; exact absurd y1.symm n10
            rcases t6 with z6 | ⟨_, u1, u2, u3, _⟩
            · rw [z6] at x1; exact absurd x1.symm n10
            rcases t5 with z5 | ⟨_, s1, s2, s3, _⟩
            · rw [z5] at u1; exact absurd u1.symm n10
            rcases h1 with h1 | h1
            · rw [h1] at s1; exact absurd s1.symm n10
            · omega
          rw [this]; exact bad _ _ _ _ _
    · simp only [c8, c64, if_true, if_false]
      constructor
      · intro h1 h2
        rw [h1, mb2 hn hg (by omega) he, some_bind]
        simp only [unp]
        rw [mb2 hn hg (by omega) he, some_bind]
        rfl
      · intro h1 h2
        obtain ⟨v5, q5, w5, r5, b5, t5⟩ := mb2t hn hg (p := q2) (by omega) he hw
        obtain ⟨v6, q6, w6, r6, b6, t6⟩ := mb2t hn hg (p := q5) (by omega) he (w01 t5)
        rw [r5, some_bind]
        simp only [unp]
        rw [r6, some_bind]
        simp only [unp]
        have : w6 = 0 := by
          rcases t6 with z6 | ⟨_, u1, u2, u3, _⟩
          · exact z6
          rcases t5 with z5 | ⟨_, s1, s2, s3, _⟩
          · rw [z5] at u1; exact absurd u1.symm n10
          rcases h1 with h1 | h1
          · rw [h1] at s1; exact absurd s1.symm n10
          · omega
        rw [this]; exact bad _ _ _ _ _
  · simp only [c8, if_false]
    constructor
    · intro h1 h2
      rw [h1, mb2 hn hg (by omega) he, some_bind]
      rfl
    · intro h1 h2
      obtain ⟨v5, q5, w5, r5, b5, t5⟩ := mb2t hn hg (p := q2) (by omega) he hw
      rw [r5, some_bind]
      simp only [unp]
      have : w5 = 0 := by
        rcases t5 with z5 | ⟨_, s1, s2, s3, _⟩
        · exact z5
        rcases h1 with h1 | h1
        · rw [h1] at s1; exact absurd s1.symm n10
        · omega
      rw [this]; exact bad _ _ _ _ _
theorem mhead_4 {n p e : Nat} {f g : Nat → Int32} (hn : n ≤ 4096) (hg : Agr n f g) (he : e ≤ n) (done : Nat → Int32) {G : Nat} (hG : G ≤ 64) (z : Int32 × Int32 × Int32 × Int32 × Int32 × (Nat → Int32) × (Nat → Int32) × (Nat → Int32) × (Nat → Int32) × (Nat → Int32) × (Nat → Int32) × (Nat → Int32) × (Nat → Int32) → Option (Int32 × Int32 × Int32 × Int32 × (Nat → Int32) × (Nat → Int32) × (Nat → Int32) × (Nat → Int32) × (Nat → Int32) × (Nat → Int32) × (Nat → Int32) × (Nat → Int32))) (gi : Int32) (dep prt cs ps x y on ct : Nat → Int32) (hp : p ≤ e) : (hOk f p e G → P_Mo_composite_L4_3b (nI G) g done z gi 1 (nI p) (nI e) 1 dep prt cs ps x y on ct = P_Mo_composite_L4_202 (nI G) g done z gi (hF f p) (nI (W2 f (p + 2))) (hDx f p) (hDy f p) (hQ f p).1 (hQ f p).2.1 (hQ f p).2.2.1 (hQ f p).2.2.2 (nI (p + hL (hF f p))) (nI e) 1 dep prt cs ps x y on ct) ∧ (¬ hOk f p e G → ∃ u, P_Mo_composite_L4_3b (nI G) g done z gi 1 (nI p) (nI e) 1 dep prt cs ps x y on ct = some u ∧ u.1 = 0) := by
  have hb := hL_b (hF f p)
  have bG := W2_lt f (p + 2)
  unfold P_Mo_composite_L4_3b P_Mo_composite_L4_69
  rw [if_neg n10]
  by_cases c0 : p + 4 ≤ e
  · rw [mb2 hn hg (by omega) he, some_bind]
    simp only [unp]
    rw [mb2 hn hg (by omega) he, some_bind]
    simp only [unp]
    rw [if_neg n10, show nI (W2 f p) = hF f p from rfl]
    by_cases c2 : hF f p &&& (2 : Int32) = 0
    · rw [if_pos c2]
      exact ⟨fun k => absurd c2 k.2.1, fun _ => ⟨_, rfl, rfl⟩⟩
    rw [if_neg c2]
    by_cases c3 : W2 f (p + 2) < G
    · rw [if_pos (nI_lt c3 (by omega))]
      unfold hDx hDy hQ
      by_cases c1 : hF f p &&& (1 : Int32) = 0
      · have eA : hA (hF f p) = 2 := by unfold hA; rw [if_pos c1]
        have eL : p + hL (hF f p) = p + 4 + 2 + hB (hF f p) := by unfold hL; omega
        simp only [c1, if_true, eA, eL]
        constructor
        · intro h
          have h4 : p + 4 + 2 + hB (hF f p) ≤ e := by have := h.1; omega
          rw [mb1 hn hg (by omega) he, some_bind]
          simp only [unp]
          rw [mb1 hn hg (by omega) he, some_bind]
          exact (mh93_4 (q2 := p + 4 + 2) hn hg he done z gi (hF f p) _ _ _ dep prt cs ps x y on ct (by omega) 1 (Or.inr rfl)).1 rfl h4
        · intro h
          have h4 : e < p + 4 + 2 + hB (hF f p) := by
            rcases Nat.lt_or_ge e (p + 4 + 2 + hB (hF f p)) with k | k
            · exact k
            · exact absurd ⟨by omega, c2, c3⟩ h
          obtain ⟨v3, q3, w3, r3, b3, t3⟩ := mb1t hn hg (p := p + 2 + 2) (by omega) he (w := 1) (Or.inr rfl)
          obtain ⟨v4, q4, w4, r4, b4, t4⟩ := mb1t hn hg (p := q3) (by omega) he (w01 t3)
          rw [r3, some_bind]
          simp only [unp]
          rw [r4, some_bind]
          refine (mh93_4 (q2 := q4) hn hg he done z gi (hF f p) _ _ _ dep prt cs ps x y on ct (by omega) w4 (w01 t4)).2 ?_ ?_
          · rcases t4 with z4 | ⟨_, u1, u2, u3, _⟩
            · exact Or.inl z4
            rcases t3 with z3 | ⟨_, s1, s2, s3, _⟩
            · rw [z3] at u1; exact absurd u1.symm n10
            · exact Or.inr (by omega)
          · rcases t4 with z4 | ⟨_, u1, u2, u3, _⟩
            · exact Or.inr z4
            · exact Or.inl u3
      · have eA : hA (hF f p) = 4 := by unfold hA; rw [if_neg c1]
        have eL : p + hL (hF f p) = p + 4 + 4 + hB (hF f p) := by unfold hL; omega
        simp only [c1, if_false, eA, eL]
        constructor
        · intro h
          have h4 : p + 4 + 4 + hB (hF f p) ≤ e := by have := h.1; omega
          rw [mb2 hn hg (by omega) he, some_bind]
          simp only [unp]
          rw [mb2 hn hg (by omega) he, some_bind]
          exact (mh93_4 (q2 := p + 4 + 4) hn hg he done z gi (hF f p) _ _ _ dep prt cs ps x y on ct (by omega) 1 (Or.inr rfl)).1 rfl h4
        · intro h
          have h4 : e < p + 4 + 4 + hB (hF f p) := by
            rcases Nat.lt_or_ge e (p + 4 + 4 + hB (hF f p)) with k | k
            · exact k
            · exact absurd ⟨by omega, c2, c3⟩ h
          obtain ⟨v3, q3, w3, r3, b3, t3⟩ := mb2t hn hg (p := p + 2 + 2) (by omega) he (w := 1) (Or.inr rfl)
          obtain ⟨v4, q4, w4, r4, b4, t4⟩ := mb2t hn hg (p := q3) (by omega) he (w01 t3)
          rw [r3, some_bind]
          simp only [unp]
          rw [r4, some_bind]
          refine (mh93_4 (q2 := q4) hn hg he done z gi (hF f p) _ _ _ dep prt cs ps x y on ct (by omega) w4 (w01 t4)).2 ?_ ?_
          · rcases t4 with z4 | ⟨_, u1, u2, u3, _⟩
            · exact Or.inl z4
            rcases t3 with z3 | ⟨_, s1, s2, s3, _⟩
            · rw [z3] at u1; exact absurd u1.symm n10
            · exact Or.inr (by omega)
          · rcases t4 with z4 | ⟨_, u1, u2, u3, _⟩
            · exact Or.inr z4
            · exact Or.inl u3
    · rw [if_neg (nI_nlt (by omega) (by omega))]
      exact ⟨fun k => absurd k.2.2 c3, fun _ => ⟨_, rfl, rfl⟩⟩
  · refine ⟨fun k => absurd k.1 (by omega), fun _ => ?_⟩
    obtain ⟨v1, q1, w1, r1, b1, t1⟩ := mb2t hn hg (p := p) (by omega) he (w := 1) (Or.inr rfl)
    obtain ⟨v2, q2, w2, r2, b2, t2⟩ := mb2t hn hg (p := q1) (by omega) he (w01 t1)
    rw [r1, some_bind]
    simp only [unp]
    rw [r2, some_bind]
    simp only [unp]
    have : w2 = 0 := by
      rcases t2 with z2 | ⟨_, u1, u2, u3, _⟩
      · exact z2
      rcases t1 with z1 | ⟨_, s1, s2, s3, _⟩
      · rw [z1] at u1; exact absurd u1.symm n10
      · omega
    rw [if_pos this]
    exact ⟨_, rfl, rfl⟩
theorem mh93_3 {n e q2 : Nat} {f g : Nat → Int32} (hn : n ≤ 4096) (hg : Agr n f g) (he : e ≤ n) (FF : Int32) (a : Nat → Int32) {G : Nat} (z : Int32 × Int32 × Int32 × Int32 × Int32 × (Nat → Int32) × (Nat → Int32) × (Nat → Int32) × (Nat → Int32) × (Nat → Int32) × (Nat → Int32) × (Nat → Int32) × (Nat → Int32) × (Nat → Int32) × (Nat → Int32) → Option (Int32 × Int32 × Int32 × Int32 × (Nat → Int32) × (Nat → Int32) × (Nat → Int32) × (Nat → Int32) × (Nat → Int32) × (Nat → Int32) × (Nat → Int32) × (Nat → Int32) × (Nat → Int32) × (Nat → Int32))) (gi fl0 pt dx dy : Int32) (fl done dep prt cs ps x y on ct : Nat → Int32) (hq : q2 < 2 ^ 20) (w : Int32) (hw : w = 0 ∨ w = 1) : (w = 1 → q2 + hB fl0 ≤ e → P_Mo_composite_L3_93 FF (nI G) g a z gi fl0 pt dx dy (nI q2) (nI e) w fl done dep prt cs ps x y on ct = P_Mo_composite_L3_202 FF (nI G) g a z gi fl0 pt dx dy (hM f fl0 q2).1 (hM f fl0 q2).2.1 (hM f fl0 q2).2.2.1 (hM f fl0 q2).2.2.2 (nI (q2 + hB fl0)) (nI e) 1 fl done dep prt cs ps x y on ct) ∧ ((w = 0 ∨ e < q2 + hB fl0) → q2 ≤ e ∨ w = 0 → ∃ u, P_Mo_composite_L3_93 FF (nI G) g a z gi fl0 pt dx dy (nI q2) (nI e) w fl done dep prt cs ps x y on ct = some u ∧ u.1 = 0) := by
  have bad : ∀ (aa bb cc dd qq : Int32), ∃ u, P_Mo_composite_L3_202 FF (nI G) g a z gi fl0 pt dx dy aa bb cc dd qq (nI e) 0 fl done dep prt cs ps x y on ct = some u ∧ u.1 = 0 := by
    intro aa bb cc dd qq
    unfold P_Mo_composite_L3_202
    rw [if_pos rfl]
    exact ⟨_, rfl, rfl⟩
  unfold P_Mo_composite_L3_93 hB hM
  by_cases c8 : fl0 &&& (8 : Int32) = 0
  · by_cases c64 : fl0 &&& (64 : Int32) = 0
    · by_cases c128 : fl0 &&& (128 : Int32) = 0
      · simp only [c8, c64, c128, if_true]
        refine ⟨fun h1 h2 => by rw [h1]; rfl, fun h1 h2 => ?_⟩
        have : w = 0 := by rcases h1 with h1 | h1; exact h1; rcases h2 with h2 | h2; omega; exact h2
        rw [this]; exact bad _ _ _ _ _
      · simp only [c8, c64, c128, if_true, if_false]
        constructor
        · intro h1 h2
          rw [h1, mb2 hn hg (by omega) he, some_bind]
          simp only [unp]
          rw [mb2 hn hg (by omega) he, some_bind]
          simp only [unp]
          rw [mb2 hn hg (by omega) he, some_bind]
          simp only [unp]
          rw [mb2 hn hg (by omega) he, some_bind]
          rfl
        · intro h1 h2
          obtain ⟨v5, q5, w5, r5, b5, t5⟩ := mb2t hn hg (p := q2) (by omega) he hw
          obtain ⟨v6, q6, w6, r6, b6, t6⟩ := mb2t hn hg (p := q5) (by omega) he (w01 t5)
          obtain ⟨v7, q7, w7, r7, b7, t7⟩ := mb2t hn hg (p := q6) (by omega) he (w01 t6)
          obtain ⟨v8, q8, w8, r8, b8, t8⟩ := mb2t hn hg (p := q7) (by omega) he (w01 t7)
          rw [r5, some_bind]
          simp only [unp]
          rw [r6, some_bind]
          simp only [unp]
          rw [r7, some_bind]
          simp only [unp]
          rw [r8, some_bind]
          simp only [unp]
          have : w8 = 0 := by
            rcases t8 with z8 | ⟨_, y1, y2, y3, _⟩
            · exact z8
            rcases t7 with z7 | ⟨_, x1, x2, x3, _⟩
            · rw [z7] at y1; exact absurd y1.symm n10
            rcases t6 with z6 | ⟨_, u1, u2, u3, _⟩
            · rw [z6] at x1; exact absurd x1.symm n10
            rcases t5 with z5 | ⟨_, s1, s2, s3, _⟩
            · rw [z5] at u1; exact absurd u1.symm n10
            rcases h1 with h1 | h1
            · rw [h1] at s1; exact absurd s1.symm n10
            · omega
          rw [this]; exact bad _ _ _ _ _
    · simp only [c8, c64, if_true, if_false]
      constructor
      · intro h1 h2
        rw [h1, mb2 hn hg (by omega) he, some_bind]
        simp only [unp]
        rw [mb2 hn hg (by omega) he, some_bind]
        rfl
      · intro h1 h2
        obtain ⟨v5, q5, w5, r5, b5, t5⟩ := mb2t hn hg (p := q2) (by omega) he hw
        obtain ⟨v6, q6, w6, r6, b6, t6⟩ := mb2t hn hg (p := q5) (by omega) he (w01 t5)
        rw [r5, some_bind]
        simp only [unp]
        rw [r6, some_bind]
        simp only [unp]
        have : w6 = 0 := by
          rcases t6 with z6 | ⟨_, u1, u2, u3, _⟩
          · exact z6
          rcases t5 with z5 | ⟨_, s1, s2, s3, _⟩
          · rw [z5] at u1; exact absurd u1.symm n10
          rcases h1 with h1 | h1
          · rw [h1] at s1; exact absurd s1.symm n10
          · omega
        rw [this]; exact bad _ _ _ _ _
  · simp only [c8, if_false]
    constructor
    · intro h1 h2
      rw [h1, mb2 hn hg (by omega) he, some_bind]
      rfl
    · intro h1 h2
      obtain ⟨v5, q5, w5, r5, b5, t5⟩ := mb2t hn hg (p := q2) (by omega) he hw
      rw [r5, some_bind]
      simp only [unp]
      have : w5 = 0 := by
        rcases t5 with z5 | ⟨_, s1, s2, s3, _⟩
        · exact z5
        rcases h1 with h1 | h1
        · rw [h1] at s1; exact absurd s1.symm n10
        · omega
      rw [this]; exact bad _ _ _ _ _
theorem mhead_3 {n p e : Nat} {f g : Nat → Int32} (hn : n ≤ 4096) (hg : Agr n f g) (he : e ≤ n) (FF : Int32) (a : Nat → Int32) {G : Nat} (hG : G ≤ 64) (z : Int32 × Int32 × Int32 × Int32 × Int32 × (Nat → Int32) × (Nat → Int32) × (Nat → Int32) × (Nat → Int32) × (Nat → Int32) × (Nat → Int32) × (Nat → Int32) × (Nat → Int32) × (Nat → Int32) × (Nat → Int32) → Option (Int32 × Int32 × Int32 × Int32 × (Nat → Int32) × (Nat → Int32) × (Nat → Int32) × (Nat → Int32) × (Nat → Int32) × (Nat → Int32) × (Nat → Int32) × (Nat → Int32) × (Nat → Int32) × (Nat → Int32))) (gi : Int32) (fl done dep prt cs ps x y on ct : Nat → Int32) (hp : p ≤ e) : (hOk f p e G → P_Mo_composite_L3_3b FF (nI G) g a z gi 1 (nI p) (nI e) 1 fl done dep prt cs ps x y on ct = P_Mo_composite_L3_202 FF (nI G) g a z gi (hF f p) (nI (W2 f (p + 2))) (hDx f p) (hDy f p) (hQ f p).1 (hQ f p).2.1 (hQ f p).2.2.1 (hQ f p).2.2.2 (nI (p + hL (hF f p))) (nI e) 1 fl done dep prt cs ps x y on ct) ∧ (¬ hOk f p e G → ∃ u, P_Mo_composite_L3_3b FF (nI G) g a z gi 1 (nI p) (nI e) 1 fl done dep prt cs ps x y on ct = some u ∧ u.1 = 0) := by
  have hb := hL_b (hF f p)
  have bG := W2_lt f (p + 2)
  unfold P_Mo_composite_L3_3b P_Mo_composite_L3_69
  rw [if_neg n10]
  by_cases c0 : p + 4 ≤ e
  · rw [mb2 hn hg (by omega) he, some_bind]
    simp only [unp]
    rw [mb2 hn hg (by omega) he, some_bind]
    simp only [unp]
    rw [if_neg n10, show nI (W2 f p) = hF f p from rfl]
    by_cases c2 : hF f p &&& (2 : Int32) = 0
    · rw [if_pos c2]
      exact ⟨fun k => absurd c2 k.2.1, fun _ => ⟨_, rfl, rfl⟩⟩
    rw [if_neg c2]
    by_cases c3 : W2 f (p + 2) < G
    · rw [if_pos (nI_lt c3 (by omega))]
      unfold hDx hDy hQ
      by_cases c1 : hF f p &&& (1 : Int32) = 0
      · have eA : hA (hF f p) = 2 := by unfold hA; rw [if_pos c1]
        have eL : p + hL (hF f p) = p + 4 + 2 + hB (hF f p) := by unfold hL; omega
        simp only [c1, if_true, eA, eL]
        constructor
        · intro h
          have h4 : p + 4 + 2 + hB (hF f p) ≤ e := by have := h.1; omega
          rw [mb1 hn hg (by omega) he, some_bind]
          simp only [unp]
          rw [mb1 hn hg (by omega) he, some_bind]
          exact (mh93_3 (q2 := p + 4 + 2) hn hg he FF a z gi (hF f p) _ _ _ fl done dep prt cs ps x y on ct (by omega) 1 (Or.inr rfl)).1 rfl h4
        · intro h
          have h4 : e < p + 4 + 2 + hB (hF f p) := by
            rcases Nat.lt_or_ge e (p + 4 + 2 + hB (hF f p)) with k | k
            · exact k
            · exact absurd ⟨by omega, c2, c3⟩ h
          obtain ⟨v3, q3, w3, r3, b3, t3⟩ := mb1t hn hg (p := p + 2 + 2) (by omega) he (w := 1) (Or.inr rfl)
          obtain ⟨v4, q4, w4, r4, b4, t4⟩ := mb1t hn hg (p := q3) (by omega) he (w01 t3)
          rw [r3, some_bind]
          simp only [unp]
          rw [r4, some_bind]
          refine (mh93_3 (q2 := q4) hn hg he FF a z gi (hF f p) _ _ _ fl done dep prt cs ps x y on ct (by omega) w4 (w01 t4)).2 ?_ ?_
          · rcases t4 with z4 | ⟨_, u1, u2, u3, _⟩
            · exact Or.inl z4
            rcases t3 with z3 | ⟨_, s1, s2, s3, _⟩
            · rw [z3] at u1; exact absurd u1.symm n10
            · exact Or.inr (by omega)
          · rcases t4 with z4 | ⟨_, u1, u2, u3, _⟩
            · exact Or.inr z4
            · exact Or.inl u3
      · have eA : hA (hF f p) = 4 := by unfold hA; rw [if_neg c1]
        have eL : p + hL (hF f p) = p + 4 + 4 + hB (hF f p) := by unfold hL; omega
        simp only [c1, if_false, eA, eL]
        constructor
        · intro h
          have h4 : p + 4 + 4 + hB (hF f p) ≤ e := by have := h.1; omega
          rw [mb2 hn hg (by omega) he, some_bind]
          simp only [unp]
          rw [mb2 hn hg (by omega) he, some_bind]
          exact (mh93_3 (q2 := p + 4 + 4) hn hg he FF a z gi (hF f p) _ _ _ fl done dep prt cs ps x y on ct (by omega) 1 (Or.inr rfl)).1 rfl h4
        · intro h
          have h4 : e < p + 4 + 4 + hB (hF f p) := by
            rcases Nat.lt_or_ge e (p + 4 + 4 + hB (hF f p)) with k | k
            · exact k
            · exact absurd ⟨by omega, c2, c3⟩ h
          obtain ⟨v3, q3, w3, r3, b3, t3⟩ := mb2t hn hg (p := p + 2 + 2) (by omega) he (w := 1) (Or.inr rfl)
          obtain ⟨v4, q4, w4, r4, b4, t4⟩ := mb2t hn hg (p := q3) (by omega) he (w01 t3)
          rw [r3, some_bind]
          simp only [unp]
          rw [r4, some_bind]
          refine (mh93_3 (q2 := q4) hn hg he FF a z gi (hF f p) _ _ _ fl done dep prt cs ps x y on ct (by omega) w4 (w01 t4)).2 ?_ ?_
          · rcases t4 with z4 | ⟨_, u1, u2, u3, _⟩
            · exact Or.inl z4
            rcases t3 with z3 | ⟨_, s1, s2, s3, _⟩
            · rw [z3] at u1; exact absurd u1.symm n10
            · exact Or.inr (by omega)
          · rcases t4 with z4 | ⟨_, u1, u2, u3, _⟩
            · exact Or.inr z4
            · exact Or.inl u3
    · rw [if_neg (nI_nlt (by omega) (by omega))]
      exact ⟨fun k => absurd k.2.2 c3, fun _ => ⟨_, rfl, rfl⟩⟩
  · refine ⟨fun k => absurd k.1 (by omega), fun _ => ?_⟩
    obtain ⟨v1, q1, w1, r1, b1, t1⟩ := mb2t hn hg (p := p) (by omega) he (w := 1) (Or.inr rfl)
    obtain ⟨v2, q2, w2, r2, b2, t2⟩ := mb2t hn hg (p := q1) (by omega) he (w01 t1)
    rw [r1, some_bind]
    simp only [unp]
    rw [r2, some_bind]
    simp only [unp]
    have : w2 = 0 := by
      rcases t2 with z2 | ⟨_, u1, u2, u3, _⟩
      · exact z2
      rcases t1 with z1 | ⟨_, s1, s2, s3, _⟩
      · rw [z1] at u1; exact absurd u1.symm n10
      · omega
    rw [if_pos this]
    exact ⟨_, rfl, rfl⟩
theorem mh93_2 {n e q2 : Nat} {f g : Nat → Int32} (hn : n ≤ 4096) (hg : Agr n f g) (he : e ≤ n) (FF : Int32) (a : Nat → Int32) {G : Nat} (z : Int32 × Int32 × Int32 × Int32 × Int32 × (Nat → Int32) × (Nat → Int32) × (Nat → Int32) × (Nat → Int32) × (Nat → Int32) × (Nat → Int32) × (Nat → Int32) × (Nat → Int32) × (Nat → Int32) × (Nat → Int32) → Option (Int32 × Int32 × Int32 × Int32 × (Nat → Int32) × (Nat → Int32) × (Nat → Int32) × (Nat → Int32) × (Nat → Int32) × (Nat → Int32) × (Nat → Int32) × (Nat → Int32) × (Nat → Int32) × (Nat → Int32))) (gi fl0 pt dx dy : Int32) (fl done dep prt cs ps x y on ct : Nat → Int32) (hq : q2 < 2 ^ 20) (w : Int32) (hw : w = 0 ∨ w = 1) : (w = 1 → q2 + hB fl0 ≤ e → P_Mo_composite_L2_93 FF (nI G) g a z gi fl0 pt dx dy (nI q2) (nI e) w fl done dep prt cs ps x y on ct = P_Mo_composite_L2_202 FF (nI G) g a z gi fl0 pt dx dy (hM f fl0 q2).1 (hM f fl0 q2).2.1 (hM f fl0 q2).2.2.1 (hM f fl0 q2).2.2.2 (nI (q2 + hB fl0)) (nI e) 1 fl done dep prt cs ps x y on ct) ∧ ((w = 0 ∨ e < q2 + hB fl0) → q2 ≤ e ∨ w = 0 → ∃ u, P_Mo_composite_L2_93 FF (nI G) g a z gi fl0 pt dx dy (nI q2) (nI e) w fl done dep prt cs ps x y on ct = some u ∧ u.1 = 0) := by
  have bad : ∀ (aa bb cc dd qq : Int32), ∃ u, P_Mo_composite_L2_202 FF (nI G) g a z gi fl0 pt dx dy aa bb cc dd qq (nI e) 0 fl done dep prt cs ps x y on ct = some u ∧ u.1 = 0 := by
    intro aa bb cc dd qq
    unfold P_Mo_composite_L2_202
    rw [if_pos rfl]
    exact ⟨_, rfl, rfl⟩
  unfold P_Mo_composite_L2_93 hB hM
  by_cases c8 : fl0 &&& (8 : Int32) = 0
  · by_cases c64 : fl0 &&& (64 : Int32) = 0
    · by_cases c128 : fl0 &&& (128 : Int32) = 0
      · simp only [c8, c64, c128, if_true]
        refine ⟨fun h1 h2 => by rw [h1]; rfl, fun h1 h2 => ?_⟩
        have : w = 0 := by rcases h1 with h1 | h1; exact h1; rcases h2 with h2 | h2; omega; exact h2
        rw [this]; exact bad _ _ _ _ _
      · simp only [c8, c64, c128, if_true, if_false]
        constructor
        · intro h1 h2
          rw [h1, mb2 hn hg (by omega) he, some_bind]
          simp only [unp]
          rw [mb2 hn hg (by omega) he, some_bind]
          simp only [unp]
          rw [mb2 hn hg (by omega) he, some_bind]
          simp only [unp]
          rw [mb2 hn hg (by omega) he, some_bind]
          rfl
        · intro h1 h2
          obtain ⟨v5, q5, w5, r5, b5, t5⟩ := mb2t hn hg (p := q2) (by omega) he hw
          obtain ⟨v6, q6, w6, r6, b6, t6⟩ := mb2t hn hg (p := q5) (by omega) he (w01 t5)
          obtain ⟨v7, q7, w7, r7, b7, t7⟩ := mb2t hn hg (p := q6) (by omega) he (w01 t6)
          obtain ⟨v8, q8, w8, r8, b8, t8⟩ := mb2t hn hg (p := q7) (by omega) he (w01 t7)
          rw [r5, some_bind]
          simp only [unp]
          rw [r6, some_bind]
          simp only [unp]
          rw [r7, some_bind]
          simp only [unp]
          rw [r8, some_bind]
          simp only [unp]
          have : w8 = 0 := by
            rcases t8 with z8 | ⟨_, y1, y2, y3, _⟩
            · exact z8
            rcases t7 with z7 | ⟨_, x1, x2, x3, _⟩
            · rw [z7] at y1; exact absurd y1.symm n10
            rcases t6 with z6 | ⟨_, u1, u2, u3, _⟩
            · rw [z6] at x1; exact absurd x1.symm n10
            rcases t5 with z5 | ⟨_, s1, s2, s3, _⟩
            · rw [z5] at u1; exact absurd u1.symm n10
            rcases h1 with h1 | h1
            · rw [h1] at s1; exact absurd s1.symm n10
            · omega
          rw [this]; exact bad _ _ _ _ _
    · simp only [c8, c64, if_true, if_false]
      constructor
      · intro h1 h2
        rw [h1, mb2 hn hg (by omega) he, some_bind]
        simp only [unp]
        rw [mb2 hn hg (by omega) he, some_bind]
        rfl
      · intro h1 h2
        obtain ⟨v5, q5, w5, r5, b5, t5⟩ := mb2t hn hg (p := q2) (by omega) he hw
        obtain ⟨v6, q6, w6, r6, b6, t6⟩ := mb2t hn hg (p := q5) (by omega) he (w01 t5)
        rw [r5, some_bind]
        simp only [unp]
        rw [r6, some_bind]
        simp only [unp]
        have : w6 = 0 := by
          rcases t6 with z6 | ⟨_, u1, u2, u3, _⟩
          · exact z6
          rcases t5 with z5 | ⟨_, s1, s2, s3, _⟩
          · rw [z5] at u1; exact absurd u1.symm n10
          rcases h1 with h1 | h1
          · rw [h1] at s1; exact absurd s1.symm n10
          · omega
        rw [this]; exact bad _ _ _ _ _
  · simp only [c8, if_false]
    constructor
    · intro h1 h2
      rw [h1, mb2 hn hg (by omega) he, some_bind]
      rfl
    · intro h1 h2
      obtain ⟨v5, q5, w5, r5, b5, t5⟩ := mb2t hn hg (p := q2) (by omega) he hw
      rw [r5, some_bind]
      simp only [unp]
      have : w5 = 0 := by
        rcases t5 with z5 | ⟨_, s1, s2, s3, _⟩
        · exact z5
        rcases h1 with h1 | h1
        · rw [h1] at s1; exact absurd s1.symm n10
        · omega
      rw [this]; exact bad _ _ _ _ _
theorem mhead_2 {n p e : Nat} {f g : Nat → Int32} (hn : n ≤ 4096) (hg : Agr n f g) (he : e ≤ n) (FF : Int32) (a : Nat → Int32) {G : Nat} (hG : G ≤ 64) (z : Int32 × Int32 × Int32 × Int32 × Int32 × (Nat → Int32) × (Nat → Int32) × (Nat → Int32) × (Nat → Int32) × (Nat → Int32) × (Nat → Int32) × (Nat → Int32) × (Nat → Int32) × (Nat → Int32) × (Nat → Int32) → Option (Int32 × Int32 × Int32 × Int32 × (Nat → Int32) × (Nat → Int32) × (Nat → Int32) × (Nat → Int32) × (Nat → Int32) × (Nat → Int32) × (Nat → Int32) × (Nat → Int32) × (Nat → Int32) × (Nat → Int32))) (gi : Int32) (fl done dep prt cs ps x y on ct : Nat → Int32) (hp : p ≤ e) : (hOk f p e G → P_Mo_composite_L2_3b FF (nI G) g a z gi 1 (nI p) (nI e) 1 fl done dep prt cs ps x y on ct = P_Mo_composite_L2_202 FF (nI G) g a z gi (hF f p) (nI (W2 f (p + 2))) (hDx f p) (hDy f p) (hQ f p).1 (hQ f p).2.1 (hQ f p).2.2.1 (hQ f p).2.2.2 (nI (p + hL (hF f p))) (nI e) 1 fl done dep prt cs ps x y on ct) ∧ (¬ hOk f p e G → ∃ u, P_Mo_composite_L2_3b FF (nI G) g a z gi 1 (nI p) (nI e) 1 fl done dep prt cs ps x y on ct = some u ∧ u.1 = 0) := by
  have hb := hL_b (hF f p)
  have bG := W2_lt f (p + 2)
  unfold P_Mo_composite_L2_3b P_Mo_composite_L2_69
  rw [if_neg n10]
  by_cases c0 : p + 4 ≤ e
  · rw [mb2 hn hg (by omega) he, some_bind]
    simp only [unp]
    rw [mb2 hn hg (by omega) he, some_bind]
    simp only [unp]
    rw [if_neg n10, show nI (W2 f p) = hF f p from rfl]
    by_cases c2 : hF f p &&& (2 : Int32) = 0
    · rw [if_pos c2]
      exact ⟨fun k => absurd c2 k.2.1, fun _ => ⟨_, rfl, rfl⟩⟩
    rw [if_neg c2]
    by_cases c3 : W2 f (p + 2) < G
    · rw [if_pos (nI_lt c3 (by omega))]
      unfold hDx hDy hQ
      by_cases c1 : hF f p &&& (1 : Int32) = 0
      · have eA : hA (hF f p) = 2 := by unfold hA; rw [if_pos c1]
        have eL : p + hL (hF f p) = p + 4 + 2 + hB (hF f p) := by unfold hL; omega
        simp only [c1, if_true, eA, eL]
        constructor
        · intro h
          have h4 : p + 4 + 2 + hB (hF f p) ≤ e := by have := h.1; omega
          rw [mb1 hn hg (by omega) he, some_bind]
          simp only [unp]
          rw [mb1 hn hg (by omega) he, some_bind]
          exact (mh93_2 (q2 := p + 4 + 2) hn hg he FF a z gi (hF f p) _ _ _ fl done dep prt cs ps x y on ct (by omega) 1 (Or.inr rfl)).1 rfl h4
        · intro h
          have h4 : e < p + 4 + 2 + hB (hF f p) := by
            rcases Nat.lt_or_ge e (p + 4 + 2 + hB (hF f p)) with k | k
            · exact k
            · exact absurd ⟨by omega, c2, c3⟩ h
          obtain ⟨v3, q3, w3, r3, b3, t3⟩ := mb1t hn hg (p := p + 2 + 2) (by omega) he (w := 1) (Or.inr rfl)
          obtain ⟨v4, q4, w4, r4, b4, t4⟩ := mb1t hn hg (p := q3) (by omega) he (w01 t3)
          rw [r3, some_bind]
          simp only [unp]
          rw [r4, some_bind]
          refine (mh93_2 (q2 := q4) hn hg he FF a z gi (hF f p) _ _ _ fl done dep prt cs ps x y on ct (by omega) w4 (w01 t4)).2 ?_ ?_
          · rcases t4 with z4 | ⟨_, u1, u2, u3, _⟩
            · exact Or.inl z4
            rcases t3 with z3 | ⟨_, s1, s2, s3, _⟩
            · rw [z3] at u1; exact absurd u1.symm n10
            · exact Or.inr (by omega)
          · rcases t4 with z4 | ⟨_, u1, u2, u3, _⟩
            · exact Or.inr z4
            · exact Or.inl u3
      · have eA : hA (hF f p) = 4 := by unfold hA; rw [if_neg c1]
        have eL : p + hL (hF f p) = p + 4 + 4 + hB (hF f p) := by unfold hL; omega
        simp only [c1, if_false, eA, eL]
        constructor
        · intro h
          have h4 : p + 4 + 4 + hB (hF f p) ≤ e := by have := h.1; omega
          rw [mb2 hn hg (by omega) he, some_bind]
          simp only [unp]
          rw [mb2 hn hg (by omega) he, some_bind]
          exact (mh93_2 (q2 := p + 4 + 4) hn hg he FF a z gi (hF f p) _ _ _ fl done dep prt cs ps x y on ct (by omega) 1 (Or.inr rfl)).1 rfl h4
        · intro h
          have h4 : e < p + 4 + 4 + hB (hF f p) := by
            rcases Nat.lt_or_ge e (p + 4 + 4 + hB (hF f p)) with k | k
            · exact k
            · exact absurd ⟨by omega, c2, c3⟩ h
          obtain ⟨v3, q3, w3, r3, b3, t3⟩ := mb2t hn hg (p := p + 2 + 2) (by omega) he (w := 1) (Or.inr rfl)
          obtain ⟨v4, q4, w4, r4, b4, t4⟩ := mb2t hn hg (p := q3) (by omega) he (w01 t3)
          rw [r3, some_bind]
          simp only [unp]
          rw [r4, some_bind]
          refine (mh93_2 (q2 := q4) hn hg he FF a z gi (hF f p) _ _ _ fl done dep prt cs ps x y on ct (by omega) w4 (w01 t4)).2 ?_ ?_
          · rcases t4 with z4 | ⟨_, u1, u2, u3, _⟩
            · exact Or.inl z4
            rcases t3 with z3 | ⟨_, s1, s2, s3, _⟩
            · rw [z3] at u1; exact absurd u1.symm n10
            · exact Or.inr (by omega)
          · rcases t4 with z4 | ⟨_, u1, u2, u3, _⟩
            · exact Or.inr z4
            · exact Or.inl u3
    · rw [if_neg (nI_nlt (by omega) (by omega))]
      exact ⟨fun k => absurd k.2.2 c3, fun _ => ⟨_, rfl, rfl⟩⟩
  · refine ⟨fun k => absurd k.1 (by omega), fun _ => ?_⟩
    obtain ⟨v1, q1, w1, r1, b1, t1⟩ := mb2t hn hg (p := p) (by omega) he (w := 1) (Or.inr rfl)
    obtain ⟨v2, q2, w2, r2, b2, t2⟩ := mb2t hn hg (p := q1) (by omega) he (w01 t1)
    rw [r1, some_bind]
    simp only [unp]
    rw [r2, some_bind]
    simp only [unp]
    have : w2 = 0 := by
      rcases t2 with z2 | ⟨_, u1, u2, u3, _⟩
      · exact z2
      rcases t1 with z1 | ⟨_, s1, s2, s3, _⟩
      · rw [z1] at u1; exact absurd u1.symm n10
      · omega
    rw [if_pos this]
    exact ⟨_, rfl, rfl⟩
theorem mh93_1 {n e q2 : Nat} {f g : Nat → Int32} (hn : n ≤ 4096) (hg : Agr n f g) (he : e ≤ n) (FF : Int32) (a : Nat → Int32) {G : Nat} (z : Int32 × Int32 × Int32 × Int32 × Int32 × (Nat → Int32) × (Nat → Int32) × (Nat → Int32) × (Nat → Int32) × (Nat → Int32) × (Nat → Int32) × (Nat → Int32) × (Nat → Int32) × (Nat → Int32) × (Nat → Int32) → Option (Int32 × Int32 × Int32 × Int32 × (Nat → Int32) × (Nat → Int32) × (Nat → Int32) × (Nat → Int32) × (Nat → Int32) × (Nat → Int32) × (Nat → Int32) × (Nat → Int32) × (Nat → Int32) × (Nat → Int32))) (gi fl0 pt dx dy : Int32) (fl done dep prt cs ps x y on ct : Nat → Int32) (hq : q2 < 2 ^ 20) (w : Int32) (hw : w = 0 ∨ w = 1) : (w = 1 → q2 + hB fl0 ≤ e → P_Mo_composite_L1_93 FF (nI G) g a z gi fl0 pt dx dy (nI q2) (nI e) w fl done dep prt cs ps x y on ct = P_Mo_composite_L1_202 FF (nI G) g a z gi fl0 pt dx dy (hM f fl0 q2).1 (hM f fl0 q2).2.1 (hM f fl0 q2).2.2.1 (hM f fl0 q2).2.2.2 (nI (q2 + hB fl0)) (nI e) 1 fl done dep prt cs ps x y on ct) ∧ ((w = 0 ∨ e < q2 + hB fl0) → q2 ≤ e ∨ w = 0 → ∃ u, P_Mo_composite_L1_93 FF (nI G) g a z gi fl0 pt dx dy (nI q2) (nI e) w fl done dep prt cs ps x y on ct = some u ∧ u.1 = 0) := by
  have bad : ∀ (aa bb cc dd qq : Int32), ∃ u, P_Mo_composite_L1_202 FF (nI G) g a z gi fl0 pt dx dy aa bb cc dd qq (nI e) 0 fl done dep prt cs ps x y on ct = some u ∧ u.1 = 0 := by
    intro aa bb cc dd qq
    unfold P_Mo_composite_L1_202
    rw [if_pos rfl]
    exact ⟨_, rfl, rfl⟩
  unfold P_Mo_composite_L1_93 hB hM
  by_cases c8 : fl0 &&& (8 : Int32) = 0
  · by_cases c64 : fl0 &&& (64 : Int32) = 0
    · by_cases c128 : fl0 &&& (128 : Int32) = 0
      · simp only [c8, c64, c128, if_true]
        refine ⟨fun h1 h2 => by rw [h1]; rfl, fun h1 h2 => ?_⟩
        have : w = 0 := by rcases h1 with h1 | h1; exact h1; rcases h2 with h2 | h2; omega; exact h2
        rw [this]; exact bad _ _ _ _ _
      · simp only [c8, c64, c128, if_true, if_false]
        constructor
        · intro h1 h2
          rw [h1, mb2 hn hg (by omega) he, some_bind]
          simp only [unp]
          rw [mb2 hn hg (by omega) he, some_bind]
          simp only [unp]
          rw [mb2 hn hg (by omega) he, some_bind]
          simp only [unp]
          rw [mb2 hn hg (by omega) he, some_bind]
          rfl
        · intro h1 h2
          obtain ⟨v5, q5, w5, r5, b5, t5⟩ := mb2t hn hg (p := q2) (by omega) he hw
          obtain ⟨v6, q6, w6, r6, b6, t6⟩ := mb2t hn hg (p := q5) (by omega) he (w01 t5)
          obtain ⟨v7, q7, w7, r7, b7, t7⟩ := mb2t hn hg (p := q6) (by omega) he (w01 t6)
          obtain ⟨v8, q8, w8, r8, b8, t8⟩ := mb2t hn hg (p := q7) (by omega) he (w01 t7)
          rw [r5, some_bind]
          simp only [unp]
          rw [r6, some_bind]
          simp only [unp]
          rw [r7, some_bind]
          simp only [unp]
          rw [r8, some_bind]
          simp only [unp]
          have : w8 = 0 := by
            rcases t8 with z8 | ⟨_, y1, y2, y3, _⟩
            · exact z8
            rcases t7 with z7 | ⟨_, x1, x2, x3, _⟩
            · rw [z7] at y1; exact absurd y1.symm n10
            rcases t6 with z6 | ⟨_, u1, u2, u3, _⟩
            · rw [z6] at x1; exact absurd x1.symm n10
            rcases t5 with z5 | ⟨_, s1, s2, s3, _⟩
            · rw [z5] at u1; exact absurd u1.symm n10
            rcases h1 with h1 | h1
            · rw [h1] at s1; exact absurd s1.symm n10
            · omega
          rw [this]; exact bad _ _ _ _ _
    · simp only [c8, c64, if_true, if_false]
      constructor
      · intro h1 h2
        rw [h1, mb2 hn hg (by omega) he, some_bind]
        simp only [unp]
        rw [mb2 hn hg (by omega) he, some_bind]
        rfl
      · intro h1 h2
        obtain ⟨v5, q5, w5, r5, b5, t5⟩ := mb2t hn hg (p := q2) (by omega) he hw
        obtain ⟨v6, q6, w6, r6, b6, t6⟩ := mb2t hn hg (p := q5) (by omega) he (w01 t5)
        rw [r5, some_bind]
        simp only [unp]
        rw [r6, some_bind]
        simp only [unp]
        have : w6 = 0 := by
          rcases t6 with z6 | ⟨_, u1, u2, u3, _⟩
          · exact z6
          rcases t5 with z5 | ⟨_, s1, s2, s3, _⟩
          · rw [z5] at u1; exact absurd u1.symm n10
          rcases h1 with h1 | h1
          · rw [h1] at s1; exact absurd s1.symm n10
          · omega
        rw [this]; exact bad _ _ _ _ _
  · simp only [c8, if_false]
    constructor
    · intro h1 h2
      rw [h1, mb2 hn hg (by omega) he, some_bind]
      rfl
    · intro h1 h2
      obtain ⟨v5, q5, w5, r5, b5, t5⟩ := mb2t hn hg (p := q2) (by omega) he hw
      rw [r5, some_bind]
      simp only [unp]
      have : w5 = 0 := by
        rcases t5 with z5 | ⟨_, s1, s2, s3, _⟩
        · exact z5
        rcases h1 with h1 | h1
        · rw [h1] at s1; exact absurd s1.symm n10
        · omega
      rw [this]; exact bad _ _ _ _ _
theorem mhead_1 {n p e : Nat} {f g : Nat → Int32} (hn : n ≤ 4096) (hg : Agr n f g) (he : e ≤ n) (FF : Int32) (a : Nat → Int32) {G : Nat} (hG : G ≤ 64) (z : Int32 × Int32 × Int32 × Int32 × Int32 × (Nat → Int32) × (Nat → Int32) × (Nat → Int32) × (Nat → Int32) × (Nat → Int32) × (Nat → Int32) × (Nat → Int32) × (Nat → Int32) × (Nat → Int32) × (Nat → Int32) → Option (Int32 × Int32 × Int32 × Int32 × (Nat → Int32) × (Nat → Int32) × (Nat → Int32) × (Nat → Int32) × (Nat → Int32) × (Nat → Int32) × (Nat → Int32) × (Nat → Int32) × (Nat → Int32) × (Nat → Int32))) (gi : Int32) (fl done dep prt cs ps x y on ct : Nat → Int32) (hp : p ≤ e) : (hOk f p e G → P_Mo_composite_L1_3b FF (nI G) g a z gi 1 (nI p) (nI e) 1 fl done dep prt cs ps x y on ct = P_Mo_composite_L1_202 FF (nI G) g a z gi (hF f p) (nI (W2 f (p + 2))) (hDx f p) (hDy f p) (hQ f p).1 (hQ f p).2.1 (hQ f p).2.2.1 (hQ f p).2.2.2 (nI (p + hL (hF f p))) (nI e) 1 fl done dep prt cs ps x y on ct) ∧ (¬ hOk f p e G → ∃ u, P_Mo_composite_L1_3b FF (nI G) g a z gi 1 (nI p) (nI e) 1 fl done dep prt cs ps x y on ct = some u ∧ u.1 = 0) := by
  have hb := hL_b (hF f p)
  have bG := W2_lt f (p + 2)
  unfold P_Mo_composite_L1_3b P_Mo_composite_L1_69
  rw [if_neg n10]
  by_cases c0 : p + 4 ≤ e
  · rw [mb2 hn hg (by omega) he, some_bind]
    simp only [unp]
    rw [mb2 hn hg (by omega) he, some_bind]
    simp only [unp]
    rw [if_neg n10, show nI (W2 f p) = hF f p from rfl]
    by_cases c2 : hF f p &&& (2 : Int32) = 0
    · rw [if_pos c2]
      exact ⟨fun k => absurd c2 k.2.1, fun _ => ⟨_, rfl, rfl⟩⟩
    rw [if_neg c2]
    by_cases c3 : W2 f (p + 2) < G
    · rw [if_pos (nI_lt c3 (by omega))]
      unfold hDx hDy hQ
      by_cases c1 : hF f p &&& (1 : Int32) = 0
      · have eA : hA (hF f p) = 2 := by unfold hA; rw [if_pos c1]
        have eL : p + hL (hF f p) = p + 4 + 2 + hB (hF f p) := by unfold hL; omega
        simp only [c1, if_true, eA, eL]
        constructor
        · intro h
          have h4 : p + 4 + 2 + hB (hF f p) ≤ e := by have := h.1; omega
          rw [mb1 hn hg (by omega) he, some_bind]
          simp only [unp]
          rw [mb1 hn hg (by omega) he, some_bind]
          exact (mh93_1 (q2 := p + 4 + 2) hn hg he FF a z gi (hF f p) _ _ _ fl done dep prt cs ps x y on ct (by omega) 1 (Or.inr rfl)).1 rfl h4
        · intro h
          have h4 : e < p + 4 + 2 + hB (hF f p) := by
            rcases Nat.lt_or_ge e (p + 4 + 2 + hB (hF f p)) with k | k
            · exact k
            · exact absurd ⟨by omega, c2, c3⟩ h
          obtain ⟨v3, q3, w3, r3, b3, t3⟩ := mb1t hn hg (p := p + 2 + 2) (by omega) he (w := 1) (Or.inr rfl)
          obtain ⟨v4, q4, w4, r4, b4, t4⟩ := mb1t hn hg (p := q3) (by omega) he (w01 t3)
          rw [r3, some_bind]
          simp only [unp]
          rw [r4, some_bind]
          refine (mh93_1 (q2 := q4) hn hg he FF a z gi (hF f p) _ _ _ fl done dep prt cs ps x y on ct (by omega) w4 (w01 t4)).2 ?_ ?_
          · rcases t4 with z4 | ⟨_, u1, u2, u3, _⟩
            · exact Or.inl z4
            rcases t3 with z3 | ⟨_, s1, s2, s3, _⟩
            · rw [z3] at u1; exact absurd u1.symm n10
            · exact Or.inr (by omega)
          · rcases t4 with z4 | ⟨_, u1, u2, u3, _⟩
            · exact Or.inr z4
            · exact Or.inl u3
      · have eA : hA (hF f p) = 4 := by unfold hA; rw [if_neg c1]
        have eL : p + hL (hF f p) = p + 4 + 4 + hB (hF f p) := by unfold hL; omega
        simp only [c1, if_false, eA, eL]
        constructor
        · intro h
          have h4 : p + 4 + 4 + hB (hF f p) ≤ e := by have := h.1; omega
          rw [mb2 hn hg (by omega) he, some_bind]
          simp only [unp]
          rw [mb2 hn hg (by omega) he, some_bind]
          exact (mh93_1 (q2 := p + 4 + 4) hn hg he FF a z gi (hF f p) _ _ _ fl done dep prt cs ps x y on ct (by omega) 1 (Or.inr rfl)).1 rfl h4
        · intro h
          have h4 : e < p + 4 + 4 + hB (hF f p) := by
            rcases Nat.lt_or_ge e (p + 4 + 4 + hB (hF f p)) with k | k
            · exact k
            · exact absurd ⟨by omega, c2, c3⟩ h
          obtain ⟨v3, q3, w3, r3, b3, t3⟩ := mb2t hn hg (p := p + 2 + 2) (by omega) he (w := 1) (Or.inr rfl)
          obtain ⟨v4, q4, w4, r4, b4, t4⟩ := mb2t hn hg (p := q3) (by omega) he (w01 t3)
          rw [r3, some_bind]
          simp only [unp]
          rw [r4, some_bind]
          refine (mh93_1 (q2 := q4) hn hg he FF a z gi (hF f p) _ _ _ fl done dep prt cs ps x y on ct (by omega) w4 (w01 t4)).2 ?_ ?_
          · rcases t4 with z4 | ⟨_, u1, u2, u3, _⟩
            · exact Or.inl z4
            rcases t3 with z3 | ⟨_, s1, s2, s3, _⟩
            · rw [z3] at u1; exact absurd u1.symm n10
            · exact Or.inr (by omega)
          · rcases t4 with z4 | ⟨_, u1, u2, u3, _⟩
            · exact Or.inr z4
            · exact Or.inl u3
    · rw [if_neg (nI_nlt (by omega) (by omega))]
      exact ⟨fun k => absurd k.2.2 c3, fun _ => ⟨_, rfl, rfl⟩⟩
  · refine ⟨fun k => absurd k.1 (by omega), fun _ => ?_⟩
    obtain ⟨v1, q1, w1, r1, b1, t1⟩ := mb2t hn hg (p := p) (by omega) he (w := 1) (Or.inr rfl)
    obtain ⟨v2, q2, w2, r2, b2, t2⟩ := mb2t hn hg (p := q1) (by omega) he (w01 t1)
    rw [r1, some_bind]
    simp only [unp]
    rw [r2, some_bind]
    simp only [unp]
    have : w2 = 0 := by
      rcases t2 with z2 | ⟨_, u1, u2, u3, _⟩
      · exact z2
      rcases t1 with z1 | ⟨_, s1, s2, s3, _⟩
      · rw [z1] at u1; exact absurd u1.symm n10
      · omega
    rw [if_pos this]
    exact ⟨_, rfl, rfl⟩
theorem mh93_0 {n e q2 : Nat} {f g : Nat → Int32} (hn : n ≤ 4096) (hg : Agr n f g) (he : e ≤ n) (FF : Int32) (a : Nat → Int32) {G : Nat} (z : Int32 × Int32 × Int32 × Int32 × Int32 × (Nat → Int32) × (Nat → Int32) × (Nat → Int32) × (Nat → Int32) × (Nat → Int32) × (Nat → Int32) × (Nat → Int32) × (Nat → Int32) × (Nat → Int32) × (Nat → Int32) → Option (Int32 × Int32 × Int32 × Int32 × (Nat → Int32) × (Nat → Int32) × (Nat → Int32) × (Nat → Int32) × (Nat → Int32) × (Nat → Int32) × (Nat → Int32) × (Nat → Int32) × (Nat → Int32) × (Nat → Int32))) (gi fl0 pt dx dy : Int32) (fl done dep prt cs ps x y on ct : Nat → Int32) (hq : q2 < 2 ^ 20) (w : Int32) (hw : w = 0 ∨ w = 1) : (w = 1 → q2 + hB fl0 ≤ e → P_Mo_composite_L0_93 FF (nI G) g a z gi fl0 pt dx dy (nI q2) (nI e) w fl done dep prt cs ps x y on ct = P_Mo_composite_L0_202 FF (nI G) g a z gi fl0 pt dx dy (hM f fl0 q2).1 (hM f fl0 q2).2.1 (hM f fl0 q2).2.2.1 (hM f fl0 q2).2.2.2 (nI (q2 + hB fl0)) (nI e) 1 fl done dep prt cs ps x y on ct) ∧ ((w = 0 ∨ e < q2 + hB fl0) → q2 ≤ e ∨ w = 0 → ∃ u, P_Mo_composite_L0_93 FF (nI G) g a z gi fl0 pt dx dy (nI q2) (nI e) w fl done dep prt cs ps x y on ct = some u ∧ u.1 = 0) := by
  have bad : ∀ (aa bb cc dd qq : Int32), ∃ u, P_Mo_composite_L0_202 FF (nI G) g a z gi fl0 pt dx dy aa bb cc dd qq (nI e) 0 fl done dep prt cs ps x y on ct = some u ∧ u.1 = 0 := by
    intro aa bb cc dd qq
    unfold P_Mo_composite_L0_202
    rw [if_pos rfl]
    exact ⟨_, rfl, rfl⟩
  unfold P_Mo_composite_L0_93 hB hM
  by_cases c8 : fl0 &&& (8 : Int32) = 0
  · by_cases c64 : fl0 &&& (64 : Int32) = 0
    · by_cases c128 : fl0 &&& (128 : Int32) = 0
      · simp only [c8, c64, c128, if_true]
        refine ⟨fun h1 h2 => by rw [h1]; rfl, fun h1 h2 => ?_⟩
        have : w = 0 := by rcases h1 with h1 | h1; exact h1; rcases h2 with h2 | h2; omega; exact h2
        rw [this]; exact bad _ _ _ _ _
      · simp only [c8, c64, c128, if_true, if_false]
        constructor
        · intro h1 h2
          rw [h1, mb2 hn hg (by omega) he, some_bind]
          simp only [unp]
          rw [mb2 hn hg (by omega) he, some_bind]
          simp only [unp]
          rw [mb2 hn hg (by omega) he, some_bind]
          simp only [unp]
          rw [mb2 hn hg (by omega) he, some_bind]
          rfl
        · intro h1 h2
          obtain ⟨v5, q5, w5, r5, b5, t5⟩ := mb2t hn hg (p := q2) (by omega) he hw
          obtain ⟨v6, q6, w6, r6, b6, t6⟩ := mb2t hn hg (p := q5) (by omega) he (w01 t5)
          obtain ⟨v7, q7, w7, r7, b7, t7⟩ := mb2t hn hg (p := q6) (by omega) he (w01 t6)
          obtain ⟨v8, q8, w8, r8, b8, t8⟩ := mb2t hn hg (p := q7) (by omega) he (w01 t7)
          rw [r5, some_bind]
          simp only [unp]
          rw [r6, some_bind]
          simp only [unp]
          rw [r7, some_bind]
          simp only [unp]
          rw [r8, some_bind]
          simp only [unp]
          have : w8 = 0 := by
            rcases t8 with z8 | ⟨_, y1, y2, y3, _⟩
            · exact z8
            rcases t7 with z7 | ⟨_, x1, x2, x3, _⟩
            · rw [z7] at y1; exact absurd y1.symm n10
            rcases t6 with z6 | ⟨_, u1, u2, u3, _⟩
            · rw [z6] at x1; exact absurd x1.symm n10
            rcases t5 with z5 | ⟨_, s1, s2, s3, _⟩
            · rw [z5] at u1; exact absurd u1.symm n10
            rcases h1 with h1 | h1
            · rw [h1] at s1; exact absurd s1.symm n10
            · omega
          rw [this]; exact bad _ _ _ _ _
    · simp only [c8, c64, if_true, if_false]
      constructor
      · intro h1 h2
        rw [h1, mb2 hn hg (by omega) he, some_bind]
        simp only [unp]
        rw [mb2 hn hg (by omega) he, some_bind]
        rfl
      · intro h1 h2
        obtain ⟨v5, q5, w5, r5, b5, t5⟩ := mb2t hn hg (p := q2) (by omega) he hw
        obtain ⟨v6, q6, w6, r6, b6, t6⟩ := mb2t hn hg (p := q5) (by omega) he (w01 t5)
        rw [r5, some_bind]
        simp only [unp]
        rw [r6, some_bind]
        simp only [unp]
        have : w6 = 0 := by
          rcases t6 with z6 | ⟨_, u1, u2, u3, _⟩
          · exact z6
          rcases t5 with z5 | ⟨_, s1, s2, s3, _⟩
          · rw [z5] at u1; exact absurd u1.symm n10
          rcases h1 with h1 | h1
          · rw [h1] at s1; exact absurd s1.symm n10
          · omega
        rw [this]; exact bad _ _ _ _ _
  · simp only [c8, if_false]
    constructor
    · intro h1 h2
      rw [h1, mb2 hn hg (by omega) he, some_bind]
      rfl
    · intro h1 h2
      obtain ⟨v5, q5, w5, r5, b5, t5⟩ := mb2t hn hg (p := q2) (by omega) he hw
      rw [r5, some_bind]
      simp only [unp]
      have : w5 = 0 := by
        rcases t5 with z5 | ⟨_, s1, s2, s3, _⟩
        · exact z5
        rcases h1 with h1 | h1
        · rw [h1] at s1; exact absurd s1.symm n10
        · omega
      rw [this]; exact bad _ _ _ _ _
theorem mhead_0 {n p e : Nat} {f g : Nat → Int32} (hn : n ≤ 4096) (hg : Agr n f g) (he : e ≤ n) (FF : Int32) (a : Nat → Int32) {G : Nat} (hG : G ≤ 64) (z : Int32 × Int32 × Int32 × Int32 × Int32 × (Nat → Int32) × (Nat → Int32) × (Nat → Int32) × (Nat → Int32) × (Nat → Int32) × (Nat → Int32) × (Nat → Int32) × (Nat → Int32) × (Nat → Int32) × (Nat → Int32) → Option (Int32 × Int32 × Int32 × Int32 × (Nat → Int32) × (Nat → Int32) × (Nat → Int32) × (Nat → Int32) × (Nat → Int32) × (Nat → Int32) × (Nat → Int32) × (Nat → Int32) × (Nat → Int32) × (Nat → Int32))) (gi : Int32) (fl done dep prt cs ps x y on ct : Nat → Int32) (hp : p ≤ e) : (hOk f p e G → P_Mo_composite_L0_3b FF (nI G) g a z gi 1 (nI p) (nI e) 1 fl done dep prt cs ps x y on ct = P_Mo_composite_L0_202 FF (nI G) g a z gi (hF f p) (nI (W2 f (p + 2))) (hDx f p) (hDy f p) (hQ f p).1 (hQ f p).2.1 (hQ f p).2.2.1 (hQ f p).2.2.2 (nI (p + hL (hF f p))) (nI e) 1 fl done dep prt cs ps x y on ct) ∧ (¬ hOk f p e G → ∃ u, P_Mo_composite_L0_3b FF (nI G) g a z gi 1 (nI p) (nI e) 1 fl done dep prt cs ps x y on ct = some u ∧ u.1 = 0) := by
  have hb := hL_b (hF f p)
  have bG := W2_lt f (p + 2)
  unfold P_Mo_composite_L0_3b P_Mo_composite_L0_69
  rw [if_neg n10]
  by_cases c0 : p + 4 ≤ e
  · rw [mb2 hn hg (by omega) he, some_bind]
    simp only [unp]
    rw [mb2 hn hg (by omega) he, some_bind]
    simp only [unp]
    rw [if_neg n10, show nI (W2 f p) = hF f p from rfl]
    by_cases c2 : hF f p &&& (2 : Int32) = 0
    · rw [if_pos c2]
      exact ⟨fun k => absurd c2 k.2.1, fun _ => ⟨_, rfl, rfl⟩⟩
    rw [if_neg c2]
    by_cases c3 : W2 f (p + 2) < G
    · rw [if_pos (nI_lt c3 (by omega))]
      unfold hDx hDy hQ
      by_cases c1 : hF f p &&& (1 : Int32) = 0
      · have eA : hA (hF f p) = 2 := by unfold hA; rw [if_pos c1]
        have eL : p + hL (hF f p) = p + 4 + 2 + hB (hF f p) := by unfold hL; omega
        simp only [c1, if_true, eA, eL]
        constructor
        · intro h
          have h4 : p + 4 + 2 + hB (hF f p) ≤ e := by have := h.1; omega
          rw [mb1 hn hg (by omega) he, some_bind]
          simp only [unp]
          rw [mb1 hn hg (by omega) he, some_bind]
          exact (mh93_0 (q2 := p + 4 + 2) hn hg he FF a z gi (hF f p) _ _ _ fl done dep prt cs ps x y on ct (by omega) 1 (Or.inr rfl)).1 rfl h4
        · intro h
          have h4 : e < p + 4 + 2 + hB (hF f p) := by
            rcases Nat.lt_or_ge e (p + 4 + 2 + hB (hF f p)) with k | k
            · exact k
            · exact absurd ⟨by omega, c2, c3⟩ h
          obtain ⟨v3, q3, w3, r3, b3, t3⟩ := mb1t hn hg (p := p + 2 + 2) (by omega) he (w := 1) (Or.inr rfl)
          obtain ⟨v4, q4, w4, r4, b4, t4⟩ := mb1t hn hg (p := q3) (by omega) he (w01 t3)
          rw [r3, some_bind]
          simp only [unp]
          rw [r4, some_bind]
          refine (mh93_0 (q2 := q4) hn hg he FF a z gi (hF f p) _ _ _ fl done dep prt cs ps x y on ct (by omega) w4 (w01 t4)).2 ?_ ?_
          · rcases t4 with z4 | ⟨_, u1, u2, u3, _⟩
            · exact Or.inl z4
            rcases t3 with z3 | ⟨_, s1, s2, s3, _⟩
            · rw [z3] at u1; exact absurd u1.symm n10
            · exact Or.inr (by omega)
          · rcases t4 with z4 | ⟨_, u1, u2, u3, _⟩
            · exact Or.inr z4
            · exact Or.inl u3
      · have eA : hA (hF f p) = 4 := by unfold hA; rw [if_neg c1]
        have eL : p + hL (hF f p) = p + 4 + 4 + hB (hF f p) := by unfold hL; omega
        simp only [c1, if_false, eA, eL]
        constructor
        · intro h
          have h4 : p + 4 + 4 + hB (hF f p) ≤ e := by have := h.1; omega
          rw [mb2 hn hg (by omega) he, some_bind]
          simp only [unp]
          rw [mb2 hn hg (by omega) he, some_bind]
          exact (mh93_0 (q2 := p + 4 + 4) hn hg he FF a z gi (hF f p) _ _ _ fl done dep prt cs ps x y on ct (by omega) 1 (Or.inr rfl)).1 rfl h4
        · intro h
          have h4 : e < p + 4 + 4 + hB (hF f p) := by
            rcases Nat.lt_or_ge e (p + 4 + 4 + hB (hF f p)) with k | k
            · exact k
            · exact absurd ⟨by omega, c2, c3⟩ h
          obtain ⟨v3, q3, w3, r3, b3, t3⟩ := mb2t hn hg (p := p + 2 + 2) (by omega) he (w := 1) (Or.inr rfl)
          obtain ⟨v4, q4, w4, r4, b4, t4⟩ := mb2t hn hg (p := q3) (by omega) he (w01 t3)
          rw [r3, some_bind]
          simp only [unp]
          rw [r4, some_bind]
          refine (mh93_0 (q2 := q4) hn hg he FF a z gi (hF f p) _ _ _ fl done dep prt cs ps x y on ct (by omega) w4 (w01 t4)).2 ?_ ?_
          · rcases t4 with z4 | ⟨_, u1, u2, u3, _⟩
            · exact Or.inl z4
            rcases t3 with z3 | ⟨_, s1, s2, s3, _⟩
            · rw [z3] at u1; exact absurd u1.symm n10
            · exact Or.inr (by omega)
          · rcases t4 with z4 | ⟨_, u1, u2, u3, _⟩
            · exact Or.inr z4
            · exact Or.inl u3
    · rw [if_neg (nI_nlt (by omega) (by omega))]
      exact ⟨fun k => absurd k.2.2 c3, fun _ => ⟨_, rfl, rfl⟩⟩
  · refine ⟨fun k => absurd k.1 (by omega), fun _ => ?_⟩
    obtain ⟨v1, q1, w1, r1, b1, t1⟩ := mb2t hn hg (p := p) (by omega) he (w := 1) (Or.inr rfl)
    obtain ⟨v2, q2, w2, r2, b2, t2⟩ := mb2t hn hg (p := q1) (by omega) he (w01 t1)
    rw [r1, some_bind]
    simp only [unp]
    rw [r2, some_bind]
    simp only [unp]
    have : w2 = 0 := by
      rcases t2 with z2 | ⟨_, u1, u2, u3, _⟩
      · exact z2
      rcases t1 with z1 | ⟨_, s1, s2, s3, _⟩
      · rw [z1] at u1; exact absurd u1.symm n10
      · omega
    rw [if_pos this]
    exact ⟨_, rfl, rfl⟩
