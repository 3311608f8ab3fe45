/-! PURE ROWS: the flags of a simple glyph, as the class reads them -/
theorem p50 {first k : Nat} (hk : k < 128) (hf : first + k < 256) (pts e : Int32) (f : Nat → Int32) (z8 : Int32 × Int32 × Int32 × Int32 × (Nat → Int32) × (Nat → Int32) × Int32 × Int32 → Option (Int32 × (Nat → Int32) × (Nat → Int32) × Int32 × Int32)) (ag b q w : Int32) (on F : Nat → Int32) : P_Sh_readFlags_50 pts e f z8 (nI first) ag b (nI (first + k)) on F q w = z8 (nI first, ag, b, nI (first + (k + 1)), upd on (first + k) (ob b), upd F k b, q, w) := by
  unfold P_Sh_readFlags_50 P_Sh_readFlags_79 ob
  rw [pk_sub (by omega), show first + k - first = k by omega, bdI (by omega) (by omega), bdI (by omega) (by omega), bdI (by omega) (by omega), nI_clamp (by omega), nI_clamp (by omega), nI_1]
  by_cases c : b &&& (1 : Int32) = 0
  · rw [if_pos c, if_pos c]; rfl
  · rw [if_neg c, if_neg c]; rfl
theorem fl_safe {cnt first e : Nat} (hc : cnt ≤ 128) (hf : first + cnt ≤ 256) (he : e ≤ 4096) (f : Nat → Int32) : ∀ (d k m q r0 : Nat) (b w : Int32) (on F : Nat → Int32), k + d = cnt → d < m → r0 < 2 ^ 20 → q + 2 * d < 2 ^ 30 → ∃ r on' F' q' w', lp (L_Sh_readFlags_8 (nI (first + cnt)) (nI e) f) m (nI first, nI r0, b, nI (first + k), on, F, nI q, w) = some (r, on', F', nI q', w') ∧ (r = 0 ∨ r = 1) ∧ q' ≤ q + 2 * d ∧ (w' = w ∨ w' = 0) := by
  intro d
  induction d with
  | zero =>
    intro k m q r0 b w on F hk hm hr hq
    obtain ⟨m, rfl⟩ := suc_of hm
    rw [e_Sh_readFlags_8]
    unfold P_Sh_readFlags_8b
    rw [if_pos (nI_le (by omega) (by omega))]
    by_cases c : nI r0 = 0
    · rw [if_pos c]; exact ⟨1, on, F, q, w, rfl, Or.inr rfl, by omega, Or.inl rfl⟩
    · rw [if_neg c]; exact ⟨0, on, F, q, w, rfl, Or.inl rfl, by omega, Or.inl rfl⟩
  | succ d ih =>
    intro k m q r0 b w on F hk hm hr hq
    obtain ⟨m, rfl⟩ := suc_of hm
    have go : ∀ (ag q1 : Nat) (b1 w1 : Int32), ag < 2 ^ 20 → q1 ≤ q + 2 → (w1 = w ∨ w1 = 0) → ∃ r on' F' q' w', P_Sh_readFlags_50 (nI (first + cnt)) (nI e) f (lp (L_Sh_readFlags_8 (nI (first + cnt)) (nI e) f) m) (nI first) (nI ag) b1 (nI (first + k)) on F (nI q1) w1 = some (r, on', F', nI q', w') ∧ (r = 0 ∨ r = 1) ∧ q' ≤ q + 2 * (d + 1) ∧ (w' = w ∨ w' = 0) := by
      intro ag q1 b1 w1 hag hq1 hw1
      rw [p50 (by omega) (by omega)]
      obtain ⟨r, on', F', q', w', e1, e2, e3, e4⟩ := ih (k + 1) m q1 ag b1 w1 (upd on (first + k) (ob b1)) (upd F k b1) (by omega) (by omega) hag (by omega)
      refine ⟨r, on', F', q', w', e1, e2, by omega, ?_⟩
      rcases e4 with e4 | e4
      · rw [e4]; exact hw1
      · exact Or.inr e4
    rw [e_Sh_readFlags_8]
    unfold P_Sh_readFlags_8b P_Sh_readFlags_49
    rw [if_neg (nI_ge (by omega) (by omega))]
    by_cases c : r0 = 0
    · rw [c, if_pos (by decide)]
      obtain ⟨v1, q1, w1, h1, h2, h3, h4⟩ := rd1s (p := q) (by omega) he w f
      rw [h3, some_bind]
      simp only [unp]
      by_cases c8 : nI v1 &&& (8 : Int32) = 0
      · rw [if_pos c8]
        exact go 0 q1 _ w1 (by omega) (by omega) h4
      · rw [if_neg c8]
        obtain ⟨v2, q2, w2, k1, k2, k3, k4⟩ := rd1s (p := q1) (by omega) he w1 f
        rw [k3, some_bind]
        simp only [unp]
        refine go v2 q2 _ w2 (by omega) (by omega) ?_
        rcases k4 with k4 | k4
        · rw [k4]; exact h4
        · exact Or.inr k4
    · rw [if_neg (nI_nle (by omega) (by omega)), show nI r0 + (-1 : Int32) = nI (r0 - 1) from (by
        obtain ⟨s, rfl⟩ : ∃ s, r0 = s + 1 := ⟨r0 - 1, by omega⟩
        exact pk_m1 s)]
      exact go (r0 - 1) q b w (by omega) (by omega) (Or.inl rfl)
/-- a flag that stands r times more -/
theorem fl_run {cnt first e : Nat} (hc : cnt ≤ 128) (hf : first + cnt ≤ 256) (f : Nat → Int32) (b q w : Int32) : ∀ (r k m : Nat) (on F : Nat → Int32), r < 2 ^ 20 → k ≤ cnt → (k + r ≤ cnt → ∃ on', (∀ m', lp (L_Sh_readFlags_8 (nI (first + cnt)) (nI e) f) (m' + r) (nI first, nI r, b, nI (first + k), on, F, q, w) = lp (L_Sh_readFlags_8 (nI (first + cnt)) (nI e) f) m' (nI first, nI 0, b, nI (first + (k + r)), on', fillF F k r b, q, w)) ∧ (∀ j, k ≤ j → j < k + r → on' (first + j) = ob b) ∧ ∀ j, (j < first + k ∨ first + k + r ≤ j) → on' j = on j) ∧ (cnt < k + r → cnt - k < m → ∃ on' F', lp (L_Sh_readFlags_8 (nI (first + cnt)) (nI e) f) m (nI first, nI r, b, nI (first + k), on, F, q, w) = some (0, on', F', q, w)) := by
  intro r
  induction r with
  | zero =>
    intro k m on F hr hk
    refine ⟨fun _ => ⟨on, fun m' => ?_, fun j h1 h2 => absurd h2 (by omega), fun j _ => rfl⟩, fun h => absurd h (by omega)⟩
    have : fillF F k 0 b = F := funext fun j => by unfold fillF; rw [if_neg (by omega)]
    rw [this]
    rfl
  | succ r ih =>
    intro k m on F hr hk
    have stp : ∀ mm, k < cnt → lp (L_Sh_readFlags_8 (nI (first + cnt)) (nI e) f) (mm + 1) (nI first, nI (r + 1), b, nI (first + k), on, F, q, w) = lp (L_Sh_readFlags_8 (nI (first + cnt)) (nI e) f) mm (nI first, nI r, b, nI (first + (k + 1)), upd on (first + k) (ob b), upd F k b, q, w) := by
      intro mm hlt
      rw [e_Sh_readFlags_8]
      unfold P_Sh_readFlags_8b
      rw [if_neg (nI_ge (by omega) (by omega)), if_neg (nI_nle (by omega) (by omega)), pk_m1, p50 (by omega) (by omega)]
    constructor
    · intro h
      obtain ⟨on', e1, e2, e3⟩ := (ih (k + 1) m (upd on (first + k) (ob b)) (upd F k b) (by omega) (by omega)).1 (by omega)
      refine ⟨on', fun m' => ?_, fun j h1 h2 => ?_, fun j hj => ?_⟩
      · rw [show m' + (r + 1) = (m' + r) + 1 by omega, stp _ (by omega), e1, show k + 1 + r = k + (r + 1) by omega]
        have : fillF (upd F k b) (k + 1) r b = fillF F k (r + 1) b := funext fun j => by
          unfold fillF
          by_cases c : j = k
          · rw [c, pk_us, if_neg (by omega), if_pos (by omega)]
          · rw [pk_un c]
            by_cases c2 : k + 1 ≤ j ∧ j < k + 1 + r
            · rw [if_pos c2, if_pos (by omega)]
            · rw [if_neg c2, if_neg (by omega)]
        rw [this]
      · rcases Nat.lt_or_ge k j with w' | w'
        · exact e2 j w' (by omega)
        · rw [show j = k by omega, e3 _ (Or.inl (by omega)), pk_us]
      · rw [e3 j (by omega), pk_un (by omega)]
    · intro h hm
      obtain ⟨m, rfl⟩ := suc_of hm
      by_cases c : k = cnt
      · rw [e_Sh_readFlags_8]
        unfold P_Sh_readFlags_8b
        rw [if_pos (nI_le (by omega) (by omega)), if_neg (nI_ne0 (by omega) (by omega))]
        exact ⟨on, F, rfl⟩
      · rw [stp _ (by omega)]
        exact (ih (k + 1) m (upd on (first + k) (ob b)) (upd F k b) (by omega) (by omega)).2 (by omega) (by omega)
theorem fl_f {cnt first e : Nat} (hc : cnt ≤ 128) (hf : first + cnt ≤ 256) (he : e ≤ 4096) (f : Nat → Int32) : ∀ (d k m q : Nat) (b : Int32) (on F : Nat → Int32), cnt ≤ k + d → k ≤ cnt → 2 * 128 + 2 < m + k → q ≤ e → (∃ on' F' q', flS f e cnt d k q F = some (F', q') ∧ lp (L_Sh_readFlags_8 (nI (first + cnt)) (nI e) f) m (nI first, 0, b, nI (first + k), on, F, nI q, 1) = some (1, on', F', nI q', 1) ∧ (∀ j, k ≤ j → j < cnt → on' (first + j) = ob (F' j)) ∧ (∀ j, j < k → F' j = F j) ∧ ∀ j, (j < first + k ∨ first + cnt ≤ j) → on' j = on j) ∨ (flS f e cnt d k q F = none ∧ ∃ r on' F' q' w', lp (L_Sh_readFlags_8 (nI (first + cnt)) (nI e) f) m (nI first, 0, b, nI (first + k), on, F, nI q, 1) = some (r, on', F', nI q', w') ∧ (r = 0 ∨ r = 1) ∧ q' < 2 ^ 20 ∧ (w' = 0 ∨ w' = 1) ∧ (r = 0 ∨ w' = 0)) := by
  intro d
  induction d with
  | zero =>
    intro k m q b on F hk hk2 hm hq
    obtain ⟨m, rfl⟩ := suc_of (d := 0) (m := m) (by omega)
    refine Or.inl ⟨on, F, q, rfl, ?_, fun j h1 h2 => absurd h2 (by omega), fun j _ => rfl, fun j _ => rfl⟩
    rw [e_Sh_readFlags_8]
    unfold P_Sh_readFlags_8b
    rw [if_pos (nI_le (by omega) (by omega)), if_pos rfl]
  | succ d ih =>
    intro k m q b on F hk hk2 hm hq
    obtain ⟨m, rfl⟩ := suc_of (d := 0) (m := m) (by omega)
    rw [e_Sh_readFlags_8]
    unfold P_Sh_readFlags_8b P_Sh_readFlags_49 flS
    by_cases c1 : cnt ≤ k
    · rw [if_pos (nI_le (by omega) (by omega)), if_pos rfl, if_pos c1]
      exact Or.inl ⟨on, F, q, rfl, rfl, fun j h1 h2 => absurd h2 (by omega), fun j _ => rfl, fun j _ => rfl⟩
    rw [if_neg (nI_ge (by omega) (by omega)), if_neg c1, if_pos (show (0 : Int32) ≤ 0 by decide)]
    have low : ∀ (v w : Int32) (q1 ag : Nat) , ag < 256 → q1 ≤ e + 2 → (w = 0) → ∃ r on' F' q' w', P_Sh_readFlags_50 (nI (first + cnt)) (nI e) f (lp (L_Sh_readFlags_8 (nI (first + cnt)) (nI e) f) m) (nI first) (nI ag) v (nI (first + k)) on F (nI q1) w = some (r, on', F', nI q', w') ∧ (r = 0 ∨ r = 1) ∧ q' < 2 ^ 20 ∧ (w' = 0 ∨ w' = 1) ∧ (r = 0 ∨ w' = 0) := by
      intro v w q1 ag hag hq1 hw
      rw [p50 (by omega) (by omega)]
      obtain ⟨r, on', F', q', w', e1, e2, e3, e4⟩ := fl_safe hc hf he f (cnt - (k + 1)) (k + 1) m q1 ag v w (upd on (first + k) (ob v)) (upd F k v) (by omega) (by omega) (by omega) (by omega)
      have e5 : w' = 0 := by rcases e4 with e4 | e4; rw [e4]; exact hw; exact e4
      exact ⟨r, on', F', q', w', e1, e2, by omega, Or.inl e5, Or.inr e5⟩
    have run : ∀ (a q1 : Nat) (v : Int32), a < 256 → q1 ≤ e → (k + a < cnt → (∃ on' F' q', flS f e cnt d (k + a + 1) q1 (fillF F k (a + 1) v) = some (F', q') ∧ P_Sh_readFlags_50 (nI (first + cnt)) (nI e) f (lp (L_Sh_readFlags_8 (nI (first + cnt)) (nI e) f) m) (nI first) (nI a) v (nI (first + k)) on F (nI q1) 1 = some (1, on', F', nI q', 1) ∧ (∀ j, k ≤ j → j < cnt → on' (first + j) = ob (F' j)) ∧ (∀ j, j < k → F' j = F j) ∧ ∀ j, (j < first + k ∨ first + cnt ≤ j) → on' j = on j) ∨ (flS f e cnt d (k + a + 1) q1 (fillF F k (a + 1) v) = none ∧ ∃ r on' F' q' w', P_Sh_readFlags_50 (nI (first + cnt)) (nI e) f (lp (L_Sh_readFlags_8 (nI (first + cnt)) (nI e) f) m) (nI first) (nI a) v (nI (first + k)) on F (nI q1) 1 = some (r, on', F', nI q', w') ∧ (r = 0 ∨ r = 1) ∧ q' < 2 ^ 20 ∧ (w' = 0 ∨ w' = 1) ∧ (r = 0 ∨ w' = 0))) ∧ (¬ k + a < cnt → ∃ r on' F' q' w', P_Sh_readFlags_50 (nI (first + cnt)) (nI e) f (lp (L_Sh_readFlags_8 (nI (first + cnt)) (nI e) f) m) (nI first) (nI a) v (nI (first + k)) on F (nI q1) 1 = some (r, on', F', nI q', w') ∧ (r = 0 ∨ r = 1) ∧ q' < 2 ^ 20 ∧ (w' = 0 ∨ w' = 1) ∧ (r = 0 ∨ w' = 0)) := by
      intro a q1 v ha hq1
      rw [p50 (by omega) (by omega)]
      obtain ⟨g1, g2⟩ := fl_run (e := e) hc hf f v (nI q1) 1 a (k + 1) m (upd on (first + k) (ob v)) (upd F k v) (by omega) (by omega)
      have hfill : fillF (upd F k v) (k + 1) a v = fillF F k (a + 1) v := funext fun j => by
        unfold fillF
        by_cases c : j = k
        · rw [c, pk_us, if_neg (by omega), if_pos (by omega)]
        · rw [pk_un c]
          by_cases c2 : k + 1 ≤ j ∧ j < k + 1 + a
          · rw [if_pos c2, if_pos (by omega)]
          · rw [if_neg c2, if_neg (by omega)]
      constructor
      · intro h
        obtain ⟨on1, e1, e2, e3⟩ := g1 (by omega)
        have e1' := e1 (m - a)
        rw [show m - a + a = m by omega, hfill, show k + 1 + a = k + a + 1 by omega] at e1'
        rw [e1']
        rcases ih (k + a + 1) (m - a) q1 v on1 (fillF F k (a + 1) v) (by omega) (by omega) (by omega) hq1 with ⟨on', F', q', i1, i2, i3, i4, i5⟩ | ⟨i1, i2⟩
        · refine Or.inl ⟨on', F', q', i1, i2, fun j h1 h2 => ?_, fun j hj => ?_, fun j hj => ?_⟩
          · rcases Nat.lt_or_ge j (k + a + 1) with w | w
            · rw [i4 j w]
              have : fillF F k (a + 1) v j = v := by unfold fillF; rw [if_pos (by omega)]
              rw [this, i5 _ (Or.inl (by omega))]
              rcases Nat.lt_or_ge k j with w2 | w2
              · exact e2 j w2 (by omega)
              · rw [show j = k by omega, e3 _ (Or.inl (by omega)), pk_us]
            · exact i3 j w h2
          · rw [i4 j (by omega)]
            unfold fillF
            rw [if_neg (by omega)]
          · rw [i5 j (by omega), e3 j (by omega), pk_un (by omega)]
        · exact Or.inr ⟨i1, i2⟩
      · intro h
        obtain ⟨on', F', e1⟩ := g2 (by omega) (by omega)
        exact ⟨0, on', F', q1, 1, e1, Or.inl rfl, by omega, Or.inr rfl, Or.inl rfl⟩
    by_cases c2 : q < e
    · rw [if_pos c2, rd1 c2 he, some_bind]
      simp only [unp]
      by_cases c3 : nI (By f q) &&& (8 : Int32) = 0
      · rw [if_pos c3, if_pos c3]
        exact (run 0 (q + 1) _ (by omega) (by omega)).1 (by omega)
      · rw [if_neg c3, if_neg c3]
        by_cases c4 : q + 1 < e
        · rw [if_pos c4, rd1 c4 he, some_bind]
          simp only [unp]
          have ba := By_lt f (q + 1)
          have fa := run (By f (q + 1)) (q + 2) (nI (By f q)) ba (by omega)
          by_cases c5 : k + By f (q + 1) < cnt
          · rw [if_pos c5]
            exact fa.1 c5
          · rw [if_neg c5]
            exact Or.inr ⟨rfl, fa.2 c5⟩
        · rw [if_neg c4, rd1n (by omega) (by omega), some_bind]
          simp only [unp]
          exact Or.inr ⟨trivial, low _ 0 (q + 1) 0 (by omega) (by omega) rfl⟩
    · rw [if_neg c2, rd1n (by omega) (by omega), some_bind]
      simp only [unp]
      rw [if_pos (by decide)]
      exact Or.inr ⟨trivial, low _ 0 q 0 (by omega) (by omega) rfl⟩
