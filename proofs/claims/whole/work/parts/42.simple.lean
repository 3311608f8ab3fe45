/-! PURE ROWS: a simple glyph, as the reference reads it -/
def enC (f : Nat → Int32) (p e n : Nat) : Prop := ∀ i, i < n → p + 2 * i + 1 < e ∧ W2 f (p + 2 * i) < 128 ∧ (1 ≤ i → W2 f (p + 2 * (i - 1)) < W2 f (p + 2 * i))
def cntOf (f : Nat → Int32) (p n : Nat) : Nat := match n with
  | 0 => 0
  | n + 1 => W2 f (p + 2 * n) + 1
theorem cnt0 (f : Nat → Int32) (p : Nat) : cntOf f p 0 = 0 := rfl
theorem cntS (f : Nat → Int32) (p n : Nat) : cntOf f p (n + 1) = W2 f (p + 2 * n) + 1 := rfl
def skC (f : Nat → Int32) (p e n : Nat) : Prop := p + 2 * n + 1 < e ∧ p + 2 * n + 2 + W2 f (p + 2 * n) ≤ e
theorem cnt_last (f : Nat → Int32) (p n : Nat) : nI (cntOf f p n) - 1 + 1 = nI (cntOf f p n) := by
  cases n with
  | zero => show nI 0 - 1 + 1 = nI 0; decide
  | succ n => rw [show nI (cntOf f p (n + 1)) - 1 = nI (W2 f (p + 2 * n)) from nI_pred _, nI_1]; rfl
theorem cnt_le {f : Nat → Int32} {p e n : Nat} (h : enC f p e n) : cntOf f p n ≤ 128 := by
  cases n with
  | zero => exact Nat.zero_le _
  | succ n => exact (h n (by omega)).2.1
theorem cnt_lt {f : Nat → Int32} {p e n : Nat} (h : enC f p e n) {i : Nat} (hi : i < n) : cntOf f p i ≤ W2 f (p + 2 * i) := by
  cases i with
  | zero => exact Nat.zero_le _
  | succ i => exact (h (i + 1) hi).2.2 (by omega)
theorem le_last {a t : Nat} (ha : a < 2 ^ 30) (ht : t < 2 ^ 30) : nI t ≤ nI a - 1 ↔ t < a := by
  cases a with
  | zero =>
    rw [show nI 0 - 1 = (-1 : Int32) from by decide, Int32.le_iff_toInt_le, nI_toInt (by omega), show (-1 : Int32).toInt = -1 from by decide]
    omega
  | succ a => rw [nI_pred, nI_leI (by omega) (by omega)]; omega
/-- contour c's points carry its number, for all contours below n -/
def CtI (E : Nat → Nat) (n : Nat) (ct : Nat → Int32) (base : Nat) (off : Nat) : Prop := ∀ i, i < n → ∀ k, (1 ≤ i → E (i - 1) < k) → k ≤ E i → ct (base + k) = nI (off + i)
theorem ct_fill {e : Nat} {g : Nat → Int32} (z13 : Int32 × Int32 × Int32 × Int32 × Int32 × Int32 × Int32 × (Nat → Int32) × (Nat → Int32) × (Nat → Int32) × (Nat → Int32) × (Nat → Int32) × (Nat → Int32) × (Nat → Int32) → Option (Int32 × Int32 × Int32 × (Nat → Int32) × (Nat → Int32) × (Nat → Int32) × (Nat → Int32) × (Nat → Int32) × (Nat → Int32) × (Nat → Int32))) (x2 x3 x6 at_ gd : Int32) (F cs ps x y on : Nat → Int32) {gi t : Nat} (hgi : gi < 64) (ht : t < 128) : ∀ (d k m : Nat) (ct : Nat → Int32), k + d = t + 1 → d < m → ∃ ct', lp (L_Mo_simple_56 (nI e) g z13) m (x2, x3, nI (256 * gi), x6, nI t, nI k, at_, gd, F, cs, ps, x, y, on, ct) = z13 (x2, x3, nI t, nI (256 * gi), x6 + 1, at_, gd, F, cs, ps, x, y, on, ct') ∧ (∀ j, k ≤ j → j ≤ t → ct' (256 * gi + j) = x6) ∧ ∀ j, (j < 256 * gi + k ∨ 256 * gi + t < j) → ct' j = ct j := by
  intro d
  induction d with
  | zero =>
    intro k m ct hk hm
    obtain ⟨m, rfl⟩ := suc_of hm
    refine ⟨ct, ?_, fun j h1 h2 => absurd h2 (by omega), fun j _ => rfl⟩
    rw [e_Mo_simple_56]
    unfold P_Mo_simple_56b
    rw [if_pos (nI_lt (by omega) (by omega))]
  | succ d ih =>
    intro k m ct hk hm
    obtain ⟨m, rfl⟩ := suc_of hm
    obtain ⟨ct', e1, e2, e3⟩ := ih (k + 1) m (upd ct (256 * gi + k) x6) (by omega) (by omega)
    refine ⟨ct', ?_, fun j h1 h2 => ?_, fun j h => ?_⟩
    · rw [e_Mo_simple_56]
      unfold P_Mo_simple_56b
      rw [if_neg (nI_nlt (by omega) (by omega)), nI_add, bdI (by omega) (by omega), nI_clamp (by omega), nI_1]
      exact e1
    · rcases Nat.lt_or_ge k j with w | w
      · exact e2 j w h2
      · rw [show j = k by omega, e3 _ (Or.inl (by omega)), pk_us]
    · rw [e3 j (by omega), pk_un (by omega)]
theorem ends_m {n0 e : Nat} {f g : Nat → Int32} (hn : n0 ≤ 4096) (hg : Agr n0 f g) (he : e ≤ n0) {p n gi : Nat} (hgi : gi < 64) (hp : p ≤ e) (hnn : n ≤ 16) (F cs ps x y on : Nat → Int32) : ∀ (d c m : Nat) (ct : Nat → Int32), c + d = n → d < m → enC f p e c → CtI (fun i => W2 f (p + 2 * i)) c ct (256 * gi) 0 → (enC f p e n ∧ skC f p e n ∧ ∃ ct', lp (L_Mo_simple_13 (nI e) g) m (nI gi, nI n, nI (cntOf f p c) - 1, nI (256 * gi), nI c, nI (p + 2 * c), 1, F, cs, ps, x, y, on, ct) = P_Mo_simple_141 (nI e) g (nI gi) (nI n) (nI (256 * gi)) (nI (cntOf f p n)) 0 (nI (p + 2 * n + 2 + W2 f (p + 2 * n))) 1 F cs ps x y on ct' ∧ CtI (fun i => W2 f (p + 2 * i)) n ct' (256 * gi) 0 ∧ ∀ j, (j < 256 * gi ∨ 256 * gi + cntOf f p n ≤ j) → ct' j = ct j) ∨ (¬ (enC f p e n ∧ skC f p e n) ∧ ∃ u, lp (L_Mo_simple_13 (nI e) g) m (nI gi, nI n, nI (cntOf f p c) - 1, nI (256 * gi), nI c, nI (p + 2 * c), 1, F, cs, ps, x, y, on, ct) = some u ∧ u.1 = 0) := by
  intro d
  induction d with
  | zero =>
    intro c m ct hc hm hE hct
    obtain ⟨m, rfl⟩ := suc_of hm
    have : c = n := by omega
    subst this
    rw [e_Mo_simple_13]
    unfold P_Mo_simple_13b
    rw [if_pos (nI_le (by omega) (by omega))]
    unfold skC
    by_cases c1 : p + 2 * c + 1 < e
    · rw [mb2 hn hg c1 he]
      have b := W2_lt f (p + 2 * c)
      rw [some_bind]
      simp only [unp]
      rw [if_neg (show ¬ (1 : Int32) = 0 by decide), nI_add, cnt_last]
      by_cases c2 : p + 2 * c + 2 + W2 f (p + 2 * c) ≤ e
      · rw [if_pos (nI_le c2 (by omega))]
        exact Or.inl ⟨hE, ⟨c1, c2⟩, ct, rfl, hct, fun j _ => rfl⟩
      · rw [if_neg (nI_ge (by omega) (by omega))]
        exact Or.inr ⟨fun q => c2 q.2.2, _, rfl, rfl⟩
    · obtain ⟨v, q, h1, h2⟩ := mb2n hn hg (p := p + 2 * c) (by omega) (by omega) he 1
      rw [h2]
      exact Or.inr ⟨fun q => c1 q.2.1, _, rfl, rfl⟩
  | succ d ih =>
    intro c m ct hc hm hE hct
    obtain ⟨m, rfl⟩ := suc_of hm
    rw [e_Mo_simple_13]
    unfold P_Mo_simple_13b
    rw [if_neg (nI_ge (by omega) (by omega))]
    by_cases c1 : p + 2 * c + 1 < e
    · rw [mb2 hn hg c1 he]
      have b := W2_lt f (p + 2 * c)
      have bc := cnt_le hE
      rw [some_bind]
      simp only [unp]
      rw [if_neg (show ¬ (1 : Int32) = 0 by decide), cnt_last]
      by_cases c2 : W2 f (p + 2 * c) < cntOf f p c
      · rw [if_pos ((le_last (by omega) (by omega)).mpr c2)]
        refine Or.inr ⟨fun q => ?_, _, rfl, rfl⟩
        have := (q.1 c (by omega)).2.2
        cases c with
        | zero => exact absurd c2 (by rw [cnt0]; omega)
        | succ c =>
          have := this (by omega)
          simp only [Nat.add_sub_cancel] at this
          rw [cntS] at c2
          omega
      · rw [if_neg (fun q => c2 ((le_last (by omega) (by omega)).mp q)), show (128 : Int32) = nI 128 from rfl]
        by_cases c3 : W2 f (p + 2 * c) < 128
        · rw [if_pos (nI_lt c3 (by omega))]
          obtain ⟨ct1, e1, e2, e3⟩ := ct_fill (e := e) (g := g) (lp (L_Mo_simple_13 (nI e) g) m) (nI gi) (nI n) (nI c) (nI (p + 2 * c + 2)) 1 F cs ps x y on hgi c3 (W2 f (p + 2 * c) + 1 - cntOf f p c) (cntOf f p c) fuel ct (by omega) (by unfold fuel; omega)
          have e1 : P_Mo_simple_56 (nI e) g (lp (L_Mo_simple_13 (nI e) g) m) (nI gi) (nI n) (nI (256 * gi)) (nI c) (nI (W2 f (p + 2 * c))) (nI (cntOf f p c)) (nI (p + 2 * c + 2)) 1 F cs ps x y on ct = _ := e1
          rw [e1, nI_1]
          have hE' : enC f p e (c + 1) := by
            intro i hi
            rcases Nat.lt_or_ge i c with w | w
            · exact hE i w
            · have : i = c := by omega
              subst this
              refine ⟨c1, c3, fun w1 => ?_⟩
              cases i with
              | zero => omega
              | succ i =>
                rw [cntS] at c2
                simp only [Nat.add_sub_cancel]
                omega
          have hct' : CtI (fun i => W2 f (p + 2 * i)) (c + 1) ct1 (256 * gi) 0 := by
            intro i hi k k1 k2
            rcases Nat.lt_or_ge i c with w | w
            · have hlt : W2 f (p + 2 * i) < cntOf f p c := by
                have mono : ∀ a, i + a < c → W2 f (p + 2 * i) ≤ W2 f (p + 2 * (i + a)) := by
                  intro a
                  induction a with
                  | zero => intro _; exact Nat.le_refl _
                  | succ a iha =>
                    intro ha
                    have q1 := iha (by omega)
                    have q2 := (hE (i + (a + 1)) (by omega)).2.2 (by omega)
                    rw [show i + (a + 1) - 1 = i + a by omega] at q2
                    omega
                have := mono (c - 1 - i) (by omega)
                rw [show i + (c - 1 - i) = c - 1 by omega] at this
                cases c with
                | zero => omega
                | succ c => rw [cntS]; simp only [Nat.add_sub_cancel] at this; omega
              have hk2 : k ≤ W2 f (p + 2 * i) := k2
              rw [e3 _ (Or.inl (by omega))]
              exact hct i w k k1 k2
            · have : i = c := by omega
              subst this
              have hk2 : k ≤ W2 f (p + 2 * i) := k2
              rw [Nat.zero_add]
              apply e2 k _ hk2
              cases i with
              | zero => exact Nat.zero_le _
              | succ i => exact k1 (by omega)
          have ev : nI (W2 f (p + 2 * c)) = nI (cntOf f p (c + 1)) - 1 := (nI_pred _).symm
          rw [ev, show p + 2 * c + 2 = p + 2 * (c + 1) by omega]
          rcases ih (c + 1) m ct1 (by omega) (by omega) hE' hct' with ⟨h1, h2, ct', h3, h4, h5⟩ | h
          · refine Or.inl ⟨h1, h2, ct', h3, h4, fun j hj => ?_⟩
            rw [h5 j hj]
            apply e3
            rcases hj with hj | hj
            · exact Or.inl (by omega)
            · have q1 := cnt_lt h1 (show c < n by omega)
              refine Or.inr ?_
              have mono : ∀ a, c + a < n → W2 f (p + 2 * c) ≤ W2 f (p + 2 * (c + a)) := by
                intro a
                induction a with
                | zero => intro _; exact Nat.le_refl _
                | succ a iha =>
                  intro ha
                  have q1 := iha (by omega)
                  have q2 := (h1 (c + (a + 1)) (by omega)).2.2 (by omega)
                  rw [show c + (a + 1) - 1 = c + a by omega] at q2
                  omega
              have := mono (n - 1 - c) (by omega)
              rw [show c + (n - 1 - c) = n - 1 by omega] at this
              have hcn : cntOf f p n = W2 f (p + 2 * (n - 1)) + 1 := by
                cases n with
                | zero => omega
                | succ n => rfl
              omega
          · exact Or.inr h
        · rw [if_neg (nI_nlt (by omega) (by omega))]
          exact Or.inr ⟨fun q => c3 (q.1 c (by omega)).2.1, _, rfl, rfl⟩
    · obtain ⟨v, q, h1, h2⟩ := mb2n hn hg (p := p + 2 * c) (by omega) (by omega) he 1
      rw [h2]
      exact Or.inr ⟨fun q => c1 (q.1 c (by omega)).1, _, rfl, rfl⟩
