/-! PURE ROWS: the flags of a simple glyph -/
def fillF (F : Nat → Int32) (k r : Nat) (b : Int32) : Nat → Int32 := fun j => if k ≤ j ∧ j < k + r then b else F j
def flS (f : Nat → Int32) (e cnt : Nat) : Nat → Nat → Nat → (Nat → Int32) → Option ((Nat → Int32) × Nat)
  | 0, _, q, F => some (F, q)
  | d + 1, k, q, F => if cnt ≤ k then some (F, q) else if q < e then
      (if nI (By f q) &&& (8 : Int32) = 0 then flS f e cnt d (k + 1) (q + 1) (fillF F k 1 (nI (By f q)))
       else if q + 1 < e then (if k + By f (q + 1) < cnt then flS f e cnt d (k + By f (q + 1) + 1) (q + 2) (fillF F k (By f (q + 1) + 1) (nI (By f q))) else none) else none)
    else none
theorem flS_q {f : Nat → Int32} {e cnt : Nat} : ∀ (d k q : Nat) (F F' : Nat → Int32) (q' : Nat), flS f e cnt d k q F = some (F', q') → q ≤ e → q' ≤ e := by
  intro d
  induction d with
  | zero => intro k q F F' q' h hq; cases h; exact hq
  | succ d ih =>
    intro k q F F' q' h hq
    unfold flS at h
    split at h
    · cases h; exact hq
    · split at h
      · split at h
        · exact ih _ _ _ _ _ h (by omega)
        · split at h
          · split at h
            · exact ih _ _ _ _ _ h (by omega)
            · cases h
          · cases h
      · cases h
theorem flS_congr {f : Nat → Int32} {e cnt : Nat} : ∀ (d k q : Nat) (F G : Nat → Int32), cnt ≤ k + d → (∀ j, j < k → F j = G j) → (∀ F' q', flS f e cnt d k q F = some (F', q') → ∃ G', flS f e cnt d k q G = some (G', q') ∧ ∀ j, j < cnt → F' j = G' j) ∧ (flS f e cnt d k q F = none → flS f e cnt d k q G = none) := by
  intro d
  induction d with
  | zero =>
    intro k q F G hk h
    refine ⟨fun F' q' e => ?_, fun e => (by cases e)⟩
    cases e
    exact ⟨G, rfl, fun j hj => h j (by omega)⟩
  | succ d ih =>
    intro k q F G hk h
    have hf : ∀ r b, ∀ j, j < k + r → fillF F k r b j = fillF G k r b j := by
      intro r b j hj
      unfold fillF
      split
      · rfl
      · exact h j (by omega)
    unfold flS
    by_cases c1 : cnt ≤ k
    · rw [if_pos c1, if_pos c1]
      refine ⟨fun F' q' e => ?_, fun e => (by cases e)⟩
      cases e
      exact ⟨G, rfl, fun j hj => h j (by omega)⟩
    rw [if_neg c1, if_neg c1]
    by_cases c2 : q < e
    · rw [if_pos c2, if_pos c2]
      by_cases c3 : nI (By f q) &&& (8 : Int32) = 0
      · rw [if_pos c3, if_pos c3]
        exact ih _ _ _ _ (by omega) (hf 1 _)
      · rw [if_neg c3, if_neg c3]
        by_cases c4 : q + 1 < e
        · rw [if_pos c4, if_pos c4]
          by_cases c5 : k + By f (q + 1) < cnt
          · rw [if_pos c5, if_pos c5]
            exact ih _ _ _ _ (by omega) (fun j hj => hf _ _ j (by omega))
          · rw [if_neg c5, if_neg c5]; exact ⟨fun _ _ e => (by cases e), fun _ => rfl⟩
        · rw [if_neg c4, if_neg c4]; exact ⟨fun _ _ e => (by cases e), fun _ => rfl⟩
    · rw [if_neg c2, if_neg c2]; exact ⟨fun _ _ e => (by cases e), fun _ => rfl⟩
theorem axS_congr {f : Nat → Int32} {e : Nat} {sb mb : Int32} {F G : Nat → Int32} {q0 cnt : Nat} (h : ∀ j, j < cnt → F j = G j) : ∀ k, k ≤ cnt → axS f e sb mb F q0 k = axS f e sb mb G q0 k := by
  intro k
  induction k with
  | zero => intro _; rfl
  | succ k ih =>
    intro hk
    unfold axS
    rw [ih (by omega), h k (by omega)]
theorem fill_m {e : Nat} {g : Nat → Int32} (z141 : Int32 × Int32 × Int32 × Int32 × Int32 × Int32 × Int32 × (Nat → Int32) × (Nat → Int32) × (Nat → Int32) × (Nat → Int32) × (Nat → Int32) × (Nat → Int32) × (Nat → Int32) → Option (Int32 × Int32 × Int32 × (Nat → Int32) × (Nat → Int32) × (Nat → Int32) × (Nat → Int32) × (Nat → Int32) × (Nat → Int32) × (Nat → Int32))) (x2 x3 x5 x7 b at_ gd : Int32) (cs ps x y on ct : Nat → Int32) {a : Nat} (ha : a < 256) : ∀ (r i m k : Nat) (F : Nat → Int32), i + r = a + 1 → r < m → k + r ≤ 256 → ∃ F', lp (L_Mo_simple_196 (nI e) g z141) m (x2, x3, x5, x7, nI k, b, nI a, nI i, at_, gd, F, cs, ps, x, y, on, ct) = z141 (x2, x3, x5, x7, nI (k + r), at_, gd, F', cs, ps, x, y, on, ct) ∧ ∀ j, F' j = fillF F k r b j := by
  intro r
  induction r with
  | zero =>
    intro i m k F hi hm hk
    obtain ⟨m, rfl⟩ := suc_of hm
    refine ⟨F, ?_, fun j => ?_⟩
    · rw [e_Mo_simple_196]
      unfold P_Mo_simple_196b
      rw [if_pos (nI_lt (by omega) (by omega))]
      rfl
    · unfold fillF
      rw [if_neg (by omega)]
  | succ r ih =>
    intro i m k F hi hm hk
    obtain ⟨m, rfl⟩ := suc_of hm
    obtain ⟨F', e1, e2⟩ := ih (i + 1) m (k + 1) (upd F k b) (by omega) (by omega) (by omega)
    refine ⟨F', ?_, fun j => ?_⟩
    · rw [e_Mo_simple_196]
      unfold P_Mo_simple_196b
      rw [if_neg (nI_nlt (by omega) (by omega)), bdI (by omega) (by omega), nI_clamp (by omega), nI_1, nI_1, e1, show k + 1 + r = k + (r + 1) by omega]
    · rw [e2]
      unfold fillF
      by_cases c : j = k
      · rw [c, pk_us, if_neg (by omega), if_pos (by omega)]
      · rw [pk_un c]
        by_cases c2 : k + 1 ≤ j ∧ j < k + 1 + r
        · rw [if_pos c2, if_pos (by omega)]
        · rw [if_neg c2, if_neg (by omega)]
theorem fl_m {n e : Nat} {f g : Nat → Int32} (hn : n ≤ 4096) (hg : Agr n f g) (he : e ≤ n) {cnt : Nat} (hc : cnt ≤ 128) (gi nn base : Int32) (cs ps x y on ct : Nat → Int32) : ∀ (d k m q : Nat) (F : Nat → Int32), cnt ≤ k + d → k ≤ cnt → d < m → q ≤ e → (∃ F' q', flS f e cnt d k q F = some (F', q') ∧ lp (L_Mo_simple_141 (nI e) g) m (gi, nn, base, nI cnt, nI k, nI q, 1, F, cs, ps, x, y, on, ct) = P_Mo_simple_230 (nI e) g gi nn base (nI cnt) 0 0 (nI q') 1 F' cs ps x y on ct) ∨ (flS f e cnt d k q F = none ∧ ∃ u, lp (L_Mo_simple_141 (nI e) g) m (gi, nn, base, nI cnt, nI k, nI q, 1, F, cs, ps, x, y, on, ct) = some u ∧ u.1 = 0) := by
  intro d
  induction d with
  | zero =>
    intro k m q F hk hk2 hm hq
    obtain ⟨m, rfl⟩ := suc_of hm
    refine Or.inl ⟨F, q, rfl, ?_⟩
    rw [e_Mo_simple_141]
    unfold P_Mo_simple_141b
    rw [if_pos (nI_le (by omega) (by omega))]
  | succ d ih =>
    intro k m q F hk hk2 hm hq
    obtain ⟨m, rfl⟩ := suc_of hm
    rw [e_Mo_simple_141]
    unfold P_Mo_simple_141b flS
    by_cases c1 : cnt ≤ k
    · rw [if_pos (nI_le c1 (by omega)), if_pos c1]
      exact Or.inl ⟨F, q, rfl, rfl⟩
    rw [if_neg (nI_ge (by omega) (by omega)), if_neg c1]
    have fin : ∀ a q1 : Nat, a < 256 → q1 ≤ e → (k + a < cnt → (∃ F' q', flS f e cnt d (k + a + 1) q1 (fillF F k (a + 1) (nI (By f q))) = some (F', q') ∧ P_Mo_simple_172 (nI e) g (lp (L_Mo_simple_141 (nI e) g) m) gi nn base (nI cnt) (nI k) (nI (By f q)) (nI a) (nI q1) 1 F cs ps x y on ct = P_Mo_simple_230 (nI e) g gi nn base (nI cnt) 0 0 (nI q') 1 F' cs ps x y on ct) ∨ (flS f e cnt d (k + a + 1) q1 (fillF F k (a + 1) (nI (By f q))) = none ∧ ∃ u, P_Mo_simple_172 (nI e) g (lp (L_Mo_simple_141 (nI e) g) m) gi nn base (nI cnt) (nI k) (nI (By f q)) (nI a) (nI q1) 1 F cs ps x y on ct = some u ∧ u.1 = 0)) ∧ (¬ k + a < cnt → ∃ u, P_Mo_simple_172 (nI e) g (lp (L_Mo_simple_141 (nI e) g) m) gi nn base (nI cnt) (nI k) (nI (By f q)) (nI a) (nI q1) 1 F cs ps x y on ct = some u ∧ u.1 = 0) := by
      intro a q1 ha hq1
      unfold P_Mo_simple_172
      rw [if_neg (show ¬ (1 : Int32) = 0 by decide), nI_add]
      constructor
      · intro c5
        rw [if_pos (nI_lt c5 (by omega))]
        obtain ⟨F1, e1, e2⟩ := fill_m (e := e) (g := g) (lp (L_Mo_simple_141 (nI e) g) m) gi nn base (nI cnt) (nI (By f q)) (nI q1) 1 cs ps x y on ct ha (a + 1) 0 fuel k F (by omega) (by unfold fuel; omega) (by omega)
        have e2' : F1 = fillF F k (a + 1) (nI (By f q)) := funext e2
        subst e2'
        have e1 : P_Mo_simple_196 (nI e) g (lp (L_Mo_simple_141 (nI e) g) m) gi nn base (nI cnt) (nI k) (nI (By f q)) (nI a) 0 (nI q1) 1 F cs ps x y on ct = _ := e1
        rw [e1]
        exact ih (k + a + 1) m q1 _ (by omega) (by omega) (by omega) hq1
      · intro c5
        rw [if_neg (nI_nlt (by omega) (by omega))]
        exact ⟨_, rfl, rfl⟩
    by_cases c2 : q < e
    · rw [if_pos c2, mb1 hn hg c2 he]
      show (∃ F' q', _ ∧ (if nI (By f q) &&& (8 : Int32) = 0 then _ else _) = _) ∨ (_ ∧ ∃ u, (if nI (By f q) &&& (8 : Int32) = 0 then _ else _) = _ ∧ _)
      by_cases c3 : nI (By f q) &&& (8 : Int32) = 0
      · rw [if_pos c3, if_pos c3]
        exact (fin 0 (q + 1) (by omega) (by omega)).1 (by omega)
      · rw [if_neg c3, if_neg c3]
        by_cases c4 : q + 1 < e
        · rw [if_pos c4, mb1 hn hg c4 he]
          have ba := By_lt f (q + 1)
          have fa := fin (By f (q + 1)) (q + 2) ba (by omega)
          by_cases c5 : k + By f (q + 1) < cnt
          · rw [if_pos c5]
            exact fa.1 c5
          · rw [if_neg c5]
            exact Or.inr ⟨rfl, fa.2 c5⟩
        · rw [if_neg c4, mb1n (by omega) (by omega)]
          refine Or.inr ⟨rfl, ?_⟩
          unfold P_Mo_simple_172
          exact ⟨_, rfl, rfl⟩
    · rw [if_neg c2, mb1n (by omega) (by omega)]
      refine Or.inr ⟨rfl, ?_⟩
      rw [some_bind]
      simp only [unp]
      rw [if_pos (by decide)]
      unfold P_Mo_simple_172
      exact ⟨_, if_pos rfl, rfl⟩
