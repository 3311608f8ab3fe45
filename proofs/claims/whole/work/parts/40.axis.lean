/-! PURE ROWS: reading a glyph's bytes; the axes of a simple glyph -/
theorem rd1 {p e : Nat} (hp : p < e) (he : e ≤ 4096) (w : Int32) (f : Nat → Int32) : P_Rd_one (nI p) (nI e) w f = some (nI (By f p), nI (p + 1), w) := by
  unfold P_Rd_one
  rw [if_pos (nI_lt hp (by omega)), bdI (by omega) (by omega), nI_clamp (by omega), By_and, nI_1]
theorem rd1n {p e : Nat} (hp : e ≤ p) (hp2 : p < 2 ^ 30) (w : Int32) (f : Nat → Int32) : P_Rd_one (nI p) (nI e) w f = some (0, nI p, 0) := by
  unfold P_Rd_one
  rw [if_neg (nI_nlt hp (by omega))]
theorem rd2 {p e : Nat} (hp : p + 1 < e) (he : e ≤ 4096) (w : Int32) (f : Nat → Int32) : P_Rd_two (nI p) (nI e) w f = some (nI (W2 f p), nI (p + 2), w) := by
  unfold P_Rd_two
  rw [nI_1, if_pos (nI_lt hp (by omega)), show nI p + (2 : Int32) = nI (p + 2) from nI_add p 2, show nI (p + 2) - (2 : Int32) = nI p from (pk_sub (a := p + 2) (b := 2) (by omega)).trans (by rw [Nat.add_sub_cancel]), show nI (p + 2) - (1 : Int32) = nI (p + 1) from (pk_sub (a := p + 2) (b := 1) (by omega)), bdI (by omega) (by omega), bdI (by omega) (by omega), nI_clamp (by omega), nI_clamp (by omega), w2_val]
theorem rd2n {p e : Nat} (hp : e ≤ p + 1) (hp2 : p < 2 ^ 30) (w : Int32) (f : Nat → Int32) : P_Rd_two (nI p) (nI e) w f = some (0, nI p, 0) := by
  unfold P_Rd_two
  rw [nI_1, if_neg (nI_nlt hp (by omega))]
/-- whatever is read: the place stays one, and what was not whole stays so -/
theorem rd1s {p e : Nat} (hp : p < 2 ^ 30) (he : e ≤ 4096) (w : Int32) (f : Nat → Int32) : ∃ (v q : Nat) (w' : Int32), v < 256 ∧ q ≤ p + 1 ∧ P_Rd_one (nI p) (nI e) w f = some (nI v, nI q, w') ∧ (w' = w ∨ w' = 0) := by
  rcases Nat.lt_or_ge p e with h | h
  · exact ⟨_, _, w, By_lt f p, by omega, rd1 h he w f, Or.inl rfl⟩
  · exact ⟨0, p, 0, by omega, by omega, rd1n h hp w f, Or.inr rfl⟩
theorem rd2s {p e : Nat} (hp : p < 2 ^ 30) (he : e ≤ 4096) (w : Int32) (f : Nat → Int32) : ∃ (v q : Nat) (w' : Int32), v < 65536 ∧ q ≤ p + 2 ∧ P_Rd_two (nI p) (nI e) w f = some (nI v, nI q, w') ∧ (w' = w ∨ w' = 0) := by
  rcases Nat.lt_or_ge (p + 1) e with h | h
  · exact ⟨_, _, w, W2_lt f p, by omega, rd2 h he w f, Or.inl rfl⟩
  · exact ⟨0, p, 0, by omega, by omega, rd2n h hp w f, Or.inr rfl⟩
theorem mb1 {n p e : Nat} {f g : Nat → Int32} (hn : n ≤ 4096) (hg : Agr n f g) (hp : p < e) (he : e ≤ n) (w : Int32) : P_Mo_byteHere (nI p) (nI e) w g = some (nI (By f p), nI (p + 1), w) := by
  unfold P_Mo_byteHere
  rw [if_pos (nI_lt hp (by omega)), nI_1, nI_pred, mon (by omega), some_bind, hg.by (by omega)]
theorem mb1n {p e : Nat} {g : Nat → Int32} (hp : e ≤ p) (hp2 : p < 2 ^ 30) (w : Int32) : P_Mo_byteHere (nI p) (nI e) w g = some (0, nI p, 0) := by
  unfold P_Mo_byteHere
  rw [if_neg (nI_nlt hp (by omega))]
theorem mb2 {n p e : Nat} {f g : Nat → Int32} (hn : n ≤ 4096) (hg : Agr n f g) (hp : p + 1 < e) (he : e ≤ n) (w : Int32) : P_Mo_twoHere (nI p) (nI e) w g = some (nI (W2 f p), nI (p + 2), w) := by
  unfold P_Mo_twoHere
  rw [mb1 hn hg (by omega) he]
  show (P_Mo_byteHere (nI (p + 1)) (nI e) w g).bind _ = _
  rw [mb1 hn hg (by omega) he]
  show some ((nI (By f p) <<< ((8 : Int32) &&& 31)) ||| nI (By f (p + 1)), _, _) = _
  rw [pk_shlN (n := By f p) ((8 : Int32) &&& 31) 8 (by decide) (by have := By_lt f p; omega), nI_or 8 (By_lt f (p + 1))]
  rfl
theorem mb2n {n p e : Nat} {f g : Nat → Int32} (hn : n ≤ 4096) (hg : Agr n f g) (hp : e ≤ p + 1) (hp2 : p < 2 ^ 30) (he : e ≤ n) (w : Int32) : ∃ v q, q ≤ p + 1 ∧ P_Mo_twoHere (nI p) (nI e) w g = some (v, nI q, 0) := by
  unfold P_Mo_twoHere
  rcases Nat.lt_or_ge p e with h | h
  · rw [mb1 hn hg (by omega) he]
    refine ⟨(nI (By f p) <<< ((8 : Int32) &&& 31)) ||| 0, p + 1, by omega, ?_⟩
    show (P_Mo_byteHere (nI (p + 1)) (nI e) w g).bind _ = _
    rw [mb1n (by omega) (by omega)]
    rfl
  · rw [mb1n h hp2]
    refine ⟨((0 : Int32) <<< ((8 : Int32) &&& 31)) ||| 0, p, by omega, ?_⟩
    show (P_Mo_byteHere (nI p) (nI e) 0 g).bind _ = _
    rw [mb1n h hp2]
    rfl
def sml (v : Int32) : Prop := -32768 ≤ v.toInt ∧ v.toInt ≤ 32767
theorem crd_y {v : Int32} (h : sml v) : P_Sh_isCoordinate v = some 1 := by
  unfold P_Sh_isCoordinate
  obtain ⟨h1, h2⟩ := h
  rw [if_neg (by rw [Int32.lt_iff_toInt_lt, show (-32768 : Int32).toInt = -32768 from by decide]; omega), if_neg (by rw [Int32.lt_iff_toInt_lt, show (32767 : Int32).toInt = 32767 from by decide]; omega)]
theorem crd_n {v : Int32} (h : ¬ sml v) : P_Sh_isCoordinate v = some 0 := by
  unfold P_Sh_isCoordinate
  by_cases c : v < (-32768 : Int32)
  · rw [if_pos c]
  rw [if_neg c]
  rw [Int32.lt_iff_toInt_lt, show (-32768 : Int32).toInt = -32768 from by decide] at c
  have : ¬ v.toInt ≤ 32767 := fun q => h ⟨by omega, q⟩
  rw [if_pos (by rw [Int32.lt_iff_toInt_lt, show (32767 : Int32).toInt = 32767 from by decide]; omega)]
def smlJ (v : Int64) : Prop := -32768 ≤ v.toInt ∧ v.toInt ≤ 32767
theorem msl_y {v : Int64} (h : smlJ v) : P_Mo_small v = some 1 := by
  unfold P_Mo_small
  obtain ⟨h1, h2⟩ := h
  rw [if_neg (by rw [lg_cmp_lt, Int64.lt_iff_toInt_lt, show (-32768 : Int64).toInt = -32768 from by decide]; omega), if_neg (by rw [lg_cmp_gt, Int64.lt_iff_toInt_lt, show (32767 : Int64).toInt = 32767 from by decide]; omega)]
theorem msl_n {v : Int64} (h : ¬ smlJ v) : P_Mo_small v = some 0 := by
  unfold P_Mo_small
  by_cases c : v.toInt < -32768
  · rw [if_pos (by rw [lg_cmp_lt, Int64.lt_iff_toInt_lt, show (-32768 : Int64).toInt = -32768 from by decide]; omega)]
  · have : ¬ v.toInt ≤ 32767 := fun q => h ⟨by omega, q⟩
    rw [if_neg (by rw [lg_cmp_lt, Int64.lt_iff_toInt_lt, show (-32768 : Int64).toInt = -32768 from by decide]; omega), if_pos (by rw [lg_cmp_gt, Int64.lt_iff_toInt_lt, show (32767 : Int64).toInt = 32767 from by decide]; omega)]
theorem smlJ_i (v : Int32) : smlJ v.toInt64 ↔ sml v := by
  unfold smlJ sml
  rw [Int32.toInt_toInt64]
/-- one step along an axis: the step of the number and the next place -/
def axD (f : Nat → Int32) (e : Nat) (sb mb b : Int32) (q : Nat) : Option (Int32 × Nat) :=
  if b &&& sb = 0 then (if b &&& mb = 0 then (if q + 1 < e then some (s16 (W2 f q), q + 2) else none) else some (0, q))
  else (if q < e then some (if b &&& mb = 0 then -(nI (By f q)) else nI (By f q), q + 1) else none)
def axS (f : Nat → Int32) (e : Nat) (sb mb : Int32) (F : Nat → Int32) (q0 : Nat) : Nat → Option (Int32 × Nat)
  | 0 => some (0, q0)
  | k + 1 => (axS f e sb mb F q0 k).bind fun vq => (axD f e sb mb (F k) vq.2).bind fun sq => if -32768 ≤ (vq.1 + sq.1).toInt ∧ (vq.1 + sq.1).toInt ≤ 32767 then some (vq.1 + sq.1, sq.2) else none
theorem axS_none {f : Nat → Int32} {e : Nat} {sb mb : Int32} {F : Nat → Int32} {q0 k : Nat} (h : axS f e sb mb F q0 k = none) : ∀ d, axS f e sb mb F q0 (k + d) = none := by
  intro d
  induction d with
  | zero => exact h
  | succ d ih =>
    show (axS f e sb mb F q0 (k + d)).bind _ = none
    rw [ih]; rfl
theorem axS_s {f : Nat → Int32} {e : Nat} {sb mb : Int32} {F : Nat → Int32} {q0 k : Nat} {v : Int32} {q : Nat} (h : axS f e sb mb F q0 k = some (v, q)) : axS f e sb mb F q0 (k + 1) = (axD f e sb mb (F k) q).bind fun sq => if -32768 ≤ (v + sq.1).toInt ∧ (v + sq.1).toInt ≤ 32767 then some (v + sq.1, sq.2) else none := by
  show (axS f e sb mb F q0 k).bind _ = _
  rw [h]; rfl
/-- places do not run away -/
theorem axS_q {f : Nat → Int32} {e : Nat} {sb mb : Int32} {F : Nat → Int32} {q0 : Nat} : ∀ (k : Nat) (v : Int32) (q : Nat), axS f e sb mb F q0 k = some (v, q) → q ≤ q0 + 2 * k := by
  intro k
  induction k with
  | zero => intro v q h; cases h; omega
  | succ k ih =>
    intro v q h
    have h' : (axS f e sb mb F q0 k).bind _ = some (v, q) := h
    obtain ⟨⟨v1, q1⟩, h1, h2⟩ := Option.bind_eq_some_iff.mp h'
    obtain ⟨⟨s, q2⟩, h3, h4⟩ := Option.bind_eq_some_iff.mp h2
    have := ih _ _ h1
    have e2 : q = q2 := by
      split at h4
      · cases h4; rfl
      · cases h4
    unfold axD at h3
    split at h3
    · split at h3
      · split at h3
        · cases h3; omega
        · cases h3
      · cases h3; omega
    · split at h3
      · cases h3; omega
      · cases h3
/-- the class along an axis, from point k on -/
theorem ax_safe {cnt first e : Nat} (hc : cnt ≤ 128) (hf : first + cnt ≤ 256) (he : e ≤ 4096) (f F : Nat → Int32) (sb mb : Int32) : ∀ (d k m q : Nat) (v w : Int32) (ax : Nat → Int32), k + d = cnt → d < m → q + 2 * d < 2 ^ 30 → ∃ r q' w' ax', lp (L_Sh_readAxis_6 (nI (first + cnt)) F (nI e) f) m (nI first, sb, mb, v, nI (first + k), nI q, w, ax) = some (r, nI q', w', ax') ∧ (r = 0 ∨ r = 1) ∧ q' ≤ q + 2 * d ∧ (w' = w ∨ w' = 0) := by
  intro d
  induction d with
  | zero =>
    intro k m q v w ax hk hm hq
    obtain ⟨m, rfl⟩ := suc_of hm
    refine ⟨1, q, w, ax, ?_, Or.inr rfl, by omega, Or.inl rfl⟩
    rw [e_Sh_readAxis_6]
    unfold P_Sh_readAxis_6b
    rw [if_pos (nI_le (by omega) (by omega))]
  | succ d ih =>
    intro k m q v w ax hk hm hq
    obtain ⟨m, rfl⟩ := suc_of hm
    have fin : ∀ (v' : Int32) (q1 : Nat) (w1 : Int32), q1 ≤ q + 2 → (w1 = w ∨ w1 = 0) → ∃ r q' w' ax', P_Sh_readAxis_94 (nI (first + cnt)) F (nI e) f (lp (L_Sh_readAxis_6 (nI (first + cnt)) F (nI e) f) m) (nI first) sb mb v' (nI (first + k)) (nI q1) w1 ax = some (r, nI q', w', ax') ∧ (r = 0 ∨ r = 1) ∧ q' ≤ q + 2 * (d + 1) ∧ (w' = w ∨ w' = 0) := by
      intro v' q1 w1 hq1 hw1
      unfold P_Sh_readAxis_94
      by_cases c : sml v'
      · rw [crd_y c, some_bind, if_neg (show ¬ (1 : Int32) = 0 by decide), bdI (by omega) (by omega), nI_clamp (by omega), nI_1]
        obtain ⟨r, q', w', ax', e1, e2, e3, e4⟩ := ih (k + 1) m q1 v' w1 (upd ax (first + k) v') (by omega) (by omega) (by omega)
        refine ⟨r, q', w', ax', e1, e2, by omega, ?_⟩
        rcases e4 with e4 | e4
        · rw [e4]; exact hw1
        · exact Or.inr e4
      · rw [crd_n c, some_bind, if_pos rfl]
        exact ⟨0, q1, w1, ax, rfl, Or.inl rfl, by omega, hw1⟩
    have mid : ∀ k0 : Int32, ∃ r q' w' ax', P_Sh_readAxis_35 (nI (first + cnt)) F (nI e) f (lp (L_Sh_readAxis_6 (nI (first + cnt)) F (nI e) f) m) (nI first) sb mb v (nI (first + k)) k0 (nI q) w ax = some (r, nI q', w', ax') ∧ (r = 0 ∨ r = 1) ∧ q' ≤ q + 2 * (d + 1) ∧ (w' = w ∨ w' = 0) := by
      intro k0
      unfold P_Sh_readAxis_35 P_Sh_readAxis_73
      rw [pk_sub (by omega), show first + k - first = k by omega, bdI (by omega) (by omega), nI_clamp (by omega)]
      by_cases c1 : F k &&& sb = 0
      · rw [if_pos c1]
        by_cases c2 : k0 = 0
        · rw [if_pos c2]
          obtain ⟨v1, q1, w1, h1, h2, h3, h4⟩ := rd2s (p := q) (by omega) he w f
          rw [h3]
          exact fin _ q1 w1 h2 h4
        · rw [if_neg c2]
          exact fin v q w (by omega) (Or.inl rfl)
      · rw [if_neg c1]
        obtain ⟨v1, q1, w1, h1, h2, h3, h4⟩ := rd1s (p := q) (by omega) he w f
        rw [h3]
        show ∃ r q' w' ax', (if k0 = 0 then _ else _) = _ ∧ _
        by_cases c2 : k0 = 0
        · rw [if_pos c2]; exact fin _ q1 w1 (by omega) h4
        · rw [if_neg c2]; exact fin _ q1 w1 (by omega) h4
    rw [e_Sh_readAxis_6]
    unfold P_Sh_readAxis_6b
    rw [if_neg (nI_ge (by omega) (by omega)), pk_sub (by omega), show first + k - first = k by omega, bdI (by omega) (by omega), nI_clamp (by omega)]
    by_cases c : F k &&& mb = 0
    · rw [if_pos c]; exact mid 0
    · rw [if_neg c]; exact mid 1
theorem ax_f {cnt first e : Nat} (hc : cnt ≤ 128) (hf : first + cnt ≤ 256) (he : e ≤ 4096) (f F : Nat → Int32) (sb mb : Int32) {q0 : Nat} (hq0 : q0 ≤ e) : ∀ (d k m q : Nat) (v : Int32) (ax : Nat → Int32), k + d = cnt → d < m → axS f e sb mb F q0 k = some (v, q) → (∃ v' q' ax', axS f e sb mb F q0 cnt = some (v', q') ∧ lp (L_Sh_readAxis_6 (nI (first + cnt)) F (nI e) f) m (nI first, sb, mb, v, nI (first + k), nI q, 1, ax) = some (1, nI q', 1, ax') ∧ (∀ j, k ≤ j → j < cnt → ∃ qq, axS f e sb mb F q0 (j + 1) = some (ax' (first + j), qq)) ∧ ∀ j, (j < first + k ∨ first + cnt ≤ j) → ax' j = ax j) ∨ (axS f e sb mb F q0 cnt = none ∧ ∃ r q' w' ax', lp (L_Sh_readAxis_6 (nI (first + cnt)) F (nI e) f) m (nI first, sb, mb, v, nI (first + k), nI q, 1, ax) = some (r, nI q', w', ax') ∧ q' < 2 ^ 20 ∧ (r = 0 ∨ r = 1) ∧ (w' = 0 ∨ w' = 1) ∧ (r = 0 ∨ w' = 0)) := by
  intro d
  induction d with
  | zero =>
    intro k m q v ax hk hm hS
    obtain ⟨m, rfl⟩ := suc_of hm
    have : k = cnt := by omega
    subst this
    refine Or.inl ⟨v, q, ax, hS, ?_, fun j h1 h2 => absurd h2 (by omega), fun j _ => rfl⟩
    rw [e_Sh_readAxis_6]
    unfold P_Sh_readAxis_6b
    rw [if_pos (nI_le (by omega) (by omega))]
  | succ d ih =>
    intro k m q v ax hk hm hS
    obtain ⟨m, rfl⟩ := suc_of hm
    have hqb := axS_q _ _ _ hS
    have hnext := axS_s hS
    have fin : ∀ (s : Int32) (q1 : Nat), axD f e sb mb (F k) q = some (s, q1) → (∃ v' q' ax', axS f e sb mb F q0 cnt = some (v', q') ∧ P_Sh_readAxis_94 (nI (first + cnt)) F (nI e) f (lp (L_Sh_readAxis_6 (nI (first + cnt)) F (nI e) f) m) (nI first) sb mb (v + s) (nI (first + k)) (nI q1) 1 ax = some (1, nI q', 1, ax') ∧ (∀ j, k ≤ j → j < cnt → ∃ qq, axS f e sb mb F q0 (j + 1) = some (ax' (first + j), qq)) ∧ ∀ j, (j < first + k ∨ first + cnt ≤ j) → ax' j = ax j) ∨ (axS f e sb mb F q0 cnt = none ∧ ∃ r q' w' ax', P_Sh_readAxis_94 (nI (first + cnt)) F (nI e) f (lp (L_Sh_readAxis_6 (nI (first + cnt)) F (nI e) f) m) (nI first) sb mb (v + s) (nI (first + k)) (nI q1) 1 ax = some (r, nI q', w', ax') ∧ q' < 2 ^ 20 ∧ (r = 0 ∨ r = 1) ∧ (w' = 0 ∨ w' = 1) ∧ (r = 0 ∨ w' = 0)) := by
      intro s q1 hD
      rw [hD, some_bind] at hnext
      unfold P_Sh_readAxis_94
      by_cases c : sml (v + s)
      · replace hnext : axS f e sb mb F q0 (k + 1) = some (v + s, q1) := hnext.trans (if_pos c)
        rw [crd_y c, some_bind, if_neg (show ¬ (1 : Int32) = 0 by decide), bdI (by omega) (by omega), nI_clamp (by omega), nI_1]
        rcases ih (k + 1) m q1 (v + s) (upd ax (first + k) (v + s)) (by omega) (by omega) hnext with ⟨v', q', ax', h1, h2, h3, h4⟩ | h
        · refine Or.inl ⟨v', q', ax', h1, h2, fun j p1 p2 => ?_, fun j p => ?_⟩
          · rcases Nat.lt_or_ge k j with w | w
            · exact h3 j w p2
            · have e1 : j = k := by omega
              subst e1
              rw [h4 (first + j) (Or.inl (by omega)), pk_us]
              exact ⟨q1, hnext⟩
          · rw [h4 j (by omega), pk_un (by omega)]
        · exact Or.inr h
      · replace hnext : axS f e sb mb F q0 (k + 1) = none := hnext.trans (if_neg c)
        rw [crd_n c, some_bind, if_pos rfl]
        have hn' := axS_none hnext d
        rw [show k + 1 + d = cnt by omega] at hn'
        have hq1 : q1 ≤ q + 2 := by
          unfold axD at hD
          split at hD
          · split at hD
            · split at hD
              · cases hD; omega
              · cases hD
            · cases hD; omega
          · split at hD
            · cases hD; omega
            · cases hD
        exact Or.inr ⟨hn', 0, q1, 1, ax, rfl, by omega, Or.inl rfl, Or.inr rfl, Or.inl rfl⟩
    have bad : ∀ (v' : Int32), axD f e sb mb (F k) q = none → (∃ v'' q' ax', axS f e sb mb F q0 cnt = some (v'', q') ∧ P_Sh_readAxis_94 (nI (first + cnt)) F (nI e) f (lp (L_Sh_readAxis_6 (nI (first + cnt)) F (nI e) f) m) (nI first) sb mb v' (nI (first + k)) (nI q) 0 ax = some (1, nI q', 1, ax') ∧ (∀ j, k ≤ j → j < cnt → ∃ qq, axS f e sb mb F q0 (j + 1) = some (ax' (first + j), qq)) ∧ ∀ j, (j < first + k ∨ first + cnt ≤ j) → ax' j = ax j) ∨ (axS f e sb mb F q0 cnt = none ∧ ∃ r q' w' ax', P_Sh_readAxis_94 (nI (first + cnt)) F (nI e) f (lp (L_Sh_readAxis_6 (nI (first + cnt)) F (nI e) f) m) (nI first) sb mb v' (nI (first + k)) (nI q) 0 ax = some (r, nI q', w', ax') ∧ q' < 2 ^ 20 ∧ (r = 0 ∨ r = 1) ∧ (w' = 0 ∨ w' = 1) ∧ (r = 0 ∨ w' = 0)) := by
      intro v' hD
      rw [hD] at hnext
      have hn' := axS_none (show axS f e sb mb F q0 (k + 1) = none from hnext) d
      rw [show k + 1 + d = cnt by omega] at hn'
      refine Or.inr ⟨hn', ?_⟩
      unfold P_Sh_readAxis_94
      by_cases c : sml v'
      · rw [crd_y c, some_bind, if_neg (show ¬ (1 : Int32) = 0 by decide), bdI (by omega) (by omega), nI_clamp (by omega), nI_1]
        obtain ⟨r, q', w', ax', e1, e2, e3, e4⟩ := ax_safe hc hf he f F sb mb d (k + 1) m q v' 0 (upd ax (first + k) v') (by omega) (by omega) (by omega)
        have e5 : w' = 0 := e4.elim id id
        exact ⟨r, q', w', ax', e1, by omega, e2, Or.inl e5, Or.inr e5⟩
      · rw [crd_n c, some_bind, if_pos rfl]
        exact ⟨0, q, 0, ax, rfl, by omega, Or.inl rfl, Or.inl rfl, Or.inl rfl⟩
    rw [e_Sh_readAxis_6]
    unfold P_Sh_readAxis_6b
    rw [if_neg (nI_ge (by omega) (by omega)), pk_sub (by omega), show first + k - first = k by omega, bdI (by omega) (by omega), nI_clamp (by omega)]
    unfold P_Sh_readAxis_35 P_Sh_readAxis_73
    rw [pk_sub (by omega), show first + k - first = k by omega, bdI (by omega) (by omega), bdI (by omega) (by omega), nI_clamp (by omega)]
    unfold axD at fin bad
    by_cases c1 : F k &&& sb = 0
    · simp only [c1, if_true] at fin bad ⊢
      by_cases c2 : F k &&& mb = 0
      · simp only [c2, if_true] at fin bad ⊢
        by_cases c3 : q + 1 < e
        · rw [rd2 c3 he]
          simp only [c3, if_true] at fin
          exact fin _ _ rfl
        · rw [rd2n (by omega) (by omega)]
          simp only [c3, if_false] at bad
          exact bad _ trivial
      · simp only [c2, if_false, show ¬ (1 : Int32) = 0 by decide] at fin bad ⊢
        have := fin 0 q rfl
        rw [i_add0] at this
        exact this
    · simp only [c1, if_false] at fin bad ⊢
      by_cases c3 : q < e
      · rw [rd1 c3 he]
        simp only [c3, if_true] at fin
        by_cases c2 : F k &&& mb = 0
        · simp only [c2, if_true] at fin ⊢
          exact fin _ _ rfl
        · simp only [c2, if_false] at fin ⊢
          exact fin _ _ rfl
      · rw [rd1n (by omega) (by omega)]
        simp only [c3, if_false] at bad
        by_cases c2 : F k &&& mb = 0
        · simp only [c2, if_true]
          exact bad _ trivial
        · simp only [c2, if_false]
          exact bad _ trivial
theorem mstep_y {n e : Nat} {f g : Nat → Int32} (hn : n ≤ 4096) (hg : Agr n f g) (he : e ≤ n) {sb mb b : Int32} {q q1 : Nat} {s : Int32} (h : axD f e sb mb b q = some (s, q1)) : P_Mo_step (nI q) (nI e) 1 g b sb mb = some (s, nI q1, 1) := by
  unfold axD at h
  unfold P_Mo_step
  by_cases c1 : b &&& sb = 0
  · rw [if_pos c1] at h ⊢
    by_cases c2 : b &&& mb = 0
    · rw [if_pos c2] at h ⊢
      by_cases c3 : q + 1 < e
      · rw [if_pos c3] at h
        cases h
        rw [mb2 hn hg c3 he]
        rfl
      · rw [if_neg c3] at h; cases h
    · rw [if_neg c2] at h ⊢
      cases h; rfl
  · rw [if_neg c1] at h ⊢
    by_cases c3 : q < e
    · rw [if_pos c3] at h
      cases h
      rw [mb1 hn hg c3 he]
      show (if b &&& mb = 0 then _ else _) = _
      by_cases c2 : b &&& mb = 0
      · rw [if_pos c2, if_pos c2]
      · rw [if_neg c2, if_neg c2]
    · rw [if_neg c3] at h; cases h
theorem mstep_n {n e : Nat} {f g : Nat → Int32} (hn : n ≤ 4096) (hg : Agr n f g) (he : e ≤ n) {sb mb b : Int32} {q : Nat} (hq : q < 2 ^ 30) (h : axD f e sb mb b q = none) : ∃ v q1, q1 ≤ q + 1 ∧ P_Mo_step (nI q) (nI e) 1 g b sb mb = some (v, nI q1, 0) := by
  unfold axD at h
  unfold P_Mo_step
  by_cases c1 : b &&& sb = 0
  · rw [if_pos c1] at h ⊢
    by_cases c2 : b &&& mb = 0
    · rw [if_pos c2] at h ⊢
      by_cases c3 : q + 1 < e
      · rw [if_pos c3] at h; cases h
      · obtain ⟨v, q1, h1, h2⟩ := mb2n hn hg (p := q) (by omega) hq he 1
        rw [h2]
        exact ⟨_, q1, h1, rfl⟩
    · rw [if_neg c2] at h; cases h
  · rw [if_neg c1] at h ⊢
    by_cases c3 : q < e
    · rw [if_pos c3] at h; cases h
    · rw [mb1n (by omega) hq]
      show ∃ v q1, q1 ≤ q + 1 ∧ (if b &&& mb = 0 then _ else _) = _
      by_cases c2 : b &&& mb = 0
      · rw [if_pos c2]; exact ⟨_, q, by omega, rfl⟩
      · rw [if_neg c2]; exact ⟨_, q, by omega, rfl⟩
def ob (b : Int32) : Int32 := if b &&& (1 : Int32) = 0 then 0 else 1
theorem axx_m {n e : Nat} {f g : Nat → Int32} (hn : n ≤ 4096) (hg : Agr n f g) (he : e ≤ n) {cnt gi : Nat} (hc : cnt ≤ 128) (hgi : gi < 64) (F : Nat → Int32) {q0 : Nat} (hq0 : q0 ≤ e) (nn : Int32) (cs ps y ct : Nat → Int32) : ∀ (d k m q : Nat) (v : Int32) (x on : Nat → Int32), k + d = cnt → d < m → axS f e 2 16 F q0 k = some (v, q) → (∃ v' q' x' on', axS f e 2 16 F q0 cnt = some (v', q') ∧ lp (L_Mo_simple_230 (nI e) g) m (nI gi, nn, nI (256 * gi), nI cnt, nI k, v, nI q, 1, F, cs, ps, x, y, on, ct) = P_Mo_simple_326 (nI e) g (nI gi) nn (nI (256 * gi)) (nI cnt) 0 0 (nI q') 1 F cs ps x' y on' ct ∧ (∀ j, k ≤ j → j < cnt → (∃ qq, axS f e 2 16 F q0 (j + 1) = some (x' (256 * gi + j), qq)) ∧ on' (256 * gi + j) = ob (F j)) ∧ ∀ j, (j < 256 * gi + k ∨ 256 * gi + cnt ≤ j) → x' j = x j ∧ on' j = on j) ∨ (axS f e 2 16 F q0 cnt = none ∧ ∃ u, lp (L_Mo_simple_230 (nI e) g) m (nI gi, nn, nI (256 * gi), nI cnt, nI k, v, nI q, 1, F, cs, ps, x, y, on, ct) = some u ∧ u.1 = 0) := by
  intro d
  induction d with
  | zero =>
    intro k m q v x on hk hm hS
    obtain ⟨m, rfl⟩ := suc_of hm
    have : k = cnt := by omega
    subst this
    refine Or.inl ⟨v, q, x, on, hS, ?_, fun j h1 h2 => absurd h2 (by omega), fun j _ => ⟨rfl, rfl⟩⟩
    rw [e_Mo_simple_230]
    unfold P_Mo_simple_230b
    rw [if_pos (nI_le (by omega) (by omega))]
  | succ d ih =>
    intro k m q v x on hk hm hS
    obtain ⟨m, rfl⟩ := suc_of hm
    have hqb := axS_q _ _ _ hS
    have hnext := axS_s hS
    rw [e_Mo_simple_230]
    unfold P_Mo_simple_230b P_Mo_simple_313
    rw [if_neg (nI_ge (by omega) (by omega)), bdI (by omega) (by omega), nI_clamp (by omega)]
    cases hD : axD f e 2 16 (F k) q with
    | none =>
      rw [hD] at hnext
      have hn' := axS_none (show axS f e 2 16 F q0 (k + 1) = none from hnext) d
      rw [show k + 1 + d = cnt by omega] at hn'
      obtain ⟨v1, q1, h1, h2⟩ := mstep_n hn hg he (by omega) hD
      rw [h2]
      exact Or.inr ⟨hn', _, rfl, rfl⟩
    | some sq =>
      obtain ⟨s, q1⟩ := sq
      rw [hD, some_bind] at hnext
      rw [mstep_y hn hg he hD]
      have e0 : ((some (s, nI q1, (1 : Int32))).bind <| unp fun r_3 => unp fun n_4 n_5 => if n_5 = 0 then (some ((0 : Int32), n_4, n_5, F, cs, ps, x, y, on, ct)) else ((P_Mo_small ((v + r_3).toInt64)).bind fun r_7 => if r_7 = 0 then (some ((0 : Int32), n_4, n_5, F, cs, ps, x, y, on, ct)) else (bd (nI (256 * gi) + nI k) 16384 <| bd (nI k) 256 <| if ((F k) &&& (1 : Int32)) = 0 then (bd (nI (256 * gi) + nI k) 16384 <| lp (L_Mo_simple_230 (nI e) g) m (nI gi, nn, nI (256 * gi), nI cnt, (nI k + (1 : Int32)), (v + r_3), n_4, n_5, F, cs, ps, (upd x (nI (256 * gi) + nI k).toNatClampNeg (v + r_3)), y, (upd on (nI (256 * gi) + nI k).toNatClampNeg (vp_nar .boolean 0)), ct)) else (bd (nI (256 * gi) + nI k) 16384 <| lp (L_Mo_simple_230 (nI e) g) m (nI gi, nn, nI (256 * gi), nI cnt, (nI k + (1 : Int32)), (v + r_3), n_4, n_5, F, cs, ps, (upd x (nI (256 * gi) + nI k).toNatClampNeg (v + r_3)), y, (upd on (nI (256 * gi) + nI k).toNatClampNeg (vp_nar .boolean 1)), ct))))) = (P_Mo_small ((v + s).toInt64)).bind fun r_7 => if r_7 = 0 then (some ((0 : Int32), nI q1, (1 : Int32), F, cs, ps, x, y, on, ct)) else lp (L_Mo_simple_230 (nI e) g) m (nI gi, nn, nI (256 * gi), nI cnt, nI (k + 1), (v + s), nI q1, 1, F, cs, ps, (upd x (256 * gi + k) (v + s)), y, (upd on (256 * gi + k) (ob (F k))), ct) := by
        show ((P_Mo_small ((v + s).toInt64)).bind fun r_7 => if r_7 = 0 then _ else _) = _
        congr 1
        funext r7
        by_cases c : r7 = 0
        · rw [if_pos c, if_pos c]
        · rw [if_neg c, if_neg c, nI_add, bdI (by omega) (by omega), bdI (by omega) (by omega), bdI (by omega) (by omega), bdI (by omega) (by omega), nI_clamp (by omega), nI_1]
          unfold ob
          by_cases c2 : F k &&& (1 : Int32) = 0
          · rw [if_pos c2, if_pos c2]; rfl
          · rw [if_neg c2, if_neg c2]; rfl
      rw [e0]
      by_cases c : sml (v + s)
      · replace hnext : axS f e 2 16 F q0 (k + 1) = some (v + s, q1) := hnext.trans (if_pos c)
        rw [msl_y ((smlJ_i _).mpr c), some_bind, if_neg (show ¬ (1 : Int32) = 0 by decide)]
        rcases ih (k + 1) m q1 (v + s) (upd x (256 * gi + k) (v + s)) (upd on (256 * gi + k) (ob (F k))) (by omega) (by omega) hnext with ⟨v', q', x', on', h1, h2, h3, h4⟩ | h
        · refine Or.inl ⟨v', q', x', on', h1, h2, fun j p1 p2 => ?_, fun j p => ?_⟩
          · rcases Nat.lt_or_ge k j with w | w
            · exact h3 j w p2
            · have e1 : j = k := by omega
              subst e1
              obtain ⟨w1, w2⟩ := h4 (256 * gi + j) (Or.inl (by omega))
              rw [w1, w2, pk_us, pk_us]
              exact ⟨⟨q1, hnext⟩, rfl⟩
          · obtain ⟨w1, w2⟩ := h4 j (by omega)
            rw [w1, w2, pk_un (by omega), pk_un (by omega)]
            exact ⟨rfl, rfl⟩
        · exact Or.inr h
      · replace hnext : axS f e 2 16 F q0 (k + 1) = none := hnext.trans (if_neg c)
        rw [msl_n (fun q => c ((smlJ_i _).mp q)), some_bind, if_pos rfl]
        have hn' := axS_none hnext d
        rw [show k + 1 + d = cnt by omega] at hn'
        exact Or.inr ⟨hn', _, rfl, rfl⟩
theorem axy_m {n e : Nat} {f g : Nat → Int32} (hn : n ≤ 4096) (hg : Agr n f g) (he : e ≤ n) {cnt gi : Nat} (hc : cnt ≤ 128) (hgi : gi < 64) (F : Nat → Int32) {q0 : Nat} (hq0 : q0 ≤ e) (nn : Int32) (cs ps x on ct : Nat → Int32) : ∀ (d k m q : Nat) (v : Int32) (y : Nat → Int32), k + d = cnt → d < m → axS f e 4 32 F q0 k = some (v, q) → (∃ v' q' y', axS f e 4 32 F q0 cnt = some (v', q') ∧ lp (L_Mo_simple_326 (nI e) g) m (nI gi, nn, nI (256 * gi), nI cnt, nI k, v, nI q, 1, F, cs, ps, x, y, on, ct) = some (1, nI q', 1, F, upd cs gi nn, upd ps gi (nI cnt), x, y', on, ct) ∧ (∀ j, k ≤ j → j < cnt → (∃ qq, axS f e 4 32 F q0 (j + 1) = some (y' (256 * gi + j), qq))) ∧ ∀ j, (j < 256 * gi + k ∨ 256 * gi + cnt ≤ j) → y' j = y j) ∨ (axS f e 4 32 F q0 cnt = none ∧ ∃ u, lp (L_Mo_simple_326 (nI e) g) m (nI gi, nn, nI (256 * gi), nI cnt, nI k, v, nI q, 1, F, cs, ps, x, y, on, ct) = some u ∧ u.1 = 0) := by
  intro d
  induction d with
  | zero =>
    intro k m q v y hk hm hS
    obtain ⟨m, rfl⟩ := suc_of hm
    have : k = cnt := by omega
    subst this
    refine Or.inl ⟨v, q, y, hS, ?_, fun j h1 h2 => absurd h2 (by omega), fun j _ => rfl⟩
    rw [e_Mo_simple_326]
    unfold P_Mo_simple_326b
    rw [if_pos (nI_le (by omega) (by omega)), bdI (by omega) (by omega), bdI (by omega) (by omega), nI_clamp (by omega)]
  | succ d ih =>
    intro k m q v y hk hm hS
    obtain ⟨m, rfl⟩ := suc_of hm
    have hqb := axS_q _ _ _ hS
    have hnext := axS_s hS
    rw [e_Mo_simple_326]
    unfold P_Mo_simple_326b
    rw [if_neg (nI_ge (by omega) (by omega)), bdI (by omega) (by omega), nI_clamp (by omega)]
    cases hD : axD f e 4 32 (F k) q with
    | none =>
      rw [hD] at hnext
      have hn' := axS_none (show axS f e 4 32 F q0 (k + 1) = none from hnext) d
      rw [show k + 1 + d = cnt by omega] at hn'
      obtain ⟨v1, q1, h1, h2⟩ := mstep_n hn hg he (by omega) hD
      rw [h2]
      exact Or.inr ⟨hn', _, rfl, rfl⟩
    | some sq =>
      obtain ⟨s, q1⟩ := sq
      rw [hD, some_bind] at hnext
      rw [mstep_y hn hg he hD]
      have e0 : ((some (s, nI q1, (1 : Int32))).bind <| unp fun r_5 => unp fun n_6 n_7 => if n_7 = 0 then (some ((0 : Int32), n_6, n_7, F, cs, ps, x, y, on, ct)) else ((P_Mo_small ((v + r_5).toInt64)).bind fun r_9 => if r_9 = 0 then (some ((0 : Int32), n_6, n_7, F, cs, ps, x, y, on, ct)) else (bd (nI (256 * gi) + nI k) 16384 <| lp (L_Mo_simple_326 (nI e) g) m (nI gi, nn, nI (256 * gi), nI cnt, (nI k + (1 : Int32)), (v + r_5), n_6, n_7, F, cs, ps, x, (upd y (nI (256 * gi) + nI k).toNatClampNeg (v + r_5)), on, ct)))) = (P_Mo_small ((v + s).toInt64)).bind fun r_9 => if r_9 = 0 then (some ((0 : Int32), nI q1, (1 : Int32), F, cs, ps, x, y, on, ct)) else lp (L_Mo_simple_326 (nI e) g) m (nI gi, nn, nI (256 * gi), nI cnt, nI (k + 1), (v + s), nI q1, 1, F, cs, ps, x, (upd y (256 * gi + k) (v + s)), on, ct) := by
        show ((P_Mo_small ((v + s).toInt64)).bind fun r_7 => if r_7 = 0 then _ else _) = _
        congr 1
        funext r7
        by_cases c : r7 = 0
        · rw [if_pos c, if_pos c]
        · rw [if_neg c, if_neg c, nI_add, bdI (by omega) (by omega), nI_clamp (by omega), nI_1]
      rw [e0]
      by_cases c : sml (v + s)
      · replace hnext : axS f e 4 32 F q0 (k + 1) = some (v + s, q1) := hnext.trans (if_pos c)
        rw [msl_y ((smlJ_i _).mpr c), some_bind, if_neg (show ¬ (1 : Int32) = 0 by decide)]
        rcases ih (k + 1) m q1 (v + s) (upd y (256 * gi + k) (v + s)) (by omega) (by omega) hnext with ⟨v', q', y', h1, h2, h3, h4⟩ | h
        · refine Or.inl ⟨v', q', y', h1, h2, fun j p1 p2 => ?_, fun j p => ?_⟩
          · rcases Nat.lt_or_ge k j with w | w
            · exact h3 j w p2
            · have e1 : j = k := by omega
              subst e1
              rw [h4 (256 * gi + j) (Or.inl (by omega)), pk_us]
              exact ⟨q1, hnext⟩
          · rw [h4 j (by omega), pk_un (by omega)]
        · exact Or.inr h
      · replace hnext : axS f e 4 32 F q0 (k + 1) = none := hnext.trans (if_neg c)
        rw [msl_n (fun q => c ((smlJ_i _).mp q)), some_bind, if_pos rfl]
        have hn' := axS_none hnext d
        rw [show k + 1 + d = cnt by omega] at hn'
        exact Or.inr ⟨hn', _, rfl, rfl⟩
