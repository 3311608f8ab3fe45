/-! PURE ROWS: what a glyph is: points, contours, parts, depth, x, y, on, the contours' last points -/
abbrev Dat : Type := Nat × Nat × Nat × Nat × (Nat → Int32) × (Nat → Int32) × (Nat → Int32) × (Nat → Nat)
def axV (f : Nat → Int32) (e : Nat) (sb mb : Int32) (F : Nat → Int32) (q k : Nat) : Int32 := ((axS f e sb mb F q (k + 1)).getD (0, 0)).1
theorem axV_of {f : Nat → Int32} {e : Nat} {sb mb : Int32} {F : Nat → Int32} {q k : Nat} {v : Int32} {qq : Nat} (h : axS f e sb mb F q (k + 1) = some (v, qq)) : v = axV f e sb mb F q k := by
  unfold axV
  rw [h]; rfl
noncomputable def smD (f : Nat → Int32) (p e n : Nat) : Option Dat := @ite _ (enC f p e n ∧ skC f p e n) (Classical.propDecidable _) ((flS f e (cntOf f p n) (cntOf f p n) 0 (p + 2 * n + 2 + W2 f (p + 2 * n)) (fun _ => 0)).bind fun Fq => (axS f e 2 16 Fq.1 Fq.2 (cntOf f p n)).bind fun vx => (axS f e 4 32 Fq.1 vx.2 (cntOf f p n)).bind fun _ => some (cntOf f p n, n, 0, 0, axV f e 2 16 Fq.1 Fq.2, axV f e 4 32 Fq.1 vx.2, fun k => ob (Fq.1 k), fun i => W2 f (p + 2 * i))) none
def MemD (D : Dat) (gi : Nat) (cs ps x y on ct : Nat → Int32) : Prop := cs gi = nI D.2.1 ∧ ps gi = nI D.1 ∧ (∀ k, k < D.1 → x (256 * gi + k) = D.2.2.2.2.1 k ∧ y (256 * gi + k) = D.2.2.2.2.2.1 k ∧ on (256 * gi + k) = D.2.2.2.2.2.2.1 k) ∧ CtI D.2.2.2.2.2.2.2 D.2.1 ct (256 * gi) 0
theorem axS_some {f : Nat → Int32} {e : Nat} {sb mb : Int32} {F : Nat → Int32} {q0 : Nat} {r : Int32 × Nat} : ∀ (d k : Nat), axS f e sb mb F q0 (k + d) = some r → ∃ r', axS f e sb mb F q0 k = some r' := by
  intro d k h
  cases hk : axS f e sb mb F q0 k with
  | none => rw [axS_none hk d] at h; cases h
  | some r' => exact ⟨r', rfl⟩
theorem axS_e {f : Nat → Int32} {e : Nat} {sb mb : Int32} {F : Nat → Int32} {q0 : Nat} (hq : q0 ≤ e) : ∀ (k : Nat) (v : Int32) (q : Nat), axS f e sb mb F q0 k = some (v, q) → q ≤ e := by
  intro k
  induction k with
  | zero => intro v q h; cases h; exact hq
  | succ k ih =>
    intro v q h
    have h' : (axS f e sb mb F q0 k).bind _ = some (v, q) := h
    obtain ⟨⟨v1, q1⟩, h1, h2⟩ := Option.bind_eq_some_iff.mp h'
    obtain ⟨⟨s, q2⟩, h3, h4⟩ := Option.bind_eq_some_iff.mp h2
    have := ih _ _ h1
    have e2 : q = q2 := by
      split at h4
      · cases h4; rfl
      · cases h4
    unfold axD at h3
    split at h3
    · split at h3
      · split at h3
        · cases h3; omega
        · cases h3
      · cases h3; omega
    · split at h3
      · cases h3; omega
      · cases h3
theorem simple_m {n0 e : Nat} {f g : Nat → Int32} (hn : n0 ≤ 4096) (hg : Agr n0 f g) (he : e ≤ n0) {p n gi : Nat} (hgi : gi < 64) (hp : p ≤ e) (hnn : n ≤ 16) (F cs ps x y on ct : Nat → Int32) : (∃ D, smD f p e n = some D ∧ D.2.1 = n ∧ D.1 ≤ 128 ∧ D.2.2.1 = 0 ∧ D.2.2.2.1 = 0 ∧ ∃ at' F' x' y' on' ct', P_Mo_simple (nI p) (nI e) 1 F g cs ps x y on ct (nI gi) (nI n) = some (1, at', 1, F', upd cs gi (nI n), upd ps gi (nI D.1), x', y', on', ct') ∧ MemD D gi (upd cs gi (nI n)) (upd ps gi (nI D.1)) x' y' on' ct' ∧ ∀ j, (j < 256 * gi ∨ 256 * gi + 256 ≤ j) → x' j = x j ∧ y' j = y j ∧ on' j = on j ∧ ct' j = ct j) ∨ (smD f p e n = none ∧ ∃ u, P_Mo_simple (nI p) (nI e) 1 F g cs ps x y on ct (nI gi) (nI n) = some u ∧ u.1 = 0) := by
  unfold P_Mo_simple smD
  rw [show (256 : Int32) * nI gi = nI (256 * gi) from pk_mul 256 gi]
  rcases ends_m hn hg he hgi hp hnn F cs ps x y on n 0 fuel ct (by omega) (by unfold fuel; omega) (fun i hi => absurd hi (by omega)) (fun i hi => absurd hi (by omega)) with ⟨h1, h2, ct', h3, h4, h5⟩ | ⟨h1, h2⟩
  · rw [if_pos ⟨h1, h2⟩]
    have h3 : P_Mo_simple_13 (nI e) g (nI gi) (nI n) (-1) (nI (256 * gi)) 0 (nI p) 1 F cs ps x y on ct = _ := h3
    rw [h3]
    have hc := cnt_le h1
    have hq0 := h2.2
    generalize hcnt : cntOf f p n = cnt at *
    generalize hq : p + 2 * n + 2 + W2 f (p + 2 * n) = q0 at *
    have cg := flS_congr (f := f) (e := e) (cnt := cnt) cnt 0 q0 (fun _ => 0) F (by omega) (fun j hj => absurd hj (by omega))
    rcases fl_m hn hg he hc (nI gi) (nI n) (nI (256 * gi)) cs ps x y on ct' cnt 0 fuel q0 F (by omega) (by omega) (by unfold fuel; omega) (by omega) with ⟨F1, q1, k1, k2⟩ | ⟨k1, k2⟩
    · have k2 : P_Mo_simple_141 (nI e) g (nI gi) (nI n) (nI (256 * gi)) (nI cnt) 0 (nI q0) 1 F cs ps x y on ct' = _ := k2
      rw [k2]
      cases hfl : flS f e cnt cnt 0 q0 (fun _ => 0) with
      | none => rw [cg.2 hfl] at k1; cases k1
      | some Fq =>
        obtain ⟨F0, q1'⟩ := Fq
        obtain ⟨G', w1, w2⟩ := cg.1 F0 q1' hfl
        rw [k1] at w1
        cases w1
        have hq1 := flS_q _ _ _ _ _ _ k1 (by omega)
        have ax1 : ∀ k, k ≤ cnt → axS f e 2 16 F0 q1 k = axS f e 2 16 F1 q1 k := axS_congr w2
        rw [some_bind]
        simp only
        rcases axx_m hn hg he hc hgi F1 hq1 (nI n) cs ps y ct' cnt 0 fuel q1 0 x on (by omega) (by unfold fuel; omega) rfl with ⟨v1, q2, x1, on1, a1, a2, a3, a4⟩ | ⟨a1, a2⟩
        · have a2 : P_Mo_simple_230 (nI e) g (nI gi) (nI n) (nI (256 * gi)) (nI cnt) 0 0 (nI q1) 1 F1 cs ps x y on ct' = _ := a2
          rw [a2, ax1 cnt (by omega), a1, some_bind]
          simp only
          have ax2 : ∀ k, k ≤ cnt → axS f e 4 32 F0 q2 k = axS f e 4 32 F1 q2 k := axS_congr w2
          rcases axy_m hn hg he hc hgi F1 (q0 := q2) (axS_e hq1 _ _ _ a1) (nI n) cs ps x1 on1 ct' cnt 0 fuel q2 0 y (by omega) (by unfold fuel; omega) rfl with ⟨v2, q3, y1, b1, b2, b3, b4⟩ | ⟨b1, b2⟩
          · have b2 : P_Mo_simple_326 (nI e) g (nI gi) (nI n) (nI (256 * gi)) (nI cnt) 0 0 (nI q2) 1 F1 cs ps x1 y on1 ct' = _ := b2
            rw [b2, ax2 cnt (by omega), b1, some_bind]
            refine Or.inl ⟨_, rfl, rfl, by simpa using hc, rfl, rfl, _, _, _, _, _, _, rfl, ⟨pk_us, pk_us, fun k hk => ⟨?_, ?_, ?_⟩, h4⟩, fun j hj => ⟨?_, ?_, ?_, ?_⟩⟩
            · obtain ⟨⟨qq, w3⟩, w4⟩ := a3 k (by omega) hk
              rw [← ax1 (k + 1) (by exact hk)] at w3
              exact axV_of w3
            · obtain ⟨qq, w3⟩ := b3 k (by omega) hk
              rw [← ax2 (k + 1) (by exact hk)] at w3
              exact axV_of w3
            · obtain ⟨_, w4⟩ := a3 k (by omega) hk
              rw [w4, ← w2 k hk]
            · exact (a4 j (by omega)).1
            · exact b4 j (by omega)
            · exact (a4 j (by omega)).2
            · exact h5 j (by omega)
          · rw [ax2 cnt (by omega), b1]
            exact Or.inr ⟨rfl, b2⟩
        · rw [ax1 cnt (by omega), a1]
          exact Or.inr ⟨rfl, a2⟩
    · cases hfl : flS f e cnt cnt 0 q0 (fun _ => 0) with
      | none => exact Or.inr ⟨rfl, k2⟩
      | some Fq =>
        obtain ⟨G', w1, w2⟩ := cg.1 Fq.1 Fq.2 hfl
        rw [k1] at w1; cases w1
  · rw [if_neg h1]
    exact Or.inr ⟨rfl, h2⟩
