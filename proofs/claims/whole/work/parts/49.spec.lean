/-! PURE ROWS: what a glyph is, parts and all -/
def D0 : Dat := (0, 0, 0, 0, fun _ => 0, fun _ => 0, fun _ => 0, fun _ => 0)
def jnC (acc D : Dat) (dx dy : Int32) (M : Int32 × Int32 × Int32 × Int32) : Prop := acc.1 + D.1 ≤ 256 ∧ acc.2.1 + D.2.1 ≤ 32 ∧ ∀ k, k < D.1 → sml (mv dx M.1 M.2.2.1 (D.2.2.2.2.1 k) (D.2.2.2.2.2.1 k)) ∧ sml (mv dy M.2.1 M.2.2.2 (D.2.2.2.2.1 k) (D.2.2.2.2.2.1 k))
def jnV (acc D : Dat) (dx dy : Int32) (M : Int32 × Int32 × Int32 × Int32) (prt dep : Nat) : Dat := (acc.1 + D.1, acc.2.1 + D.2.1, prt, dep, (fun k => if k < acc.1 then acc.2.2.2.2.1 k else mv dx M.1 M.2.2.1 (D.2.2.2.2.1 (k - acc.1)) (D.2.2.2.2.2.1 (k - acc.1))), (fun k => if k < acc.1 then acc.2.2.2.2.2.1 k else mv dy M.2.1 M.2.2.2 (D.2.2.2.2.1 (k - acc.1)) (D.2.2.2.2.2.1 (k - acc.1))), (fun k => if k < acc.1 then acc.2.2.2.2.2.2.1 k else D.2.2.2.2.2.2.1 (k - acc.1)), (fun i => if i < acc.2.1 then acc.2.2.2.2.2.2.2 i else acc.1 + D.2.2.2.2.2.2.2 (i - acc.2.1)))
/-- one part more: the head at p, the part's own shape D -/
def ptC (f : Nat → Int32) (p : Nat) (acc D : Dat) : Prop := acc.2.2.1 + (1 + D.2.2.1) ≤ 40 ∧ max acc.2.2.2.1 (D.2.2.2.1 + 1) ≤ 4 ∧ jnC acc D (hDx f p) (hDy f p) (hQ f p)
def ptV (f : Nat → Int32) (p : Nat) (acc D : Dat) : Dat := jnV acc D (hDx f p) (hDy f p) (hQ f p) (acc.2.2.1 + (1 + D.2.2.1)) (max acc.2.2.2.1 (D.2.2.2.1 + 1))
noncomputable def cmS (f : Nat → Int32) (e G : Nat) (ch : Nat → Option Dat) : Nat → Nat → Dat → Option Dat
  | 0, _, _ => none
  | m + 1, p, acc => @ite _ (hOk f p e G) (Classical.propDecidable _) ((ch (W2 f (p + 2))).bind fun D => @ite _ (ptC f p acc D) (Classical.propDecidable _) (if hF f p &&& (32 : Int32) = 0 then some (ptV f p acc D) else cmS f e G ch m (p + hL (hF f p)) (ptV f p acc D)) none) none
noncomputable def spG (f : Nat → Int32) (bg : Nat → Nat) (G : Nat) (ch : Nat → Option Dat) (g : Nat) : Option Dat :=
  if bg g = bg (g + 1) then some D0 else if bg (g + 1) < bg g + 10 then none
  else if s16 (W2 f (bg g)) = -1 then cmS f (bg (g + 1)) G ch 41 (bg g + 10) D0
  else if s16 (W2 f (bg g)) < 0 then none
  else if (s16 (W2 f (bg g))).toNatClampNeg ≤ 16 then smD f (bg g + 10) (bg (g + 1)) (s16 (W2 f (bg g))).toNatClampNeg else none
noncomputable def sp (f : Nat → Int32) (bg : Nat → Nat) (G : Nat) : Nat → Nat → Option Dat
  | 0, _ => none
  | k + 1, g => spG f bg G (sp f bg G k) g
/-- one round of the composite, taken apart -/
theorem cmS_some {f : Nat → Int32} {e G : Nat} {ch : Nat → Option Dat} {m p : Nat} {acc R : Dat} (h : cmS f e G ch (m + 1) p acc = some R) : hOk f p e G ∧ ∃ D, ch (W2 f (p + 2)) = some D ∧ ptC f p acc D ∧ (if hF f p &&& (32 : Int32) = 0 then some (ptV f p acc D) else cmS f e G ch m (p + hL (hF f p)) (ptV f p acc D)) = some R := by
  unfold cmS at h
  by_cases c : hOk f p e G
  · rw [if_pos c] at h
    obtain ⟨D, h1, h2⟩ := Option.bind_eq_some_iff.mp h
    by_cases c2 : ptC f p acc D
    · rw [if_pos c2] at h2
      exact ⟨c, D, h1, c2, h2⟩
    · rw [if_neg c2] at h2; cases h2
  · rw [if_neg c] at h; cases h
theorem cmS_of {f : Nat → Int32} {e G : Nat} {ch : Nat → Option Dat} {m p : Nat} {acc D : Dat} (h1 : hOk f p e G) (h2 : ch (W2 f (p + 2)) = some D) (h3 : ptC f p acc D) : cmS f e G ch (m + 1) p acc = if hF f p &&& (32 : Int32) = 0 then some (ptV f p acc D) else cmS f e G ch m (p + hL (hF f p)) (ptV f p acc D) := by
  show @ite _ (hOk f p e G) (Classical.propDecidable _) _ none = _
  rw [if_pos h1, h2, some_bind, if_pos h3]
theorem cmS_no {f : Nat → Int32} {e G : Nat} {ch : Nat → Option Dat} {m p : Nat} {acc : Dat} (h : ¬ (hOk f p e G ∧ ∃ D, ch (W2 f (p + 2)) = some D ∧ ptC f p acc D)) : cmS f e G ch (m + 1) p acc = none := by
  cases hc : cmS f e G ch (m + 1) p acc with
  | none => rfl
  | some R =>
    obtain ⟨a, D, b, c, _⟩ := cmS_some hc
    exact absurd ⟨a, D, b, c⟩ h
theorem cmS_dep {f : Nat → Int32} {e G : Nat} {ch : Nat → Option Dat} : ∀ (m p : Nat) (acc R : Dat), cmS f e G ch m p acc = some R → acc.2.2.2.1 ≤ R.2.2.2.1 ∧ acc.2.2.1 < R.2.2.1 := by
  intro m
  induction m with
  | zero => intro p acc R h; cases h
  | succ m ih =>
    intro p acc R h
    obtain ⟨_, D, _, _, h4⟩ := cmS_some h
    have b1 : acc.2.2.2.1 ≤ (ptV f p acc D).2.2.2.1 := Nat.le_max_left _ _
    have b2 : acc.2.2.1 < (ptV f p acc D).2.2.1 := by show acc.2.2.1 < acc.2.2.1 + (1 + D.2.2.1); omega
    split at h4
    · cases h4; exact ⟨b1, b2⟩
    · have := ih _ _ _ h4
      omega
/-- children that are no deeper than the whole allows may be taken from another book -/
theorem cmS_ch {f : Nat → Int32} {e G : Nat} {ch ch' : Nat → Option Dat} : ∀ (m p : Nat) (acc R : Dat), cmS f e G ch m p acc = some R → (∀ x D, ch x = some D → D.2.2.2.1 + 1 ≤ R.2.2.2.1 → ch' x = some D) → cmS f e G ch' m p acc = some R := by
  intro m
  induction m with
  | zero => intro p acc R h; cases h
  | succ m ih =>
    intro p acc R h hc
    obtain ⟨h1, D, h2, h3, h4⟩ := cmS_some h
    have b1 : D.2.2.2.1 + 1 ≤ (ptV f p acc D).2.2.2.1 := Nat.le_max_right _ _
    have hd : D.2.2.2.1 + 1 ≤ R.2.2.2.1 := by
      split at h4
      · cases h4; exact b1
      · have := (cmS_dep _ _ _ _ h4).1
        omega
    rw [cmS_of h1 (hc _ D h2 hd) h3]
    split at h4
    · rename_i c
      rw [if_pos c]; exact h4
    · rename_i c
      rw [if_neg c]; exact ih _ _ _ h4 hc
theorem sp_mono {f : Nat → Int32} {bg : Nat → Nat} {G : Nat} : ∀ (k g : Nat) (D : Dat), sp f bg G k g = some D → sp f bg G (k + 1) g = some D := by
  intro k
  induction k with
  | zero => intro g D h; cases h
  | succ k ih =>
    intro g D h
    have h' : spG f bg G (sp f bg G k) g = some D := h
    show spG f bg G (sp f bg G (k + 1)) g = some D
    unfold spG at h' ⊢
    by_cases c1 : bg g = bg (g + 1)
    · rw [if_pos c1] at h' ⊢; exact h'
    rw [if_neg c1] at h' ⊢
    by_cases c2 : bg (g + 1) < bg g + 10
    · rw [if_pos c2] at h' ⊢; exact h'
    rw [if_neg c2] at h' ⊢
    by_cases c3 : s16 (W2 f (bg g)) = -1
    · rw [if_pos c3] at h' ⊢
      exact cmS_ch _ _ _ _ h' (fun x D hx _ => ih x D hx)
    · rw [if_neg c3] at h' ⊢; exact h'
theorem sp_up {f : Nat → Int32} {bg : Nat → Nat} {G k g : Nat} {D : Dat} (h : sp f bg G k g = some D) : ∀ d, sp f bg G (k + d) g = some D := by
  intro d
  induction d with
  | zero => exact h
  | succ d ih => exact sp_mono _ _ _ ih
theorem cmS_d4 {f : Nat → Int32} {e G : Nat} {ch : Nat → Option Dat} : ∀ (m p : Nat) (acc R : Dat), cmS f e G ch m p acc = some R → R.2.2.2.1 ≤ 4 ∧ R.2.2.1 ≤ 40 := by
  intro m
  induction m with
  | zero => intro p acc R h; cases h
  | succ m ih =>
    intro p acc R h
    obtain ⟨h1, D, h2, h3, h4⟩ := cmS_some h
    split at h4
    · cases h4; exact ⟨h3.2.1, h3.1⟩
    · exact ih _ _ _ h4
theorem sp_dep {f : Nat → Int32} {bg : Nat → Nat} {G : Nat} : ∀ (k g : Nat) (D : Dat), sp f bg G k g = some D → D.2.2.2.1 ≤ 4 ∧ D.2.2.1 ≤ 40 ∧ sp f bg G (D.2.2.2.1 + 1) g = some D := by
  intro k
  induction k with
  | zero => intro g D h; cases h
  | succ k ih =>
    intro g D h
    have h' : spG f bg G (sp f bg G k) g = some D := h
    show _ ∧ _ ∧ spG f bg G (sp f bg G D.2.2.2.1) g = some D
    unfold spG at h' ⊢
    by_cases c1 : bg g = bg (g + 1)
    · rw [if_pos c1] at h' ⊢
      cases h'
      exact ⟨Nat.zero_le _, Nat.zero_le _, rfl⟩
    rw [if_neg c1] at h' ⊢
    by_cases c2 : bg (g + 1) < bg g + 10
    · rw [if_pos c2] at h'; cases h'
    rw [if_neg c2] at h' ⊢
    by_cases c3 : s16 (W2 f (bg g)) = -1
    · rw [if_pos c3] at h' ⊢
      obtain ⟨d1, d2⟩ := cmS_d4 _ _ _ _ h'
      refine ⟨d1, d2, cmS_ch _ _ _ _ h' (fun x D' hx hd => ?_)⟩
      have := sp_up (ih x D' hx).2.2 (D.2.2.2.1 - (D'.2.2.2.1 + 1))
      rw [show D'.2.2.2.1 + 1 + (D.2.2.2.1 - (D'.2.2.2.1 + 1)) = D.2.2.2.1 by omega] at this
      exact this
    · rw [if_neg c3] at h' ⊢
      by_cases c4 : s16 (W2 f (bg g)) < 0
      · rw [if_pos c4] at h'; cases h'
      rw [if_neg c4] at h' ⊢
      by_cases c5 : (s16 (W2 f (bg g))).toNatClampNeg ≤ 16
      · rw [if_pos c5] at h' ⊢
        obtain ⟨_, _, e1, e2, _⟩ := smD_E h'
        exact ⟨by omega, by omega, h'⟩
      · rw [if_neg c5] at h'; cases h'
/-- five levels are all there are -/
theorem sp_five {f : Nat → Int32} {bg : Nat → Nat} {G k g : Nat} {D : Dat} (h : sp f bg G k g = some D) : sp f bg G 5 g = some D := by
  obtain ⟨h1, _, h2⟩ := sp_dep _ _ _ h
  have := sp_up h2 (5 - (D.2.2.2.1 + 1))
  rw [show D.2.2.2.1 + 1 + (5 - (D.2.2.2.1 + 1)) = 5 by omega] at this
  exact this
theorem sp_65 {f : Nat → Int32} {bg : Nat → Nat} {G g : Nat} : sp f bg G 5 g = spG f bg G (sp f bg G 5) g := by
  cases h : spG f bg G (sp f bg G 5) g with
  | some D => exact sp_five (k := 6) h
  | none =>
    cases h5 : sp f bg G 5 g with
    | none => rfl
    | some D =>
      have : spG f bg G (sp f bg G 5) g = some D := sp_mono _ _ _ h5
      rw [h] at this; cases this
def WfD (D : Dat) : Prop := D.1 ≤ 256 ∧ D.2.1 ≤ 32 ∧ (∀ k, k < D.1 → sml (D.2.2.2.2.1 k) ∧ sml (D.2.2.2.2.2.1 k) ∧ (D.2.2.2.2.2.2.1 k = 0 ∨ D.2.2.2.2.2.2.1 k = 1)) ∧ (∀ i, i < D.2.1 → D.2.2.2.2.2.2.2 i < D.1 ∧ (1 ≤ i → D.2.2.2.2.2.2.2 (i - 1) < D.2.2.2.2.2.2.2 i)) ∧ (D.2.1 = 0 → D.1 = 0) ∧ (1 ≤ D.2.1 → D.2.2.2.2.2.2.2 (D.2.1 - 1) + 1 = D.1)
theorem D0_wf : WfD D0 := ⟨by decide, by decide, fun k hk => absurd hk (Nat.not_lt_zero _), fun i hi => absurd hi (Nat.not_lt_zero _), fun _ => rfl, fun h => absurd h (by decide)⟩
theorem ob_b (b : Int32) : ob b = 0 ∨ ob b = 1 := by
  unfold ob
  split
  · exact Or.inl rfl
  · exact Or.inr rfl
theorem axV_s {f : Nat → Int32} {e : Nat} {sb mb : Int32} {F : Nat → Int32} {q cnt k : Nat} {r : Int32 × Nat} (h : axS f e sb mb F q cnt = some r) (hk : k < cnt) : sml (axV f e sb mb F q k) := by
  obtain ⟨⟨v, qq⟩, h1⟩ := axS_some (cnt - (k + 1)) (k + 1) (by rw [show k + 1 + (cnt - (k + 1)) = cnt by omega]; exact h)
  rw [← axV_of h1]
  have h' : (axS f e sb mb F q k).bind _ = some (v, qq) := h1
  obtain ⟨vq, _, h2⟩ := Option.bind_eq_some_iff.mp h'
  obtain ⟨sq, _, h3⟩ := Option.bind_eq_some_iff.mp h2
  split at h3
  · rename_i c
    cases h3
    exact c
  · cases h3
theorem smD_wf {f : Nat → Int32} {p e n : Nat} {D : Dat} (hn : n ≤ 16) (h : smD f p e n = some D) : WfD D := by
  obtain ⟨e1, e2, _, _, e5, hE⟩ := smD_E h
  have hc := cnt_le hE
  have h0 := h
  unfold smD at h
  by_cases c : enC f p e n ∧ skC f p e n
  · rw [if_pos c] at h
    obtain ⟨Fq, _, h2⟩ := Option.bind_eq_some_iff.mp h
    obtain ⟨vx, g1, h3⟩ := Option.bind_eq_some_iff.mp h2
    obtain ⟨vy, g2, h4⟩ := Option.bind_eq_some_iff.mp h3
    cases h4
    refine ⟨Nat.le_trans hc (by omega), Nat.le_trans hn (by omega), fun k hk => ⟨axV_s g1 hk, axV_s g2 hk, ob_b _⟩, fun i hi => ⟨?_, fun h1 => (hE i hi).2.2 h1⟩, fun h => ?_, fun h => ?_⟩
    · show W2 f (p + 2 * i) < cntOf f p n
      have mono : ∀ a, i + a < n → W2 f (p + 2 * i) ≤ W2 f (p + 2 * (i + a)) := by
        intro a
        induction a with
        | zero => intro _; exact Nat.le_refl _
        | succ a iha =>
          intro ha
          have q1 := iha (by omega)
          have q2 := (hE (i + (a + 1)) (by omega)).2.2 (by omega)
          rw [show i + (a + 1) - 1 = i + a by omega] at q2
          omega
      have hi' : i < n := hi
      have := mono (n - 1 - i) (by omega)
      rw [show i + (n - 1 - i) = n - 1 by omega] at this
      cases n with
      | zero => omega
      | succ n => rw [cntS]; simp only [Nat.add_sub_cancel] at this; omega
    · have h' : n = 0 := h
      show cntOf f p n = 0
      rw [h']; rfl
    · have h' : 1 ≤ n := h
      show W2 f (p + 2 * (n - 1)) + 1 = cntOf f p n
      cases n with
      | zero => omega
      | succ n => rfl
  · rw [if_neg c] at h; cases h
theorem ptV_wf {f : Nat → Int32} {p : Nat} {acc D : Dat} (ha : WfD acc) (hD : WfD D) (h : ptC f p acc D) : WfD (ptV f p acc D) := by
  obtain ⟨_, _, j1, j2, j3⟩ := h
  obtain ⟨a1, a2, a3, a4, a5, a6⟩ := ha
  obtain ⟨d1, d2, d3, d4, d5, d6⟩ := hD
  refine ⟨j1, j2, fun k hk => ?_, fun i hi => ?_, fun h => ?_, fun h => ?_⟩
  · have hk : k < acc.1 + D.1 := hk
    show sml (if k < acc.1 then _ else _) ∧ sml (if k < acc.1 then _ else _) ∧ ((if k < acc.1 then _ else _) = 0 ∨ (if k < acc.1 then _ else _) = 1)
    by_cases c : k < acc.1
    · rw [if_pos c, if_pos c, if_pos c]; exact a3 k c
    · rw [if_neg c, if_neg c, if_neg c]
      exact ⟨(j3 _ (by omega)).1, (j3 _ (by omega)).2, (d3 _ (by omega)).2.2⟩
  · have hi : i < acc.2.1 + D.2.1 := hi
    show (if i < acc.2.1 then _ else _) < acc.1 + D.1 ∧ (1 ≤ i → (if i - 1 < acc.2.1 then _ else _) < (if i < acc.2.1 then _ else _))
    by_cases c : i < acc.2.1
    · rw [if_pos c]
      refine ⟨Nat.lt_of_lt_of_le (a4 i c).1 (by omega), fun h1 => ?_⟩
      rw [if_pos (by omega)]
      exact (a4 i c).2 h1
    · rw [if_neg c]
      have q := d4 (i - acc.2.1) (by omega)
      refine ⟨by omega, fun h1 => ?_⟩
      by_cases c2 : i - 1 < acc.2.1
      · rw [if_pos c2]
        have := (a4 (i - 1) c2).1
        omega
      · rw [if_neg c2, show i - 1 - acc.2.1 = i - acc.2.1 - 1 by omega]
        have := q.2 (by omega)
        omega
  · have h' : acc.2.1 + D.2.1 = 0 := h
    show acc.1 + D.1 = 0
    rw [a5 (by omega), d5 (by omega)]
  · have h' : 1 ≤ acc.2.1 + D.2.1 := h
    have goal : (if acc.2.1 + D.2.1 - 1 < acc.2.1 then acc.2.2.2.2.2.2.2 (acc.2.1 + D.2.1 - 1) else acc.1 + D.2.2.2.2.2.2.2 (acc.2.1 + D.2.1 - 1 - acc.2.1)) + 1 = acc.1 + D.1 := by
      by_cases c : acc.2.1 + D.2.1 - 1 < acc.2.1
      · rw [if_pos c]
        have z : D.2.1 = 0 := by omega
        rw [show acc.2.1 + D.2.1 - 1 = acc.2.1 - 1 by omega, a6 (by omega), d5 z]; rfl
      · rw [if_neg c, show acc.2.1 + D.2.1 - 1 - acc.2.1 = D.2.1 - 1 by omega]
        have := d6 (by omega)
        omega
    exact goal
theorem cmS_wf {f : Nat → Int32} {e G : Nat} {ch : Nat → Option Dat} (hch : ∀ x D, ch x = some D → WfD D) : ∀ (m p : Nat) (acc R : Dat), WfD acc → cmS f e G ch m p acc = some R → WfD R := by
  intro m
  induction m with
  | zero => intro p acc R _ h; cases h
  | succ m ih =>
    intro p acc R ha h
    obtain ⟨h1, D, h2, h3, h4⟩ := cmS_some h
    split at h4
    · cases h4; exact ptV_wf ha (hch _ _ h2) h3
    · exact ih _ _ _ (ptV_wf ha (hch _ _ h2) h3) h4
theorem sp_wf {f : Nat → Int32} {bg : Nat → Nat} {G : Nat} : ∀ (k g : Nat) (D : Dat), sp f bg G k g = some D → WfD D := by
  intro k
  induction k with
  | zero => intro g D h; cases h
  | succ k ih =>
    intro g D h
    have h' : spG f bg G (sp f bg G k) g = some D := h
    unfold spG at h'
    split at h'
    · cases h'; exact D0_wf
    · split at h'
      · cases h'
      · split at h'
        · exact cmS_wf ih _ _ _ _ D0_wf h'
        · split at h'
          · cases h'
          · split at h'
            · rename_i c
              exact smD_wf c h'
            · cases h'
