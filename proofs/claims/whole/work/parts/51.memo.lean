/-! PURE ROWS: the reference's book of glyphs -/
abbrev MSt : Type := (Nat → Int32) × (Nat → Int32) × (Nat → Int32) × (Nat → Int32) × (Nat → Int32) × (Nat → Int32) × (Nat → Int32) × (Nat → Int32)
def MemS (D : Dat) (g : Nat) (S : MSt) : Prop := MemD D g S.2.2.1 S.2.2.2.1 S.2.2.2.2.1 S.2.2.2.2.2.1 S.2.2.2.2.2.2.1 S.2.2.2.2.2.2.2 ∧ S.2.1 g = nI D.2.2.1 ∧ S.1 g = nI D.2.2.2.1
def RowE (h : Nat) (S T : MSt) : Prop := T.1 h = S.1 h ∧ T.2.1 h = S.2.1 h ∧ T.2.2.1 h = S.2.2.1 h ∧ T.2.2.2.1 h = S.2.2.2.1 h ∧ ∀ k, k < 256 → T.2.2.2.2.1 (256 * h + k) = S.2.2.2.2.1 (256 * h + k) ∧ T.2.2.2.2.2.1 (256 * h + k) = S.2.2.2.2.2.1 (256 * h + k) ∧ T.2.2.2.2.2.2.1 (256 * h + k) = S.2.2.2.2.2.2.1 (256 * h + k) ∧ T.2.2.2.2.2.2.2 (256 * h + k) = S.2.2.2.2.2.2.2 (256 * h + k)
theorem RowE.rf (h : Nat) (S : MSt) : RowE h S S := ⟨rfl, rfl, rfl, rfl, fun _ _ => ⟨rfl, rfl, rfl, rfl⟩⟩
theorem RowE.tr {h : Nat} {S T U : MSt} (a : RowE h S T) (b : RowE h T U) : RowE h S U := by
  obtain ⟨a1, a2, a3, a4, a5⟩ := a
  obtain ⟨b1, b2, b3, b4, b5⟩ := b
  refine ⟨b1.trans a1, b2.trans a2, b3.trans a3, b4.trans a4, fun k hk => ?_⟩
  obtain ⟨p1, p2, p3, p4⟩ := a5 k hk
  obtain ⟨q1, q2, q3, q4⟩ := b5 k hk
  exact ⟨q1.trans p1, q2.trans p2, q3.trans p3, q4.trans p4⟩
theorem MemS.row {D : Dat} {g : Nat} {S T : MSt} (h : MemS D g S) (w : WfD D) (r : RowE g S T) : MemS D g T := by
  obtain ⟨⟨m1, m2, m3, m4⟩, m5, m6⟩ := h
  obtain ⟨r1, r2, r3, r4, r5⟩ := r
  obtain ⟨w1, w2, w3, w4, w5, w6⟩ := w
  refine ⟨⟨r3.trans m1, r4.trans m2, fun k hk => ?_, fun i hi k h1 h2 => ?_⟩, r2.trans m5, r1.trans m6⟩
  · obtain ⟨a, b, c, _⟩ := r5 k (by omega)
    obtain ⟨p, q, r⟩ := m3 k hk
    exact ⟨a.trans p, b.trans q, c.trans r⟩
  · have := (w4 i hi).1
    obtain ⟨_, _, _, d⟩ := r5 k (by omega)
    exact d.trans (m4 i hi k h1 h2)
def GS (f : Nat → Int32) (bg : Nat → Nat) (G : Nat) (done : Nat → Int32) (S : MSt) : Prop := ∀ h, h < G → done h = 0 ∨ (done h = 1 ∧ ∃ D, sp f bg G 5 h = some D ∧ MemS D h S)
def Out (f : Nat → Int32) (bg : Nat → Nat) (G l g : Nat) (done : Nat → Int32) (S : MSt) (r : Int32) (done' : Nat → Int32) (S' : MSt) (gd : Int32) : Prop := (r = 0 ∧ sp f bg G (5 - l) g = none) ∨ (r = 1 ∧ gd = 1 ∧ ∃ D, sp f bg G 5 g = some D ∧ done' g = 1 ∧ GS f bg G done' S' ∧ (∀ h, h < G → done h = 1 → done' h = 1) ∧ (∀ h, h < G → done' h = 0 → RowE h S S') ∧ ∀ h, h < G → done h = 0 → done' h = 1 → ∃ D', sp f bg G 5 h = some D' ∧ D'.2.2.2.1 ≤ D.2.2.2.1)
def OutC (f : Nat → Int32) (bg : Nat → Nat) (G l g : Nat) (done : Nat → Int32) (S : MSt) (r : Int32) (done' : Nat → Int32) (S' : MSt) (gd : Int32) : Prop := (r = 0 ∧ sp f bg G (5 - l) g = none) ∨ (r = 1 ∧ gd = 1 ∧ ∃ D, sp f bg G 5 g = some D ∧ MemS D g S' ∧ done' g = 0 ∧ GS f bg G done' S' ∧ (∀ h, h < G → done h = 1 → done' h = 1) ∧ (∀ h, h < G → h ≠ g → done' h = 0 → RowE h S S') ∧ ∀ h, h < G → done h = 0 → done' h = 1 → ∃ D', sp f bg G 5 h = some D' ∧ D'.2.2.2.1 ≤ D.2.2.2.1)
def CInv (f : Nat → Int32) (bg : Nat → Nat) (G l g e m p : Nat) (acc : Dat) (done0 : Nat → Int32) (S0 : MSt) (done : Nat → Int32) (S : MSt) : Prop := MemS acc g S ∧ WfD acc ∧ GS f bg G done S ∧ done g = 0 ∧ sp f bg G 5 g = cmS f e G (sp f bg G 5) m p acc ∧ (sp f bg G (5 - l) g = none ∨ sp f bg G (5 - l) g = cmS f e G (sp f bg G (4 - l)) m p acc) ∧ p ≤ e ∧ (∀ h, h < G → done0 h = 1 → done h = 1) ∧ (∀ h, h < G → h ≠ g → done h = 0 → RowE h S0 S) ∧ (∀ h, h < G → done0 h = 0 → done h = 1 → ∃ D', sp f bg G 5 h = some D' ∧ D'.2.2.2.1 + 1 ≤ acc.2.2.2.1) ∧ 41 ≤ acc.2.2.1 + m ∧ acc.2.2.1 ≤ 40 ∧ acc.2.2.2.1 ≤ 4
theorem sp_none5 {f : Nat → Int32} {bg : Nat → Nat} {G g : Nat} (h : sp f bg G 5 g = none) (k : Nat) : sp f bg G k g = none := by
  cases hk : sp f bg G k g with
  | none => rfl
  | some D => rw [sp_five hk] at h; cases h
theorem zero_one {a : Int32} (h : a = 0) : ¬ a = 1 := by rw [h]; decide
/-- a part was found good: the glyph that is under way was not touched -/
theorem cstep1 {f : Nat → Int32} {bg : Nat → Nat} {G l g e m p : Nat} {acc : Dat} {done0 : Nat → Int32} {S0 : MSt} {done : Nat → Int32} {S : MSt} (hg : g < G) (hI : CInv f bg G l g e (m + 1) p acc done0 S0 done S) (hO : hOk f p e G) {done' : Nat → Int32} {S' : MSt} {D : Dat} (hD : sp f bg G 5 (W2 f (p + 2)) = some D) (h1 : done' (W2 f (p + 2)) = 1) (h2 : GS f bg G done' S') (h3 : ∀ h, h < G → done h = 1 → done' h = 1) (h4 : ∀ h, h < G → done' h = 0 → RowE h S S') (h5 : ∀ h, h < G → done h = 0 → done' h = 1 → ∃ D', sp f bg G 5 h = some D' ∧ D'.2.2.2.1 ≤ D.2.2.2.1) : done' g = 0 ∧ g ≠ W2 f (p + 2) ∧ MemS acc g S' ∧ MemS D (W2 f (p + 2)) S' := by
  obtain ⟨i1, i2, i3, i4, i5, i6, i7, i8, i9, i10, i11, i12, i13⟩ := hI
  have d0 : done' g = 0 := by
    rcases h2 g hg with q | ⟨q, _⟩
    · exact q
    · exfalso
      obtain ⟨D', e1, e2⟩ := h5 g hg i4 q
      rw [i5] at e1
      obtain ⟨_, D2, e3, e4, e5⟩ := cmS_some e1
      rw [hD] at e3
      cases e3
      have b1 : D.2.2.2.1 + 1 ≤ (ptV f p acc D).2.2.2.1 := Nat.le_max_right _ _
      split at e5
      · cases e5; omega
      · have := (cmS_dep _ _ _ _ e5).1
        omega
  refine ⟨d0, fun q => ?_, i1.row i2 (h4 g hg d0), ?_⟩
  · rw [← q] at h1
    exact zero_one d0 h1
  · rcases h2 _ hO.2.2 with q | ⟨_, D2, e1, e2⟩
    · exact absurd h1 (zero_one q)
    · rw [hD] at e1; cases e1; exact e2
/-- .. and when it is joined -/
theorem cstep2 {f : Nat → Int32} {bg : Nat → Nat} {G l g e m p : Nat} {acc : Dat} {done0 : Nat → Int32} {S0 : MSt} {done : Nat → Int32} {S : MSt} (hg : g < G) (hI : CInv f bg G l g e (m + 1) p acc done0 S0 done S) (hO : hOk f p e G) {done' : Nat → Int32} {S' S'' : MSt} {D : Dat} (hD : sp f bg G 5 (W2 f (p + 2)) = some D) (d0 : done' g = 0) (h2 : GS f bg G done' S') (h3 : ∀ h, h < G → done h = 1 → done' h = 1) (h4 : ∀ h, h < G → done' h = 0 → RowE h S S') (h5 : ∀ h, h < G → done h = 0 → done' h = 1 → ∃ D', sp f bg G 5 h = some D' ∧ D'.2.2.2.1 ≤ D.2.2.2.1) (hC : ptC f p acc D) (hM : MemS (ptV f p acc D) g S'') (hR : ∀ h, h < G → h ≠ g → RowE h S' S'') : (hF f p &&& (32 : Int32) = 0 → OutC f bg G l g done0 S0 1 done' S'' 1) ∧ (¬ hF f p &&& (32 : Int32) = 0 → CInv f bg G l g e m (p + hL (hF f p)) (ptV f p acc D) done0 S0 done' S'') := by
  obtain ⟨i1, i2, i3, i4, i5, i6, i7, i8, i9, i10, i11, i12, i13⟩ := hI
  have wD := sp_wf _ _ _ hD
  have e5 := i5.trans (cmS_of hO hD hC)
  have b1 : D.2.2.2.1 + 1 ≤ (ptV f p acc D).2.2.2.1 := Nat.le_max_right _ _
  have b2 : acc.2.2.2.1 ≤ (ptV f p acc D).2.2.2.1 := Nat.le_max_left _ _
  have b3 : (ptV f p acc D).2.2.1 = acc.2.2.1 + (1 + D.2.2.1) := rfl
  have gs : GS f bg G done' S'' := by
    intro h hh
    by_cases q : h = g
    · rw [q]; exact Or.inl d0
    · rcases h2 h hh with w | ⟨w, D2, w1, w2⟩
      · exact Or.inl w
      · exact Or.inr ⟨w, D2, w1, w2.row (sp_wf _ _ _ w1) (hR h hh q)⟩
  have k1 : ∀ h, h < G → done0 h = 1 → done' h = 1 := fun h hh q => h3 h hh (i8 h hh q)
  have k2 : ∀ h, h < G → h ≠ g → done' h = 0 → RowE h S0 S'' := by
    intro h hh hne q
    have q0 : done h = 0 := by
      rcases i3 h hh with w | ⟨w, _⟩
      · exact w
      · exact absurd (h3 h hh w) (zero_one q)
    exact ((i9 h hh hne q0).tr (h4 h hh q)).tr (hR h hh hne)
  have k3 : ∀ h, h < G → done0 h = 0 → done' h = 1 → ∃ D', sp f bg G 5 h = some D' ∧ D'.2.2.2.1 + 1 ≤ (ptV f p acc D).2.2.2.1 := by
    intro h hh q0 q1
    rcases i3 h hh with w | ⟨w, _⟩
    · obtain ⟨D', w1, w2⟩ := h5 h hh w q1
      exact ⟨D', w1, by omega⟩
    · obtain ⟨D', w1, w2⟩ := i10 h hh q0 w
      exact ⟨D', w1, by omega⟩
  constructor
  · intro c
    rw [if_pos c] at e5
    exact Or.inr ⟨rfl, rfl, _, e5, hM, d0, gs, k1, k2, fun h hh q0 q1 => by
      obtain ⟨D', w1, w2⟩ := k3 h hh q0 q1
      exact ⟨D', w1, by omega⟩⟩
  · intro c
    rw [if_neg c] at e5
    refine ⟨hM, ptV_wf i2 wD hC, gs, d0, e5, ?_, by have := hO.1; omega, k1, k2, k3, ?_, hC.1, hC.2.1⟩
    · rcases i6 with w | w
      · exact Or.inl w
      · cases h4c : sp f bg G (4 - l) (W2 f (p + 2)) with
        | none => exact Or.inl (w.trans (cmS_no (fun q => by obtain ⟨_, D2, q2, _⟩ := q; rw [h4c] at q2; cases q2)))
        | some D2 =>
          have : D2 = D := by
            have q := sp_five h4c
            rw [hD] at q; cases q; rfl
          rw [this] at h4c
          have := w.trans (cmS_of hO h4c hC)
          rw [if_neg c] at this
          exact Or.inr this
    · rw [b3]; omega
/-- the reference joins D behind acc -/
theorem join_D {g pt : Nat} (hg : g < 64) (hp : pt < 64) (hne : g ≠ pt) {acc D : Dat} {cs ps x y on ct : Nat → Int32} (wa : WfD acc) (wD : WfD D) (ma : MemD acc g cs ps x y on ct) (mD : MemD D pt cs ps x y on ct) {dx dy : Int32} {M : Int32 × Int32 × Int32 × Int32} (hdx : w16 dx) (hdy : w16 dy) (hM : w16 M.1 ∧ w16 M.2.1 ∧ w16 M.2.2.1 ∧ w16 M.2.2.2) (prt dep : Nat) : (jnC acc D dx dy M → ∃ cs' ps' x' y' on' ct', P_Mo_join cs ps x y on ct (nI g) (nI pt) dx dy M.1 M.2.1 M.2.2.1 M.2.2.2 = some (1, cs', ps', x', y', on', ct') ∧ MemD (jnV acc D dx dy M prt dep) g cs' ps' x' y' on' ct' ∧ ∀ h, h ≠ g → cs' h = cs h ∧ ps' h = ps h ∧ ∀ k, k < 256 → x' (256 * h + k) = x (256 * h + k) ∧ y' (256 * h + k) = y (256 * h + k) ∧ on' (256 * h + k) = on (256 * h + k) ∧ ct' (256 * h + k) = ct (256 * h + k)) ∧ (¬ jnC acc D dx dy M → ∃ u, P_Mo_join cs ps x y on ct (nI g) (nI pt) dx dy M.1 M.2.1 M.2.2.1 M.2.2.2 = some u ∧ u.1 = 0) := by
  obtain ⟨a1, a2, a3, a4⟩ := ma
  obtain ⟨d1, d2, d3, d4⟩ := mD
  obtain ⟨wa1, wa2, wa3, wa4, wa5, wa6⟩ := wa
  obtain ⟨wd1, wd2, wd3, wd4, wd5, wd6⟩ := wD
  have hM' := hM
  obtain ⟨m1, m2, m3, m4⟩ := hM
  unfold P_Mo_join
  simp only [bdI (show g < 64 by omega) (show 64 < 2 ^ 31 by omega), bdI (show pt < 64 by omega) (show 64 < 2 ^ 31 by omega), nI_clamp (show g < 2 ^ 31 by omega), nI_clamp (show pt < 2 ^ 31 by omega), a1, a2, d1, d2, nI_add]
  rw [show (256 : Int32) = nI 256 from rfl, show (32 : Int32) = nI 32 from rfl]
  by_cases c1 : 256 < acc.1 + D.1
  · rw [if_pos (nI_lt c1 (by omega))]
    exact ⟨fun k => absurd k.1 (by omega), fun _ => ⟨_, rfl, rfl⟩⟩
  rw [if_neg (nI_nlt (by omega) (by omega))]
  by_cases c2 : acc.2.1 + D.2.1 ≤ 32
  · rw [if_pos (nI_le c2 (by omega))]
    rcases join_i (C := acc.2.1) hg hp hne (show acc.1 + D.1 ≤ 256 by omega) hdx hdy m1 m2 m3 m4 cs ps a1 D.1 0 fuel x y on ct (by omega) (by unfold fuel; omega) (fun i hi => by
        obtain ⟨q1, q2, q3⟩ := d3 i hi
        obtain ⟨w1, w2, w3⟩ := wd3 i hi
        rw [q1, q2, q3]
        exact ⟨sml_w w1, sml_w w2, w3⟩) with ⟨x', y', on', ct', e1, e2, e3⟩ | ⟨⟨i, i1, i2, i3⟩, e2⟩
    · have e1 : P_Mo_join_50 (nI g) (nI pt) dx dy M.1 M.2.1 M.2.2.1 M.2.2.2 (nI acc.1) (nI D.1) 0 cs ps x y on ct = _ := e1
      rw [e1]
      constructor
      · intro hj
        refine ⟨_, _, _, _, _, _, rfl, ⟨?_, ?_, fun k hk => ?_, fun i hi k h1 h2 => ?_⟩, fun h hh => ⟨pk_un hh, pk_un hh, fun k hk => ?_⟩⟩
        · rw [pk_us, d1, nI_add]; rfl
        · rw [pk_us]; rfl
        · have hk : k < acc.1 + D.1 := hk
          show x' (256 * g + k) = (if k < acc.1 then _ else _) ∧ y' (256 * g + k) = (if k < acc.1 then _ else _) ∧ on' (256 * g + k) = (if k < acc.1 then _ else _)
          by_cases c : k < acc.1
          · rw [if_pos c, if_pos c, if_pos c]
            obtain ⟨p1, p2, p3, _⟩ := e3 (256 * g + k) (Or.inl (by omega))
            rw [p1, p2, p3]
            exact a3 k c
          · rw [if_neg c, if_neg c, if_neg c]
            obtain ⟨_, _, p1, p2, p3, _⟩ := e2 (k - acc.1) (by omega) (by omega)
            rw [show 256 * g + acc.1 + (k - acc.1) = 256 * g + k by omega] at p1 p2 p3
            obtain ⟨q1, q2, q3⟩ := d3 (k - acc.1) (by omega)
            rw [p1, p2, p3, q1, q2, q3]
            exact ⟨rfl, rfl, rfl⟩
        · have hi : i < acc.2.1 + D.2.1 := hi
          have h1 : 1 ≤ i → (if i - 1 < acc.2.1 then acc.2.2.2.2.2.2.2 (i - 1) else acc.1 + D.2.2.2.2.2.2.2 (i - 1 - acc.2.1)) < k := h1
          have h2 : k ≤ (if i < acc.2.1 then acc.2.2.2.2.2.2.2 i else acc.1 + D.2.2.2.2.2.2.2 (i - acc.2.1)) := h2
          by_cases c : i < acc.2.1
          · rw [if_pos c] at h2
            have := (wa4 i c).1
            obtain ⟨_, _, _, p4⟩ := e3 (256 * g + k) (Or.inl (by omega))
            rw [p4]
            apply a4 i c k _ h2
            intro w
            have := h1 w
            rw [if_pos (by omega)] at this
            exact this
          · rw [if_neg c] at h2
            have hb := (wd4 (i - acc.2.1) (by omega)).1
            have hk : acc.1 ≤ k := by
              rcases Nat.lt_or_ge i 1 with w | w
              · have : acc.2.1 = 0 := by omega
                rw [wa5 this]; omega
              · have q := h1 w
                by_cases c3 : i - 1 < acc.2.1
                · rw [if_pos c3] at q
                  have z : i = acc.2.1 := by omega
                  have := wa6 (by omega)
                  rw [z] at q
                  omega
                · rw [if_neg c3] at q; omega
            obtain ⟨_, _, _, _, _, p6⟩ := e2 (k - acc.1) (by omega) (by omega)
            rw [show 256 * g + acc.1 + (k - acc.1) = 256 * g + k by omega] at p6
            rw [p6, d4 (i - acc.2.1) (by omega) (k - acc.1) (fun w => by
              have q := h1 (by omega)
              rw [if_neg (by omega)] at q
              rw [show i - 1 - acc.2.1 = i - acc.2.1 - 1 by omega] at q
              omega) (by omega), nI_add, show acc.2.1 + (0 + (i - acc.2.1)) = 0 + i by omega]
        · obtain ⟨p1, p2, p3, p4⟩ := e3 (256 * h + k) (by omega)
          exact ⟨p1, p2, p3, p4⟩
      · intro hj
        refine absurd ⟨by omega, c2, fun k hk => ?_⟩ hj
        obtain ⟨p1, p2, _⟩ := e2 k (by omega) hk
        obtain ⟨q1, q2, q3⟩ := d3 k hk
        rw [q1, q2] at p1 p2
        exact ⟨p1, p2⟩
    · refine ⟨fun k => ?_, fun _ => e2⟩
      obtain ⟨q1, q2, q3⟩ := d3 i i2
      rw [q1, q2] at i3
      exact absurd (k.2.2 i i2) i3
  · rw [if_neg (nI_ge (by omega) (by omega))]
    exact ⟨fun k => absurd k.2.1 c2, fun _ => ⟨_, rfl, rfl⟩⟩
