/-! PURE ROWS: the reference's glyphs, level by level (printed by wip/whole/gen/glyfm2.py) -/
def GCtx (n : Nat) (f g a : Nat → Int32) (F G s z s1 : Nat) : Prop := n ≤ 4096 ∧ Agr n f g ∧ a 1 = nI s1 ∧ a 6 = nI s ∧ s + z ≤ n ∧ F ≤ 1 ∧ G ≤ 64 ∧ (G + 1) * (if F = 0 then 2 else 4) ≤ z ∧ (∀ j, 1 ≤ j → j ≤ G → lo n f s F (j - 1) ≤ lo n f s F j) ∧ s1 + lo n f s F G ≤ n
def bgF (n : Nat) (f : Nat → Int32) (s F s1 : Nat) : Nat → Nat := fun j => s1 + lo n f s F j
theorem GCtx.up {n : Nat} {f g a : Nat → Int32} {F G s z s1 : Nat} (H : GCtx n f g a F G s z s1) : ∀ d j, j + d = G → lo n f s F j ≤ lo n f s F G := by
  obtain ⟨_, _, _, _, _, _, _, _, h, _⟩ := H
  intro d
  induction d with
  | zero => intro j hj; rw [show j = G by omega]; exact Nat.le_refl _
  | succ d ih =>
    intro j hj
    have a1 := ih (j + 1) (by omega)
    have a2 := h (j + 1) (by omega) (by omega)
    rw [Nat.add_sub_cancel] at a2
    omega
theorem GCtx.le {n : Nat} {f g a : Nat → Int32} {F G s z s1 : Nat} (H : GCtx n f g a F G s z s1) {j : Nat} (hj : j ≤ G) : bgF n f s F s1 j ≤ n := by
  have := H.up (G - j) j (by omega)
  have h2 := H.2.2.2.2.2.2.2.2.2
  unfold bgF
  omega
theorem GCtx.mo {n : Nat} {f g a : Nat → Int32} {F G s z s1 : Nat} (H : GCtx n f g a F G s z s1) {j : Nat} (hj : j < G) : bgF n f s F s1 j ≤ bgF n f s F s1 (j + 1) := by
  have := H.2.2.2.2.2.2.2.2.1 (j + 1) (by omega) (by omega)
  rw [Nat.add_sub_cancel] at this
  unfold bgF
  omega
theorem RowE.u {h gi : Nat} (hne : h ≠ gi) {dep prt cs ps x y on ct : Nat → Int32} (v1 v2 v3 v4 : Int32) : RowE h (dep, prt, cs, ps, x, y, on, ct) (upd dep gi v1, upd prt gi v2, upd cs gi v3, upd ps gi v4, x, y, on, ct) := ⟨pk_un hne, pk_un hne, pk_un hne, pk_un hne, fun _ _ => ⟨rfl, rfl, rfl, rfl⟩⟩
theorem bool1 : vp_nar .boolean (1 : Int32) = 1 := by decide
theorem bool0 : vp_nar .boolean (0 : Int32) = 0 := by decide
theorem s16_of {v : Nat} (h : ¬ s16 v < 0) : ∃ k, k < 65536 ∧ s16 v = nI k := by
  obtain ⟨k, hk, e⟩ := nI_of h
  have := s16_r v
  rw [e, nI_toInt hk] at this
  exact ⟨k, by omega, e⟩
theorem out_done {f : Nat → Int32} {bg : Nat → Nat} {G l g : Nat} {done : Nat → Int32} {S : MSt} (hg : g < G) (h : GS f bg G done S) (h0 : ¬ done g = 0) : Out f bg G l g done S 1 done S 1 := by
  rcases h g hg with q | ⟨q, D, d1, d2⟩
  · exact absurd q h0
  · exact Or.inr ⟨rfl, rfl, D, d1, q, h, fun _ _ w => w, fun h _ _ => RowE.rf h S, fun h _ w1 w2 => absurd w2 (zero_one w1)⟩
/-- a glyph that was made anew, without parts -/
theorem out_new {f : Nat → Int32} {bg : Nat → Nat} {G l g : Nat} {done : Nat → Int32} {S S' : MSt} (h : GS f bg G done S) {D : Dat} (h1 : sp f bg G 5 g = some D) (h2 : MemS D g S') (h3 : ∀ h, h ≠ g → h < G → RowE h S S') : Out f bg G l g done S 1 (upd done g 1) S' 1 := by
  refine Or.inr ⟨rfl, rfl, D, h1, pk_us, fun k hk => ?_, fun k hk w => ?_, fun k hk w => ?_, fun k hk w1 w2 => ?_⟩
  · by_cases q : k = g
    · rw [q, pk_us]; exact Or.inr ⟨rfl, D, h1, h2⟩
    · rw [pk_un q]
      rcases h k hk with w | ⟨w, D2, d1, d2⟩
      · exact Or.inl w
      · exact Or.inr ⟨w, D2, d1, d2.row (sp_wf _ _ _ d1) (h3 k q hk)⟩
  · by_cases q : k = g
    · rw [q, pk_us]
    · rw [pk_un q]; exact w
  · by_cases q : k = g
    · rw [q, pk_us] at w; exact absurd w (by decide)
    · exact h3 k q hk
  · by_cases q : k = g
    · rw [q]; exact ⟨D, h1, Nat.le_refl _⟩
    · rw [pk_un q] at w2; exact absurd w2 (zero_one w1)
/-- .. and one with parts -/
theorem out_comp {f : Nat → Int32} {bg : Nat → Nat} {G l g : Nat} {done done' : Nat → Int32} {S S' : MSt} {gd : Int32} (h : OutC f bg G l g done S 1 done' S' gd) : gd = 1 ∧ ∀ S0 : MSt, (∀ k, k < G → k ≠ g → RowE k S0 S) → Out f bg G l g done S0 1 (upd done' g 1) S' 1 := by
  rcases h with ⟨q, _⟩ | ⟨_, h0, D, h1, h2, h3, h4, h5, h6, h7⟩
  · exact absurd q (by decide)
  refine ⟨h0, fun S0 hS => Or.inr ⟨rfl, rfl, D, h1, pk_us, fun k hk => ?_, fun k hk w => ?_, fun k hk w => ?_, fun k hk w1 w2 => ?_⟩⟩
  · by_cases q : k = g
    · rw [q, pk_us]; exact Or.inr ⟨rfl, D, h1, h2⟩
    · rw [pk_un q]; exact h4 k hk
  · by_cases q : k = g
    · rw [q, pk_us]
    · rw [pk_un q]; exact h5 k hk w
  · by_cases q : k = g
    · rw [q, pk_us] at w; exact absurd w (by decide)
    · rw [pk_un q] at w
      exact (hS k hk q).tr (h6 k hk q w)
  · by_cases q : k = g
    · rw [q]; exact ⟨D, h1, Nat.le_refl _⟩
    · rw [pk_un q] at w2; exact h7 k hk w1 w2
theorem glyph_m_5 {f : Nat → Int32} {bg : Nat → Nat} {G gi : Nat} (hG : G ≤ 64) (hgi : gi < G) {done : Nat → Int32} {S : MSt} (h : GS f bg G done S) : ∃ r, P_Mo_glyphF_L5 done (nI gi) = some r ∧ Out f bg G 5 gi done S r done S 1 := by
  unfold P_Mo_glyphF_L5
  rw [bdI (by omega) (by omega), nI_clamp (by omega)]
  by_cases c : done gi = 0
  · rw [if_pos c]; exact ⟨0, rfl, Or.inl ⟨rfl, rfl⟩⟩
  · rw [if_neg c]; exact ⟨1, rfl, out_done hgi h c⟩
theorem c301_4 {F G gi p e : Nat} {f g a : Nat → Int32} (hG : G ≤ 64) (hgi : gi < G) (hpt : W2 f (p + 2) < G) (hne : gi ≠ W2 f (p + 2)) (z : Int32 × Int32 × Int32 × Int32 × Int32 × (Nat → Int32) × (Nat → Int32) × (Nat → Int32) × (Nat → Int32) × (Nat → Int32) × (Nat → Int32) × (Nat → Int32) × (Nat → Int32) → Option (Int32 × Int32 × Int32 × Int32 × (Nat → Int32) × (Nat → Int32) × (Nat → Int32) × (Nat → Int32) × (Nat → Int32) × (Nat → Int32) × (Nat → Int32) × (Nat → Int32))) (done1 : Nat → Int32) {acc D : Dat} (wa : WfD acc) (wD : WfD D) (bnd : acc.2.2.1 ≤ 40 ∧ D.2.2.1 ≤ 40 ∧ acc.2.2.2.1 ≤ 4 ∧ D.2.2.2.1 ≤ 4) {dep1 prt1 dep2 prt2 cs1 ps1 x1 y1 on1 ct1 : Nat → Int32} (ma : MemD acc gi cs1 ps1 x1 y1 on1 ct1) (mD : MemD D (W2 f (p + 2)) cs1 ps1 x1 y1 on1 ct1) (h1 : dep2 gi = nI (max acc.2.2.2.1 (D.2.2.2.1 + 1))) (h2 : prt2 gi = nI (acc.2.2.1 + (1 + D.2.2.1))) (h3 : ∀ h, h ≠ gi → dep2 h = dep1 h ∧ prt2 h = prt1 h) (q : Int32) : (ptC f p acc D → ∃ cs2 ps2 x2 y2 on2 ct2, P_Mo_composite_L4_301 (nI G) g done1 z (nI gi) (hF f p) (nI (W2 f (p + 2))) (hDx f p) (hDy f p) (hQ f p).1 (hQ f p).2.1 (hQ f p).2.2.1 (hQ f p).2.2.2 q (nI e) 1 dep2 prt2 cs1 ps1 x1 y1 on1 ct1 = (if hF f p &&& (32 : Int32) = 0 then z (nI gi, 0, q, nI e, 1, dep2, prt2, cs2, ps2, x2, y2, on2, ct2) else z (nI gi, 1, q, nI e, 1, dep2, prt2, cs2, ps2, x2, y2, on2, ct2)) ∧ MemS (ptV f p acc D) gi (dep2, prt2, cs2, ps2, x2, y2, on2, ct2) ∧ ∀ h, h < G → h ≠ gi → RowE h (dep1, prt1, cs1, ps1, x1, y1, on1, ct1) (dep2, prt2, cs2, ps2, x2, y2, on2, ct2)) ∧ (¬ ptC f p acc D → ∃ u, P_Mo_composite_L4_301 (nI G) g done1 z (nI gi) (hF f p) (nI (W2 f (p + 2))) (hDx f p) (hDy f p) (hQ f p).1 (hQ f p).2.1 (hQ f p).2.2.1 (hQ f p).2.2.2 q (nI e) 1 dep2 prt2 cs1 ps1 x1 y1 on1 ct1 = some u ∧ u.1 = 0) := by
  have hm : max acc.2.2.2.1 (D.2.2.2.1 + 1) ≤ 5 := Nat.max_le.mpr ⟨by omega, by omega⟩
  unfold P_Mo_composite_L4_301 P_Mo_composite_L4_359
  simp only [bdI (show gi < 64 by omega) (show 64 < 2 ^ 31 by omega), nI_clamp (show gi < 2 ^ 31 by omega), h1, h2]
  rw [show (40 : Int32) = nI 40 from rfl, show (4 : Int32) = nI 4 from rfl]
  by_cases c1 : 40 < acc.2.2.1 + (1 + D.2.2.1)
  · rw [if_pos (nI_lt c1 (by omega))]
    exact ⟨fun k => absurd k.1 (by omega), fun _ => ⟨_, rfl, rfl⟩⟩
  rw [if_neg (nI_nlt (by omega) (by omega))]
  by_cases c2 : 4 < max acc.2.2.2.1 (D.2.2.2.1 + 1)
  · rw [if_pos (nI_lt c2 (by omega))]
    exact ⟨fun k => absurd k.2.1 (by omega), fun _ => ⟨_, rfl, rfl⟩⟩
  rw [if_neg (nI_nlt (by omega) (by omega))]
  have J := join_D (show gi < 64 by omega) (show W2 f (p + 2) < 64 by omega) hne wa wD ma mD (hDx_w f p) (hDy_w f p) (hM_w f (hF f p) (p + 4 + hA (hF f p))) (acc.2.2.1 + (1 + D.2.2.1)) (max acc.2.2.2.1 (D.2.2.2.1 + 1))
  have J : (jnC acc D (hDx f p) (hDy f p) (hQ f p) → ∃ cs' ps' x' y' on' ct', P_Mo_join cs1 ps1 x1 y1 on1 ct1 (nI gi) (nI (W2 f (p + 2))) (hDx f p) (hDy f p) (hQ f p).1 (hQ f p).2.1 (hQ f p).2.2.1 (hQ f p).2.2.2 = some (1, cs', ps', x', y', on', ct') ∧ MemD (ptV f p acc D) gi cs' ps' x' y' on' ct' ∧ ∀ h, h ≠ gi → cs' h = cs1 h ∧ ps' h = ps1 h ∧ ∀ k, k < 256 → x' (256 * h + k) = x1 (256 * h + k) ∧ y' (256 * h + k) = y1 (256 * h + k) ∧ on' (256 * h + k) = on1 (256 * h + k) ∧ ct' (256 * h + k) = ct1 (256 * h + k)) ∧ (¬ jnC acc D (hDx f p) (hDy f p) (hQ f p) → ∃ u, P_Mo_join cs1 ps1 x1 y1 on1 ct1 (nI gi) (nI (W2 f (p + 2))) (hDx f p) (hDy f p) (hQ f p).1 (hQ f p).2.1 (hQ f p).2.2.1 (hQ f p).2.2.2 = some u ∧ u.1 = 0) := J
  constructor
  · intro hC
    obtain ⟨cs2, ps2, x2, y2, on2, ct2, j1, j2, j3⟩ := J.1 hC.2.2
    refine ⟨cs2, ps2, x2, y2, on2, ct2, ?_, ⟨j2, h2, h1⟩, fun h hh hn => ?_⟩
    · rw [j1, some_bind]
      simp only [unp]
      rw [if_neg n10]
    · obtain ⟨w1, w2, w3⟩ := j3 h hn
      obtain ⟨v1, v2⟩ := h3 h hn
      exact ⟨v1, v2, w1, w2, w3⟩
  · intro hC
    obtain ⟨u, j1, j2⟩ := J.2 (fun k => hC ⟨by omega, by omega, k⟩)
    obtain ⟨r, u2, u3, u4, u5, u6, u7⟩ := u
    have j2 : r = 0 := j2
    rw [j1, some_bind]
    simp only [unp]
    rw [if_pos j2]
    exact ⟨_, rfl, rfl⟩
theorem comp_m_4 {n F G s z s1 : Nat} {f g a : Nat → Int32} (H : GCtx n f g a F G s z s1) {gi e : Nat} (hgi : gi < G) (he : e ≤ n) (done0 : Nat → Int32) (S0 : MSt) : ∀ (m p M : Nat) (done : Nat → Int32) (acc : Dat) (dep prt cs ps x y on ct : Nat → Int32), m + 1 < M → CInv f (bgF n f s F s1) G 4 gi e m p acc done0 S0 done (dep, prt, cs, ps, x, y, on, ct) → ∃ r at' e' gd dep' prt' cs' ps' x' y' on' ct', lp (L_Mo_composite_L4_3 (nI G) g done) M (nI gi, 1, nI p, nI e, 1, dep, prt, cs, ps, x, y, on, ct) = some (r, at', e', gd, dep', prt', cs', ps', x', y', on', ct') ∧ OutC f (bgF n f s F s1) G 4 gi done0 S0 r done (dep', prt', cs', ps', x', y', on', ct') gd := by
  intro m
  induction m with
  | zero =>
    intro p M done acc dep prt cs ps x y on ct hM hI
    obtain ⟨_, _, _, _, _, _, _, _, _, _, i11, i12, _⟩ := hI
    omega
  | succ m ih =>
    intro p M done acc dep prt cs ps x y on ct hM hI
    obtain ⟨M, rfl⟩ := suc_of (d := 0) (m := M) (by omega)
    obtain ⟨hn, hA, _, _, _, _, hG, _⟩ := id H
    have hp := hI.2.2.2.2.2.2.1
    have hh := mhead_4 hn hA he done hG (lp (L_Mo_composite_L4_3 (nI G) g done) M) (nI gi) dep prt cs ps x y on ct hp
    have hspec := hI.2.2.2.2.1
    rw [e_Mo_composite_L4_3]
    by_cases hO : hOk f p e G
    · rw [hh.1 hO]
      unfold P_Mo_composite_L4_202
      rw [if_neg n10]
      obtain ⟨r, q1, q2⟩ := glyph_m_5 (f := f) (bg := bgF n f s F s1) hG hO.2.2 hI.2.2.1
      rw [q1, some_bind]
      rcases q2 with ⟨rfl, q3⟩ | ⟨rfl, k0, D, k1, k2, k3, k4, k5, k6⟩
      · rw [if_pos rfl]
        refine ⟨0, _, _, _, _, _, _, _, _, _, _, _, rfl, Or.inl ⟨rfl, ?_⟩⟩
        rcases hI.2.2.2.2.2.1 with w | w
        · exact w
        · exact w.trans (cmS_no (fun ⟨_, D2, q, _⟩ => by
            have q : sp f (bgF n f s F s1) G (5 - 5) (W2 f (p + 2)) = some D2 := q
            rw [q3] at q; cases q))
      · rw [if_neg n10]
        obtain ⟨d0, hne, mS, mD⟩ := cstep1 hgi hI hO k1 k2 k3 k4 k5 k6
        have wa := hI.2.1
        have wD := sp_wf _ _ _ k1
        have bD := sp_dep _ _ _ k1
        have ba : acc.2.2.1 ≤ 40 ∧ acc.2.2.2.1 ≤ 4 := ⟨hI.2.2.2.2.2.2.2.2.2.2.2.1, hI.2.2.2.2.2.2.2.2.2.2.2.2⟩
        have hpt := hO.2.2
        have a1 : dep gi = nI acc.2.2.2.1 := mS.2.2
        have a2 : prt gi = nI acc.2.2.1 := mS.2.1
        have a3 : dep (W2 f (p + 2)) = nI D.2.2.2.1 := mD.2.2
        have a4 : prt (W2 f (p + 2)) = nI D.2.2.1 := mD.2.1
        simp only [bdI (show gi < 64 by omega) (show 64 < 2 ^ 31 by omega), bdI (show W2 f (p + 2) < 64 by omega) (show 64 < 2 ^ 31 by omega), nI_clamp (show gi < 2 ^ 31 by omega), nI_clamp (show W2 f (p + 2) < 2 ^ 31 by omega), a1, a2, a3, a4]
        have fin : ∀ dep2 : Nat → Int32, dep2 gi = nI (max acc.2.2.2.1 (D.2.2.2.1 + 1)) → (∀ h, h ≠ gi → dep2 h = dep h) → ∃ r at' e' gd dep' prt' cs' ps' x' y' on' ct', P_Mo_composite_L4_301 (nI G) g done (lp (L_Mo_composite_L4_3 (nI G) g done) M) (nI gi) (hF f p) (nI (W2 f (p + 2))) (hDx f p) (hDy f p) (hQ f p).1 (hQ f p).2.1 (hQ f p).2.2.1 (hQ f p).2.2.2 (nI (p + hL (hF f p))) (nI e) 1 dep2 (upd prt gi (nI (acc.2.2.1 + (1 + D.2.2.1)))) cs ps x y on ct = some (r, at', e', gd, dep', prt', cs', ps', x', y', on', ct') ∧ OutC f (bgF n f s F s1) G 4 gi done0 S0 r done (dep', prt', cs', ps', x', y', on', ct') gd := by
          intro dep2 e1 e2
          have C3 := c301_4 (F := F) (g := g) (a := a) (e := e) hG hgi hpt hne (lp (L_Mo_composite_L4_3 (nI G) g done) M) done wa wD ⟨ba.1, bD.2.1, ba.2, bD.1⟩ (dep1 := dep) (prt1 := prt) (dep2 := dep2) (prt2 := upd prt gi (nI (acc.2.2.1 + (1 + D.2.2.1)))) mS.1 mD.1 e1 pk_us (fun h hh => ⟨e2 h hh, pk_un hh⟩) (nI (p + hL (hF f p)))
          by_cases hC : ptC f p acc D
          · obtain ⟨cs2, ps2, x2, y2, on2, ct2, c1, c2, c3⟩ := C3.1 hC
            rw [c1]
            have S2 := cstep2 hgi hI hO k1 d0 k3 k4 k5 k6 hC c2 c3
            by_cases c32 : hF f p &&& (32 : Int32) = 0
            · rw [if_pos c32]
              obtain ⟨M, rfl⟩ := suc_of (d := 0) (m := M) (by omega)
              rw [e_Mo_composite_L4_3]
              unfold P_Mo_composite_L4_3b
              rw [if_pos rfl]
              exact ⟨_, _, _, _, _, _, _, _, _, _, _, _, rfl, S2.1 c32⟩
            · rw [if_neg c32]
              exact ih (p + hL (hF f p)) M done (ptV f p acc D) dep2 _ cs2 ps2 x2 y2 on2 ct2 (by omega) (S2.2 c32)
          · obtain ⟨u, c1, c2⟩ := C3.2 hC
            obtain ⟨u0, u1, u2, u3, u4, u5, u6, u7, u8, u9, u10, u11⟩ := u
            have c2 : u0 = 0 := c2
            refine ⟨u0, u1, u2, u3, u4, u5, u6, u7, u8, u9, u10, u11, c1, Or.inl ⟨c2, sp_none5 (hspec.trans (cmS_no (fun ⟨_, D2, q, q'⟩ => ?_))) _⟩⟩
            rw [k1] at q
            cases q
            exact hC q'
        have ep : nI acc.2.2.1 + ((1 : Int32) + nI D.2.2.1) = nI (acc.2.2.1 + (1 + D.2.2.1)) := by rw [show (1 : Int32) = nI 1 from rfl, nI_add, nI_add]
        rw [ep, nI_1]
        by_cases c : D.2.2.2.1 + 1 ≤ acc.2.2.2.1
        · rw [if_pos (nI_le c (by omega))]
          exact fin dep (by rw [a1, Nat.max_eq_left c]) (fun h _ => rfl)
        · rw [if_neg (nI_ge (by omega) (by omega))]
          exact fin (upd dep gi (nI (D.2.2.2.1 + 1))) (by rw [pk_us, Nat.max_eq_right (by omega)]) (fun h hh => pk_un hh)
    · obtain ⟨u, c1, c2⟩ := hh.2 hO
      obtain ⟨u0, u1, u2, u3, u4, u5, u6, u7, u8, u9, u10, u11⟩ := u
      have c2 : u0 = 0 := c2
      exact ⟨u0, u1, u2, u3, u4, u5, u6, u7, u8, u9, u10, u11, c1, Or.inl ⟨c2, sp_none5 (hspec.trans (cmS_no (fun q => hO q.1))) _⟩⟩
theorem glyph_m_4 {n F G s z s1 : Nat} {f g a : Nat → Int32} (H : GCtx n f g a F G s z s1) {gi : Nat} (hgi : gi < G) (at0 e0 : Int32) (fl done dep prt cs ps x y on ct : Nat → Int32) (hS : GS f (bgF n f s F s1) G done (dep, prt, cs, ps, x, y, on, ct)) : ∃ r at' e' gd fl' done' dep' prt' cs' ps' x' y' on' ct', P_Mo_glyphF_L4 at0 e0 1 fl (nI F) (nI G) g a done dep prt cs ps x y on ct (nI gi) = some (r, at', e', gd, fl', done', dep', prt', cs', ps', x', y', on', ct') ∧ Out f (bgF n f s F s1) G 4 gi done (dep, prt, cs, ps, x, y, on, ct) r done' (dep', prt', cs', ps', x', y', on', ct') gd := by
  obtain ⟨hn, hA, h1, h6, hz, hF, hG, h4, _, _⟩ := id H
  have b1 := lo_lt n f s F gi
  have b2 := lo_lt n f s F (gi + 1)
  have m1 := H.mo hgi
  have m2 := H.le (show gi + 1 ≤ G by omega)
  have m3 := H.le (show gi ≤ G by omega)
  have eb : ∀ j, bgF n f s F s1 j = s1 + lo n f s F j := fun _ => rfl
  unfold P_Mo_glyphF_L4
  simp only [bl1, cl1, h1]
  rw [bdI (by omega) (by omega), nI_clamp (by omega)]
  by_cases c0 : done gi = 0
  · rw [if_pos c0, bdI (by omega) (by omega), bdI (by omega) (by omega), bdI (by omega) (by omega), bdI (by omega) (by omega), nI_1, lo_m hn hA h6 hz hF hG h4 (by omega), some_bind, lo_m hn hA h6 hz hF hG h4 (by omega), some_bind]
    by_cases c1 : lo n f s F (gi + 1) ≤ lo n f s F gi
    · rw [if_pos ((lg_cmp_le _ _).mpr ((pk_lLE (by omega) (by omega)).mpr c1))]
      unfold P_Mo_glyphF_L4_179
      rw [bdI (by omega) (by omega), zb1, nI_clamp (by omega), bool1]
      refine ⟨1, _, _, _, _, _, _, _, _, _, _, _, _, _, rfl, out_new hS (D := D0) ?_ ⟨⟨pk_us, pk_us, fun k hk => absurd hk (Nat.not_lt_zero _), fun i hi => absurd hi (Nat.not_lt_zero _)⟩, pk_us, pk_us⟩ (fun h hh _ => RowE.u hh _ _ _ _)⟩
      rw [sp_65]
      unfold spG
      rw [if_pos (by rw [eb, eb]; rw [eb, eb] at m1; omega)]
    · rw [if_neg (fun q => c1 ((pk_lLE (by omega) (by omega)).mp ((lg_cmp_le _ _).mp q))), lN_i, lN_i, nI_add, nI_add, lN_sub (by omega)]
      have ne1 : ¬ bgF n f s F s1 gi = bgF n f s F s1 (gi + 1) := by rw [eb, eb]; omega
      have o10 : 0 ≤ lg_cmp (lN (lo n f s F (gi + 1) - lo n f s F gi)) (10 : Int64) ↔ 10 ≤ lo n f s F (gi + 1) - lo n f s F gi := by
        rw [lg_cmp_ge]
        exact pk_lLE (a := 10) (by omega) (by omega)
      by_cases c2 : 10 ≤ lo n f s F (gi + 1) - lo n f s F gi
      · rw [if_pos (o10.mpr c2), show s1 + lo n f s F gi = bgF n f s F s1 gi from rfl, show s1 + lo n f s F (gi + 1) = bgF n f s F s1 (gi + 1) from rfl]
        have ne2 : ¬ bgF n f s F s1 (gi + 1) < bgF n f s F s1 gi + 10 := by rw [eb, eb]; omega
        rw [mb2 hn hA (by omega) m2, some_bind]
        simp only [unp]
        rw [show nI (bgF n f s F s1 gi + 2) + (8 : Int32) = nI (bgF n f s F s1 gi + 10) from nI_add _ 8]
        rw [show (nI (W2 f (bgF n f s F s1 gi))).toInt16.toInt32 = s16 (W2 f (bgF n f s F s1 gi)) from rfl]
        have spx : ∀ ch, spG f (bgF n f s F s1) G ch gi = if s16 (W2 f (bgF n f s F s1 gi)) = -1 then cmS f (bgF n f s F s1 (gi + 1)) G ch 41 (bgF n f s F s1 gi + 10) D0 else if s16 (W2 f (bgF n f s F s1 gi)) < 0 then none else if (s16 (W2 f (bgF n f s F s1 gi))).toNatClampNeg ≤ 16 then smD f (bgF n f s F s1 gi + 10) (bgF n f s F s1 (gi + 1)) (s16 (W2 f (bgF n f s F s1 gi))).toNatClampNeg else none := by
          intro ch
          show (if _ then _ else _) = _
          rw [if_neg ne1, if_neg ne2]
        generalize hv : s16 (W2 f (bgF n f s F s1 gi)) = v at *
        by_cases c3 : v < (-1 : Int32)
        · rw [if_pos c3]
          refine ⟨0, _, _, _, _, _, _, _, _, _, _, _, _, _, rfl, Or.inl ⟨rfl, sp_none5 ?_ _⟩⟩
          have n1 : ¬ v = -1 := fun q => by rw [q] at c3; exact absurd c3 (by decide)
          have n2 : v < 0 := by
            rw [Int32.lt_iff_toInt_lt, show (-1 : Int32).toInt = -1 from by decide] at c3
            rw [Int32.lt_iff_toInt_lt, show (0 : Int32).toInt = 0 from by decide]
            omega
          rw [sp_65, spx, if_neg n1, if_pos n2]
        rw [if_neg c3]
        by_cases c5 : v < 0
        · have ev : v = -1 := by
            rw [Int32.lt_iff_toInt_lt, show (-1 : Int32).toInt = -1 from by decide] at c3
            rw [Int32.lt_iff_toInt_lt, show (0 : Int32).toInt = 0 from by decide] at c5
            apply Int32.toInt_inj.mp
            rw [show (-1 : Int32).toInt = -1 from by decide]
            omega
          rw [if_pos (by rw [ev]; decide), if_neg (by rw [ev]; decide)]
          have CI : CInv f (bgF n f s F s1) G 4 gi (bgF n f s F s1 (gi + 1)) 41 (bgF n f s F s1 gi + 10) D0 done (upd dep gi 0, upd prt gi 0, upd cs gi 0, upd ps gi 0, x, y, on, ct) done (upd dep gi 0, upd prt gi 0, upd cs gi 0, upd ps gi 0, x, y, on, ct) := by
            refine ⟨⟨⟨pk_us, pk_us, fun k hk => absurd hk (Nat.not_lt_zero _), fun i hi => absurd hi (Nat.not_lt_zero _)⟩, pk_us, pk_us⟩, D0_wf, fun h hh => ?_, c0, ?_, Or.inr ?_, by omega, fun h _ w => w, fun h _ _ _ => RowE.rf _ _, fun h _ w1 w2 => absurd w2 (zero_one w1), by decide, by decide, by decide⟩
            · by_cases q : h = gi
              · rw [q]; exact Or.inl c0
              · rcases hS h hh with w | ⟨w, D2, d1, d2⟩
                · exact Or.inl w
                · exact Or.inr ⟨w, D2, d1, d2.row (sp_wf _ _ _ d1) (RowE.u q _ _ _ _)⟩
            · rw [sp_65, spx, if_pos ev]
            · show spG f (bgF n f s F s1) G (sp f (bgF n f s F s1) G (4 - 4)) gi = _
              rw [spx, if_pos ev]
          obtain ⟨r, at1, e1, gd1, dep1, prt1, cs1, ps1, x1, y1, on1, ct1, q1, q2⟩ := comp_m_4 H hgi m2 done (upd dep gi 0, upd prt gi 0, upd cs gi 0, upd ps gi 0, x, y, on, ct) 41 (bgF n f s F s1 gi + 10) fuel done D0 (upd dep gi 0) (upd prt gi 0) (upd cs gi 0) (upd ps gi 0) x y on ct (by unfold fuel; omega) CI
          have q1 : P_Mo_composite_L4 (nI (bgF n f s F s1 gi + 10)) (nI (bgF n f s F s1 (gi + 1))) 1 (nI G) g done (upd dep gi 0) (upd prt gi 0) (upd cs gi 0) (upd ps gi 0) x y on ct (nI gi) = _ := q1
          rw [q1, some_bind]
          simp only [unp]
          unfold P_Mo_glyphF_L4_177 P_Mo_glyphF_L4_179
          rw [bdI (by omega) (by omega), nI_clamp (by omega)]
          by_cases cr : r = 0
          · rw [cr, zb0]
            refine ⟨0, _, _, _, _, _, _, _, _, _, _, _, _, _, rfl, Or.inl ⟨rfl, ?_⟩⟩
            rcases q2 with ⟨_, q3⟩ | ⟨q3, _⟩
            · exact q3
            · rw [cr] at q3; exact absurd q3 (by decide)
          · have cr1 : r = 1 := by
              rcases q2 with ⟨q3, _⟩ | ⟨q3, _⟩
              · exact absurd q3 cr
              · exact q3
            subst cr1
            obtain ⟨g1, g2⟩ := out_comp q2
            rw [zb1, bool1, g1]
            exact ⟨1, _, _, _, _, _, _, _, _, _, _, _, _, _, rfl, g2 _ (fun k _ hk => RowE.u hk _ _ _ _)⟩
        · obtain ⟨k, hk, ek⟩ : ∃ k, k < 65536 ∧ v = nI k := by
            have := s16_of (v := W2 f (bgF n f s F s1 gi)) (by rw [hv]; exact c5)
            rw [hv] at this
            exact this
          have n1 : ¬ v = -1 := fun q => by rw [q] at c5; exact absurd (by decide) c5
          have spy : sp f (bgF n f s F s1) G 5 gi = if k ≤ 16 then smD f (bgF n f s F s1 gi + 10) (bgF n f s F s1 (gi + 1)) k else none := by
            rw [sp_65, spx, if_neg n1, if_neg c5, ek, nI_clamp (by omega)]
          rw [ek, show (16 : Int32) = nI 16 from rfl]
          by_cases c6 : k ≤ 16
          · rw [if_pos (nI_le c6 (by omega)), if_pos (nI_pos' (by omega))]
            rw [if_pos c6] at spy
            rcases simple_m hn hA m2 (p := bgF n f s F s1 gi + 10) (gi := gi) (by omega) (by omega) c6 fl (upd cs gi 0) (upd ps gi 0) x y on ct with ⟨D, d1, d2, d3, d4, d5, at1, F1, x1, y1, on1, ct1, q1, q2, q3⟩ | ⟨d1, u, q1, q2⟩
            · rw [q1, some_bind]
              simp only [unp]
              unfold P_Mo_glyphF_L4_177 P_Mo_glyphF_L4_179
              rw [bdI (by omega) (by omega), nI_clamp (by omega), zb1, bool1]
              refine ⟨1, _, _, _, _, _, _, _, _, _, _, _, _, _, rfl, out_new hS (D := D) ?_ ⟨q2, ?_, ?_⟩ (fun h hh hG' => ?_)⟩
              · rw [spy]; exact d1
              · show upd prt gi 0 gi = _
                rw [pk_us, d4]; rfl
              · show upd dep gi 0 gi = _
                rw [pk_us, d5]; rfl
              · refine ⟨pk_un hh, pk_un hh, ?_, ?_, fun j hj => ?_⟩
                · show upd (upd cs gi 0) gi (nI k) h = cs h
                  rw [pk_un hh, pk_un hh]
                · show upd (upd ps gi 0) gi (nI D.1) h = ps h
                  rw [pk_un hh, pk_un hh]
                · obtain ⟨w1, w2, w3, w4⟩ := q3 (256 * h + j) (by omega)
                  exact ⟨w1, w2, w3, w4⟩
            · obtain ⟨r, u1, u2, u3, u4, u5, u6, u7, u8, u9⟩ := u
              have q2 : r = 0 := q2
              subst q2
              rw [q1, some_bind]
              simp only [unp]
              unfold P_Mo_glyphF_L4_177 P_Mo_glyphF_L4_179
              rw [bdI (by omega) (by omega), nI_clamp (by omega), zb0]
              refine ⟨0, _, _, _, _, _, _, _, _, _, _, _, _, _, rfl, Or.inl ⟨rfl, sp_none5 ?_ _⟩⟩
              rw [spy]; exact d1
          · rw [if_neg (nI_ge (by omega) (by omega))]
            rw [if_neg c6] at spy
            exact ⟨0, _, _, _, _, _, _, _, _, _, _, _, _, _, rfl, Or.inl ⟨rfl, sp_none5 spy _⟩⟩
      · rw [if_neg (fun q => c2 (o10.mp q))]
        refine ⟨0, _, _, _, _, _, _, _, _, _, _, _, _, _, rfl, Or.inl ⟨rfl, sp_none5 ?_ _⟩⟩
        rw [sp_65]
        unfold spG
        rw [if_neg ne1, if_pos (by rw [eb, eb]; omega)]
  · rw [if_neg c0]
    exact ⟨1, _, _, _, _, _, _, _, _, _, _, _, _, _, rfl, out_done hgi hS c0⟩
theorem c301_3 {F G gi p e : Nat} {f g a : Nat → Int32} (hG : G ≤ 64) (hgi : gi < G) (hpt : W2 f (p + 2) < G) (hne : gi ≠ W2 f (p + 2)) (z : Int32 × Int32 × Int32 × Int32 × Int32 × (Nat → Int32) × (Nat → Int32) × (Nat → Int32) × (Nat → Int32) × (Nat → Int32) × (Nat → Int32) × (Nat → Int32) × (Nat → Int32) × (Nat → Int32) × (Nat → Int32) → Option (Int32 × Int32 × Int32 × Int32 × (Nat → Int32) × (Nat → Int32) × (Nat → Int32) × (Nat → Int32) × (Nat → Int32) × (Nat → Int32) × (Nat → Int32) × (Nat → Int32) × (Nat → Int32) × (Nat → Int32))) (fl1 done1 : Nat → Int32) {acc D : Dat} (wa : WfD acc) (wD : WfD D) (bnd : acc.2.2.1 ≤ 40 ∧ D.2.2.1 ≤ 40 ∧ acc.2.2.2.1 ≤ 4 ∧ D.2.2.2.1 ≤ 4) {dep1 prt1 dep2 prt2 cs1 ps1 x1 y1 on1 ct1 : Nat → Int32} (ma : MemD acc gi cs1 ps1 x1 y1 on1 ct1) (mD : MemD D (W2 f (p + 2)) cs1 ps1 x1 y1 on1 ct1) (h1 : dep2 gi = nI (max acc.2.2.2.1 (D.2.2.2.1 + 1))) (h2 : prt2 gi = nI (acc.2.2.1 + (1 + D.2.2.1))) (h3 : ∀ h, h ≠ gi → dep2 h = dep1 h ∧ prt2 h = prt1 h) (q : Int32) : (ptC f p acc D → ∃ cs2 ps2 x2 y2 on2 ct2, P_Mo_composite_L3_301 (nI F) (nI G) g a z (nI gi) (hF f p) (nI (W2 f (p + 2))) (hDx f p) (hDy f p) (hQ f p).1 (hQ f p).2.1 (hQ f p).2.2.1 (hQ f p).2.2.2 q (nI e) 1 fl1 done1 dep2 prt2 cs1 ps1 x1 y1 on1 ct1 = (if hF f p &&& (32 : Int32) = 0 then z (nI gi, 0, q, nI e, 1, fl1, done1, dep2, prt2, cs2, ps2, x2, y2, on2, ct2) else z (nI gi, 1, q, nI e, 1, fl1, done1, dep2, prt2, cs2, ps2, x2, y2, on2, ct2)) ∧ MemS (ptV f p acc D) gi (dep2, prt2, cs2, ps2, x2, y2, on2, ct2) ∧ ∀ h, h < G → h ≠ gi → RowE h (dep1, prt1, cs1, ps1, x1, y1, on1, ct1) (dep2, prt2, cs2, ps2, x2, y2, on2, ct2)) ∧ (¬ ptC f p acc D → ∃ u, P_Mo_composite_L3_301 (nI F) (nI G) g a z (nI gi) (hF f p) (nI (W2 f (p + 2))) (hDx f p) (hDy f p) (hQ f p).1 (hQ f p).2.1 (hQ f p).2.2.1 (hQ f p).2.2.2 q (nI e) 1 fl1 done1 dep2 prt2 cs1 ps1 x1 y1 on1 ct1 = some u ∧ u.1 = 0) := by
  have hm : max acc.2.2.2.1 (D.2.2.2.1 + 1) ≤ 5 := Nat.max_le.mpr ⟨by omega, by omega⟩
  unfold P_Mo_composite_L3_301 P_Mo_composite_L3_359
  simp only [bdI (show gi < 64 by omega) (show 64 < 2 ^ 31 by omega), nI_clamp (show gi < 2 ^ 31 by omega), h1, h2]
  rw [show (40 : Int32) = nI 40 from rfl, show (4 : Int32) = nI 4 from rfl]
  by_cases c1 : 40 < acc.2.2.1 + (1 + D.2.2.1)
  · rw [if_pos (nI_lt c1 (by omega))]
    exact ⟨fun k => absurd k.1 (by omega), fun _ => ⟨_, rfl, rfl⟩⟩
  rw [if_neg (nI_nlt (by omega) (by omega))]
  by_cases c2 : 4 < max acc.2.2.2.1 (D.2.2.2.1 + 1)
  · rw [if_pos (nI_lt c2 (by omega))]
    exact ⟨fun k => absurd k.2.1 (by omega), fun _ => ⟨_, rfl, rfl⟩⟩
  rw [if_neg (nI_nlt (by omega) (by omega))]
  have J := join_D (show gi < 64 by omega) (show W2 f (p + 2) < 64 by omega) hne wa wD ma mD (hDx_w f p) (hDy_w f p) (hM_w f (hF f p) (p + 4 + hA (hF f p))) (acc.2.2.1 + (1 + D.2.2.1)) (max acc.2.2.2.1 (D.2.2.2.1 + 1))
  have J : (jnC acc D (hDx f p) (hDy f p) (hQ f p) → ∃ cs' ps' x' y' on' ct', P_Mo_join cs1 ps1 x1 y1 on1 ct1 (nI gi) (nI (W2 f (p + 2))) (hDx f p) (hDy f p) (hQ f p).1 (hQ f p).2.1 (hQ f p).2.2.1 (hQ f p).2.2.2 = some (1, cs', ps', x', y', on', ct') ∧ MemD (ptV f p acc D) gi cs' ps' x' y' on' ct' ∧ ∀ h, h ≠ gi → cs' h = cs1 h ∧ ps' h = ps1 h ∧ ∀ k, k < 256 → x' (256 * h + k) = x1 (256 * h + k) ∧ y' (256 * h + k) = y1 (256 * h + k) ∧ on' (256 * h + k) = on1 (256 * h + k) ∧ ct' (256 * h + k) = ct1 (256 * h + k)) ∧ (¬ jnC acc D (hDx f p) (hDy f p) (hQ f p) → ∃ u, P_Mo_join cs1 ps1 x1 y1 on1 ct1 (nI gi) (nI (W2 f (p + 2))) (hDx f p) (hDy f p) (hQ f p).1 (hQ f p).2.1 (hQ f p).2.2.1 (hQ f p).2.2.2 = some u ∧ u.1 = 0) := J
  constructor
  · intro hC
    obtain ⟨cs2, ps2, x2, y2, on2, ct2, j1, j2, j3⟩ := J.1 hC.2.2
    refine ⟨cs2, ps2, x2, y2, on2, ct2, ?_, ⟨j2, h2, h1⟩, fun h hh hn => ?_⟩
    · rw [j1, some_bind]
      simp only [unp]
      rw [if_neg n10]
    · obtain ⟨w1, w2, w3⟩ := j3 h hn
      obtain ⟨v1, v2⟩ := h3 h hn
      exact ⟨v1, v2, w1, w2, w3⟩
  · intro hC
    obtain ⟨u, j1, j2⟩ := J.2 (fun k => hC ⟨by omega, by omega, k⟩)
    obtain ⟨r, u2, u3, u4, u5, u6, u7⟩ := u
    have j2 : r = 0 := j2
    rw [j1, some_bind]
    simp only [unp]
    rw [if_pos j2]
    exact ⟨_, rfl, rfl⟩
theorem comp_m_3 {n F G s z s1 : Nat} {f g a : Nat → Int32} (H : GCtx n f g a F G s z s1) {gi e : Nat} (hgi : gi < G) (he : e ≤ n) (done0 : Nat → Int32) (S0 : MSt) : ∀ (m p M : Nat) (fl done : Nat → Int32) (acc : Dat) (dep prt cs ps x y on ct : Nat → Int32), m + 1 < M → CInv f (bgF n f s F s1) G 3 gi e m p acc done0 S0 done (dep, prt, cs, ps, x, y, on, ct) → ∃ r at' e' gd fl' done' dep' prt' cs' ps' x' y' on' ct', lp (L_Mo_composite_L3_3 (nI F) (nI G) g a) M (nI gi, 1, nI p, nI e, 1, fl, done, dep, prt, cs, ps, x, y, on, ct) = some (r, at', e', gd, fl', done', dep', prt', cs', ps', x', y', on', ct') ∧ OutC f (bgF n f s F s1) G 3 gi done0 S0 r done' (dep', prt', cs', ps', x', y', on', ct') gd := by
  intro m
  induction m with
  | zero =>
    intro p M fl done acc dep prt cs ps x y on ct hM hI
    obtain ⟨_, _, _, _, _, _, _, _, _, _, i11, i12, _⟩ := hI
    omega
  | succ m ih =>
    intro p M fl done acc dep prt cs ps x y on ct hM hI
    obtain ⟨M, rfl⟩ := suc_of (d := 0) (m := M) (by omega)
    obtain ⟨hn, hA, _, _, _, _, hG, _⟩ := id H
    have hp := hI.2.2.2.2.2.2.1
    have hh := mhead_3 hn hA he (nI F) a hG (lp (L_Mo_composite_L3_3 (nI F) (nI G) g a) M) (nI gi) fl done dep prt cs ps x y on ct hp
    have hspec := hI.2.2.2.2.1
    rw [e_Mo_composite_L3_3]
    by_cases hO : hOk f p e G
    · rw [hh.1 hO]
      unfold P_Mo_composite_L3_202
      rw [if_neg n10]
      obtain ⟨r, at1, e1, gd1, fl1, done1, dep1, prt1, cs1, ps1, x1, y1, on1, ct1, q1, q2⟩ := glyph_m_4 H hO.2.2 (nI (p + hL (hF f p))) (nI e) fl done dep prt cs ps x y on ct hI.2.2.1
      rw [q1, some_bind]
      simp only [unp]
      rcases q2 with ⟨rfl, q3⟩ | ⟨rfl, k0, D, k1, k2, k3, k4, k5, k6⟩
      · rw [if_pos rfl]
        refine ⟨0, _, _, _, _, _, _, _, _, _, _, _, _, _, rfl, Or.inl ⟨rfl, ?_⟩⟩
        rcases hI.2.2.2.2.2.1 with w | w
        · exact w
        · exact w.trans (cmS_no (fun ⟨_, D2, q, _⟩ => by
            have q : sp f (bgF n f s F s1) G (5 - 4) (W2 f (p + 2)) = some D2 := q
            rw [q3] at q; cases q))
      · rw [if_neg n10]
        obtain ⟨d0, hne, mS, mD⟩ := cstep1 hgi hI hO k1 k2 k3 k4 k5 k6
        have wa := hI.2.1
        have wD := sp_wf _ _ _ k1
        have bD := sp_dep _ _ _ k1
        have ba : acc.2.2.1 ≤ 40 ∧ acc.2.2.2.1 ≤ 4 := ⟨hI.2.2.2.2.2.2.2.2.2.2.2.1, hI.2.2.2.2.2.2.2.2.2.2.2.2⟩
        have hpt := hO.2.2
        have a1 : dep1 gi = nI acc.2.2.2.1 := mS.2.2
        have a2 : prt1 gi = nI acc.2.2.1 := mS.2.1
        have a3 : dep1 (W2 f (p + 2)) = nI D.2.2.2.1 := mD.2.2
        have a4 : prt1 (W2 f (p + 2)) = nI D.2.2.1 := mD.2.1
        simp only [bdI (show gi < 64 by omega) (show 64 < 2 ^ 31 by omega), bdI (show W2 f (p + 2) < 64 by omega) (show 64 < 2 ^ 31 by omega), nI_clamp (show gi < 2 ^ 31 by omega), nI_clamp (show W2 f (p + 2) < 2 ^ 31 by omega), a1, a2, a3, a4]
        have fin : ∀ dep2 : Nat → Int32, dep2 gi = nI (max acc.2.2.2.1 (D.2.2.2.1 + 1)) → (∀ h, h ≠ gi → dep2 h = dep1 h) → ∃ r at' e' gd fl' done' dep' prt' cs' ps' x' y' on' ct', P_Mo_composite_L3_301 (nI F) (nI G) g a (lp (L_Mo_composite_L3_3 (nI F) (nI G) g a) M) (nI gi) (hF f p) (nI (W2 f (p + 2))) (hDx f p) (hDy f p) (hQ f p).1 (hQ f p).2.1 (hQ f p).2.2.1 (hQ f p).2.2.2 (nI (p + hL (hF f p))) (nI e) 1 fl1 done1 dep2 (upd prt1 gi (nI (acc.2.2.1 + (1 + D.2.2.1)))) cs1 ps1 x1 y1 on1 ct1 = some (r, at', e', gd, fl', done', dep', prt', cs', ps', x', y', on', ct') ∧ OutC f (bgF n f s F s1) G 3 gi done0 S0 r done' (dep', prt', cs', ps', x', y', on', ct') gd := by
          intro dep2 e1 e2
          have C3 := c301_3 (F := F) (g := g) (a := a) (e := e) hG hgi hpt hne (lp (L_Mo_composite_L3_3 (nI F) (nI G) g a) M) fl1 done1 wa wD ⟨ba.1, bD.2.1, ba.2, bD.1⟩ (dep1 := dep1) (prt1 := prt1) (dep2 := dep2) (prt2 := upd prt1 gi (nI (acc.2.2.1 + (1 + D.2.2.1)))) mS.1 mD.1 e1 pk_us (fun h hh => ⟨e2 h hh, pk_un hh⟩) (nI (p + hL (hF f p)))
          by_cases hC : ptC f p acc D
          · obtain ⟨cs2, ps2, x2, y2, on2, ct2, c1, c2, c3⟩ := C3.1 hC
            rw [c1]
            have S2 := cstep2 hgi hI hO k1 d0 k3 k4 k5 k6 hC c2 c3
            by_cases c32 : hF f p &&& (32 : Int32) = 0
            · rw [if_pos c32]
              obtain ⟨M, rfl⟩ := suc_of (d := 0) (m := M) (by omega)
              rw [e_Mo_composite_L3_3]
              unfold P_Mo_composite_L3_3b
              rw [if_pos rfl]
              exact ⟨_, _, _, _, _, _, _, _, _, _, _, _, _, _, rfl, S2.1 c32⟩
            · rw [if_neg c32]
              exact ih (p + hL (hF f p)) M fl1 done1 (ptV f p acc D) dep2 _ cs2 ps2 x2 y2 on2 ct2 (by omega) (S2.2 c32)
          · obtain ⟨u, c1, c2⟩ := C3.2 hC
            obtain ⟨u0, u1, u2, u3, u4, u5, u6, u7, u8, u9, u10, u11, u12, u13⟩ := u
            have c2 : u0 = 0 := c2
            refine ⟨u0, u1, u2, u3, u4, u5, u6, u7, u8, u9, u10, u11, u12, u13, c1, Or.inl ⟨c2, sp_none5 (hspec.trans (cmS_no (fun ⟨_, D2, q, q'⟩ => ?_))) _⟩⟩
            rw [k1] at q
            cases q
            exact hC q'
        have ep : nI acc.2.2.1 + ((1 : Int32) + nI D.2.2.1) = nI (acc.2.2.1 + (1 + D.2.2.1)) := by rw [show (1 : Int32) = nI 1 from rfl, nI_add, nI_add]
        rw [ep, nI_1, k0]
        by_cases c : D.2.2.2.1 + 1 ≤ acc.2.2.2.1
        · rw [if_pos (nI_le c (by omega))]
          exact fin dep1 (by rw [a1, Nat.max_eq_left c]) (fun h _ => rfl)
        · rw [if_neg (nI_ge (by omega) (by omega))]
          exact fin (upd dep1 gi (nI (D.2.2.2.1 + 1))) (by rw [pk_us, Nat.max_eq_right (by omega)]) (fun h hh => pk_un hh)
    · obtain ⟨u, c1, c2⟩ := hh.2 hO
      obtain ⟨u0, u1, u2, u3, u4, u5, u6, u7, u8, u9, u10, u11, u12, u13⟩ := u
      have c2 : u0 = 0 := c2
      exact ⟨u0, u1, u2, u3, u4, u5, u6, u7, u8, u9, u10, u11, u12, u13, c1, Or.inl ⟨c2, sp_none5 (hspec.trans (cmS_no (fun q => hO q.1))) _⟩⟩
theorem glyph_m_3 {n F G s z s1 : Nat} {f g a : Nat → Int32} (H : GCtx n f g a F G s z s1) {gi : Nat} (hgi : gi < G) (at0 e0 : Int32) (fl done dep prt cs ps x y on ct : Nat → Int32) (hS : GS f (bgF n f s F s1) G done (dep, prt, cs, ps, x, y, on, ct)) : ∃ r at' e' gd fl' done' dep' prt' cs' ps' x' y' on' ct', P_Mo_glyphF_L3 at0 e0 1 fl (nI F) (nI G) g a done dep prt cs ps x y on ct (nI gi) = some (r, at', e', gd, fl', done', dep', prt', cs', ps', x', y', on', ct') ∧ Out f (bgF n f s F s1) G 3 gi done (dep, prt, cs, ps, x, y, on, ct) r done' (dep', prt', cs', ps', x', y', on', ct') gd := by
  obtain ⟨hn, hA, h1, h6, hz, hF, hG, h4, _, _⟩ := id H
  have b1 := lo_lt n f s F gi
  have b2 := lo_lt n f s F (gi + 1)
  have m1 := H.mo hgi
  have m2 := H.le (show gi + 1 ≤ G by omega)
  have m3 := H.le (show gi ≤ G by omega)
  have eb : ∀ j, bgF n f s F s1 j = s1 + lo n f s F j := fun _ => rfl
  unfold P_Mo_glyphF_L3
  simp only [bl1, cl1, h1]
  rw [bdI (by omega) (by omega), nI_clamp (by omega)]
  by_cases c0 : done gi = 0
  · rw [if_pos c0, bdI (by omega) (by omega), bdI (by omega) (by omega), bdI (by omega) (by omega), bdI (by omega) (by omega), nI_1, lo_m hn hA h6 hz hF hG h4 (by omega), some_bind, lo_m hn hA h6 hz hF hG h4 (by omega), some_bind]
    by_cases c1 : lo n f s F (gi + 1) ≤ lo n f s F gi
    · rw [if_pos ((lg_cmp_le _ _).mpr ((pk_lLE (by omega) (by omega)).mpr c1))]
      unfold P_Mo_glyphF_L3_179
      rw [bdI (by omega) (by omega), zb1, nI_clamp (by omega), bool1]
      refine ⟨1, _, _, _, _, _, _, _, _, _, _, _, _, _, rfl, out_new hS (D := D0) ?_ ⟨⟨pk_us, pk_us, fun k hk => absurd hk (Nat.not_lt_zero _), fun i hi => absurd hi (Nat.not_lt_zero _)⟩, pk_us, pk_us⟩ (fun h hh _ => RowE.u hh _ _ _ _)⟩
      rw [sp_65]
      unfold spG
      rw [if_pos (by rw [eb, eb]; rw [eb, eb] at m1; omega)]
    · rw [if_neg (fun q => c1 ((pk_lLE (by omega) (by omega)).mp ((lg_cmp_le _ _).mp q))), lN_i, lN_i, nI_add, nI_add, lN_sub (by omega)]
      have ne1 : ¬ bgF n f s F s1 gi = bgF n f s F s1 (gi + 1) := by rw [eb, eb]; omega
      have o10 : 0 ≤ lg_cmp (lN (lo n f s F (gi + 1) - lo n f s F gi)) (10 : Int64) ↔ 10 ≤ lo n f s F (gi + 1) - lo n f s F gi := by
        rw [lg_cmp_ge]
        exact pk_lLE (a := 10) (by omega) (by omega)
      by_cases c2 : 10 ≤ lo n f s F (gi + 1) - lo n f s F gi
      · rw [if_pos (o10.mpr c2), show s1 + lo n f s F gi = bgF n f s F s1 gi from rfl, show s1 + lo n f s F (gi + 1) = bgF n f s F s1 (gi + 1) from rfl]
        have ne2 : ¬ bgF n f s F s1 (gi + 1) < bgF n f s F s1 gi + 10 := by rw [eb, eb]; omega
        rw [mb2 hn hA (by omega) m2, some_bind]
        simp only [unp]
        rw [show nI (bgF n f s F s1 gi + 2) + (8 : Int32) = nI (bgF n f s F s1 gi + 10) from nI_add _ 8]
        rw [show (nI (W2 f (bgF n f s F s1 gi))).toInt16.toInt32 = s16 (W2 f (bgF n f s F s1 gi)) from rfl]
        have spx : ∀ ch, spG f (bgF n f s F s1) G ch gi = if s16 (W2 f (bgF n f s F s1 gi)) = -1 then cmS f (bgF n f s F s1 (gi + 1)) G ch 41 (bgF n f s F s1 gi + 10) D0 else if s16 (W2 f (bgF n f s F s1 gi)) < 0 then none else if (s16 (W2 f (bgF n f s F s1 gi))).toNatClampNeg ≤ 16 then smD f (bgF n f s F s1 gi + 10) (bgF n f s F s1 (gi + 1)) (s16 (W2 f (bgF n f s F s1 gi))).toNatClampNeg else none := by
          intro ch
          show (if _ then _ else _) = _
          rw [if_neg ne1, if_neg ne2]
        generalize hv : s16 (W2 f (bgF n f s F s1 gi)) = v at *
        by_cases c3 : v < (-1 : Int32)
        · rw [if_pos c3]
          refine ⟨0, _, _, _, _, _, _, _, _, _, _, _, _, _, rfl, Or.inl ⟨rfl, sp_none5 ?_ _⟩⟩
          have n1 : ¬ v = -1 := fun q => by rw [q] at c3; exact absurd c3 (by decide)
          have n2 : v < 0 := by
            rw [Int32.lt_iff_toInt_lt, show (-1 : Int32).toInt = -1 from by decide] at c3
            rw [Int32.lt_iff_toInt_lt, show (0 : Int32).toInt = 0 from by decide]
            omega
          rw [sp_65, spx, if_neg n1, if_pos n2]
        rw [if_neg c3]
        by_cases c5 : v < 0
        · have ev : v = -1 := by
            rw [Int32.lt_iff_toInt_lt, show (-1 : Int32).toInt = -1 from by decide] at c3
            rw [Int32.lt_iff_toInt_lt, show (0 : Int32).toInt = 0 from by decide] at c5
            apply Int32.toInt_inj.mp
            rw [show (-1 : Int32).toInt = -1 from by decide]
            omega
          rw [if_pos (by rw [ev]; decide), if_neg (by rw [ev]; decide)]
          have CI : CInv f (bgF n f s F s1) G 3 gi (bgF n f s F s1 (gi + 1)) 41 (bgF n f s F s1 gi + 10) D0 done (upd dep gi 0, upd prt gi 0, upd cs gi 0, upd ps gi 0, x, y, on, ct) done (upd dep gi 0, upd prt gi 0, upd cs gi 0, upd ps gi 0, x, y, on, ct) := by
            refine ⟨⟨⟨pk_us, pk_us, fun k hk => absurd hk (Nat.not_lt_zero _), fun i hi => absurd hi (Nat.not_lt_zero _)⟩, pk_us, pk_us⟩, D0_wf, fun h hh => ?_, c0, ?_, Or.inr ?_, by omega, fun h _ w => w, fun h _ _ _ => RowE.rf _ _, fun h _ w1 w2 => absurd w2 (zero_one w1), by decide, by decide, by decide⟩
            · by_cases q : h = gi
              · rw [q]; exact Or.inl c0
              · rcases hS h hh with w | ⟨w, D2, d1, d2⟩
                · exact Or.inl w
                · exact Or.inr ⟨w, D2, d1, d2.row (sp_wf _ _ _ d1) (RowE.u q _ _ _ _)⟩
            · rw [sp_65, spx, if_pos ev]
            · show spG f (bgF n f s F s1) G (sp f (bgF n f s F s1) G (4 - 3)) gi = _
              rw [spx, if_pos ev]
          obtain ⟨r, at1, e1, gd1, fl1, done1, dep1, prt1, cs1, ps1, x1, y1, on1, ct1, q1, q2⟩ := comp_m_3 H hgi m2 done (upd dep gi 0, upd prt gi 0, upd cs gi 0, upd ps gi 0, x, y, on, ct) 41 (bgF n f s F s1 gi + 10) fuel fl done D0 (upd dep gi 0) (upd prt gi 0) (upd cs gi 0) (upd ps gi 0) x y on ct (by unfold fuel; omega) CI
          have q1 : P_Mo_composite_L3 (nI (bgF n f s F s1 gi + 10)) (nI (bgF n f s F s1 (gi + 1))) 1 fl (nI F) (nI G) g a done (upd dep gi 0) (upd prt gi 0) (upd cs gi 0) (upd ps gi 0) x y on ct (nI gi) = _ := q1
          rw [q1, some_bind]
          simp only [unp]
          unfold P_Mo_glyphF_L3_177 P_Mo_glyphF_L3_179
          rw [bdI (by omega) (by omega), nI_clamp (by omega)]
          by_cases cr : r = 0
          · rw [cr, zb0]
            refine ⟨0, _, _, _, _, _, _, _, _, _, _, _, _, _, rfl, Or.inl ⟨rfl, ?_⟩⟩
            rcases q2 with ⟨_, q3⟩ | ⟨q3, _⟩
            · exact q3
            · rw [cr] at q3; exact absurd q3 (by decide)
          · have cr1 : r = 1 := by
              rcases q2 with ⟨q3, _⟩ | ⟨q3, _⟩
              · exact absurd q3 cr
              · exact q3
            subst cr1
            obtain ⟨g1, g2⟩ := out_comp q2
            rw [zb1, bool1, g1]
            exact ⟨1, _, _, _, _, _, _, _, _, _, _, _, _, _, rfl, g2 _ (fun k _ hk => RowE.u hk _ _ _ _)⟩
        · obtain ⟨k, hk, ek⟩ : ∃ k, k < 65536 ∧ v = nI k := by
            have := s16_of (v := W2 f (bgF n f s F s1 gi)) (by rw [hv]; exact c5)
            rw [hv] at this
            exact this
          have n1 : ¬ v = -1 := fun q => by rw [q] at c5; exact absurd (by decide) c5
          have spy : sp f (bgF n f s F s1) G 5 gi = if k ≤ 16 then smD f (bgF n f s F s1 gi + 10) (bgF n f s F s1 (gi + 1)) k else none := by
            rw [sp_65, spx, if_neg n1, if_neg c5, ek, nI_clamp (by omega)]
          rw [ek, show (16 : Int32) = nI 16 from rfl]
          by_cases c6 : k ≤ 16
          · rw [if_pos (nI_le c6 (by omega)), if_pos (nI_pos' (by omega))]
            rw [if_pos c6] at spy
            rcases simple_m hn hA m2 (p := bgF n f s F s1 gi + 10) (gi := gi) (by omega) (by omega) c6 fl (upd cs gi 0) (upd ps gi 0) x y on ct with ⟨D, d1, d2, d3, d4, d5, at1, F1, x1, y1, on1, ct1, q1, q2, q3⟩ | ⟨d1, u, q1, q2⟩
            · rw [q1, some_bind]
              simp only [unp]
              unfold P_Mo_glyphF_L3_177 P_Mo_glyphF_L3_179
              rw [bdI (by omega) (by omega), nI_clamp (by omega), zb1, bool1]
              refine ⟨1, _, _, _, _, _, _, _, _, _, _, _, _, _, rfl, out_new hS (D := D) ?_ ⟨q2, ?_, ?_⟩ (fun h hh hG' => ?_)⟩
              · rw [spy]; exact d1
              · show upd prt gi 0 gi = _
                rw [pk_us, d4]; rfl
              · show upd dep gi 0 gi = _
                rw [pk_us, d5]; rfl
              · refine ⟨pk_un hh, pk_un hh, ?_, ?_, fun j hj => ?_⟩
                · show upd (upd cs gi 0) gi (nI k) h = cs h
                  rw [pk_un hh, pk_un hh]
                · show upd (upd ps gi 0) gi (nI D.1) h = ps h
                  rw [pk_un hh, pk_un hh]
                · obtain ⟨w1, w2, w3, w4⟩ := q3 (256 * h + j) (by omega)
                  exact ⟨w1, w2, w3, w4⟩
            · obtain ⟨r, u1, u2, u3, u4, u5, u6, u7, u8, u9⟩ := u
              have q2 : r = 0 := q2
              subst q2
              rw [q1, some_bind]
              simp only [unp]
              unfold P_Mo_glyphF_L3_177 P_Mo_glyphF_L3_179
              rw [bdI (by omega) (by omega), nI_clamp (by omega), zb0]
              refine ⟨0, _, _, _, _, _, _, _, _, _, _, _, _, _, rfl, Or.inl ⟨rfl, sp_none5 ?_ _⟩⟩
              rw [spy]; exact d1
          · rw [if_neg (nI_ge (by omega) (by omega))]
            rw [if_neg c6] at spy
            exact ⟨0, _, _, _, _, _, _, _, _, _, _, _, _, _, rfl, Or.inl ⟨rfl, sp_none5 spy _⟩⟩
      · rw [if_neg (fun q => c2 (o10.mp q))]
        refine ⟨0, _, _, _, _, _, _, _, _, _, _, _, _, _, rfl, Or.inl ⟨rfl, sp_none5 ?_ _⟩⟩
        rw [sp_65]
        unfold spG
        rw [if_neg ne1, if_pos (by rw [eb, eb]; omega)]
  · rw [if_neg c0]
    exact ⟨1, _, _, _, _, _, _, _, _, _, _, _, _, _, rfl, out_done hgi hS c0⟩
theorem c301_2 {F G gi p e : Nat} {f g a : Nat → Int32} (hG : G ≤ 64) (hgi : gi < G) (hpt : W2 f (p + 2) < G) (hne : gi ≠ W2 f (p + 2)) (z : Int32 × Int32 × Int32 × Int32 × Int32 × (Nat → Int32) × (Nat → Int32) × (Nat → Int32) × (Nat → Int32) × (Nat → Int32) × (Nat → Int32) × (Nat → Int32) × (Nat → Int32) × (Nat → Int32) × (Nat → Int32) → Option (Int32 × Int32 × Int32 × Int32 × (Nat → Int32) × (Nat → Int32) × (Nat → Int32) × (Nat → Int32) × (Nat → Int32) × (Nat → Int32) × (Nat → Int32) × (Nat → Int32) × (Nat → Int32) × (Nat → Int32))) (fl1 done1 : Nat → Int32) {acc D : Dat} (wa : WfD acc) (wD : WfD D) (bnd : acc.2.2.1 ≤ 40 ∧ D.2.2.1 ≤ 40 ∧ acc.2.2.2.1 ≤ 4 ∧ D.2.2.2.1 ≤ 4) {dep1 prt1 dep2 prt2 cs1 ps1 x1 y1 on1 ct1 : Nat → Int32} (ma : MemD acc gi cs1 ps1 x1 y1 on1 ct1) (mD : MemD D (W2 f (p + 2)) cs1 ps1 x1 y1 on1 ct1) (h1 : dep2 gi = nI (max acc.2.2.2.1 (D.2.2.2.1 + 1))) (h2 : prt2 gi = nI (acc.2.2.1 + (1 + D.2.2.1))) (h3 : ∀ h, h ≠ gi → dep2 h = dep1 h ∧ prt2 h = prt1 h) (q : Int32) : (ptC f p acc D → ∃ cs2 ps2 x2 y2 on2 ct2, P_Mo_composite_L2_301 (nI F) (nI G) g a z (nI gi) (hF f p) (nI (W2 f (p + 2))) (hDx f p) (hDy f p) (hQ f p).1 (hQ f p).2.1 (hQ f p).2.2.1 (hQ f p).2.2.2 q (nI e) 1 fl1 done1 dep2 prt2 cs1 ps1 x1 y1 on1 ct1 = (if hF f p &&& (32 : Int32) = 0 then z (nI gi, 0, q, nI e, 1, fl1, done1, dep2, prt2, cs2, ps2, x2, y2, on2, ct2) else z (nI gi, 1, q, nI e, 1, fl1, done1, dep2, prt2, cs2, ps2, x2, y2, on2, ct2)) ∧ MemS (ptV f p acc D) gi (dep2, prt2, cs2, ps2, x2, y2, on2, ct2) ∧ ∀ h, h < G → h ≠ gi → RowE h (dep1, prt1, cs1, ps1, x1, y1, on1, ct1) (dep2, prt2, cs2, ps2, x2, y2, on2, ct2)) ∧ (¬ ptC f p acc D → ∃ u, P_Mo_composite_L2_301 (nI F) (nI G) g a z (nI gi) (hF f p) (nI (W2 f (p + 2))) (hDx f p) (hDy f p) (hQ f p).1 (hQ f p).2.1 (hQ f p).2.2.1 (hQ f p).2.2.2 q (nI e) 1 fl1 done1 dep2 prt2 cs1 ps1 x1 y1 on1 ct1 = some u ∧ u.1 = 0) := by
  have hm : max acc.2.2.2.1 (D.2.2.2.1 + 1) ≤ 5 := Nat.max_le.mpr ⟨by omega, by omega⟩
  unfold P_Mo_composite_L2_301 P_Mo_composite_L2_359
  simp only [bdI (show gi < 64 by omega) (show 64 < 2 ^ 31 by omega), nI_clamp (show gi < 2 ^ 31 by omega), h1, h2]
  rw [show (40 : Int32) = nI 40 from rfl, show (4 : Int32) = nI 4 from rfl]
  by_cases c1 : 40 < acc.2.2.1 + (1 + D.2.2.1)
  · rw [if_pos (nI_lt c1 (by omega))]
    exact ⟨fun k => absurd k.1 (by omega), fun _ => ⟨_, rfl, rfl⟩⟩
  rw [if_neg (nI_nlt (by omega) (by omega))]
  by_cases c2 : 4 < max acc.2.2.2.1 (D.2.2.2.1 + 1)
  · rw [if_pos (nI_lt c2 (by omega))]
    exact ⟨fun k => absurd k.2.1 (by omega), fun _ => ⟨_, rfl, rfl⟩⟩
  rw [if_neg (nI_nlt (by omega) (by omega))]
  have J := join_D (show gi < 64 by omega) (show W2 f (p + 2) < 64 by omega) hne wa wD ma mD (hDx_w f p) (hDy_w f p) (hM_w f (hF f p) (p + 4 + hA (hF f p))) (acc.2.2.1 + (1 + D.2.2.1)) (max acc.2.2.2.1 (D.2.2.2.1 + 1))
  have J : (jnC acc D (hDx f p) (hDy f p) (hQ f p) → ∃ cs' ps' x' y' on' ct', P_Mo_join cs1 ps1 x1 y1 on1 ct1 (nI gi) (nI (W2 f (p + 2))) (hDx f p) (hDy f p) (hQ f p).1 (hQ f p).2.1 (hQ f p).2.2.1 (hQ f p).2.2.2 = some (1, cs', ps', x', y', on', ct') ∧ MemD (ptV f p acc D) gi cs' ps' x' y' on' ct' ∧ ∀ h, h ≠ gi → cs' h = cs1 h ∧ ps' h = ps1 h ∧ ∀ k, k < 256 → x' (256 * h + k) = x1 (256 * h + k) ∧ y' (256 * h + k) = y1 (256 * h + k) ∧ on' (256 * h + k) = on1 (256 * h + k) ∧ ct' (256 * h + k) = ct1 (256 * h + k)) ∧ (¬ jnC acc D (hDx f p) (hDy f p) (hQ f p) → ∃ u, P_Mo_join cs1 ps1 x1 y1 on1 ct1 (nI gi) (nI (W2 f (p + 2))) (hDx f p) (hDy f p) (hQ f p).1 (hQ f p).2.1 (hQ f p).2.2.1 (hQ f p).2.2.2 = some u ∧ u.1 = 0) := J
  constructor
  · intro hC
    obtain ⟨cs2, ps2, x2, y2, on2, ct2, j1, j2, j3⟩ := J.1 hC.2.2
    refine ⟨cs2, ps2, x2, y2, on2, ct2, ?_, ⟨j2, h2, h1⟩, fun h hh hn => ?_⟩
    · rw [j1, some_bind]
      simp only [unp]
      rw [if_neg n10]
    · obtain ⟨w1, w2, w3⟩ := j3 h hn
      obtain ⟨v1, v2⟩ := h3 h hn
      exact ⟨v1, v2, w1, w2, w3⟩
  · intro hC
    obtain ⟨u, j1, j2⟩ := J.2 (fun k => hC ⟨by omega, by omega, k⟩)
    obtain ⟨r, u2, u3, u4, u5, u6, u7⟩ := u
    have j2 : r = 0 := j2
    rw [j1, some_bind]
    simp only [unp]
    rw [if_pos j2]
    exact ⟨_, rfl, rfl⟩
theorem comp_m_2 {n F G s z s1 : Nat} {f g a : Nat → Int32} (H : GCtx n f g a F G s z s1) {gi e : Nat} (hgi : gi < G) (he : e ≤ n) (done0 : Nat → Int32) (S0 : MSt) : ∀ (m p M : Nat) (fl done : Nat → Int32) (acc : Dat) (dep prt cs ps x y on ct : Nat → Int32), m + 1 < M → CInv f (bgF n f s F s1) G 2 gi e m p acc done0 S0 done (dep, prt, cs, ps, x, y, on, ct) → ∃ r at' e' gd fl' done' dep' prt' cs' ps' x' y' on' ct', lp (L_Mo_composite_L2_3 (nI F) (nI G) g a) M (nI gi, 1, nI p, nI e, 1, fl, done, dep, prt, cs, ps, x, y, on, ct) = some (r, at', e', gd, fl', done', dep', prt', cs', ps', x', y', on', ct') ∧ OutC f (bgF n f s F s1) G 2 gi done0 S0 r done' (dep', prt', cs', ps', x', y', on', ct') gd := by
  intro m
  induction m with
  | zero =>
    intro p M fl done acc dep prt cs ps x y on ct hM hI
    obtain ⟨_, _, _, _, _, _, _, _, _, _, i11, i12, _⟩ := hI
    omega
  | succ m ih =>
    intro p M fl done acc dep prt cs ps x y on ct hM hI
    obtain ⟨M, rfl⟩ := suc_of (d := 0) (m := M) (by omega)
    obtain ⟨hn, hA, _, _, _, _, hG, _⟩ := id H
    have hp := hI.2.2.2.2.2.2.1
    have hh := mhead_2 hn hA he (nI F) a hG (lp (L_Mo_composite_L2_3 (nI F) (nI G) g a) M) (nI gi) fl done dep prt cs ps x y on ct hp
    have hspec := hI.2.2.2.2.1
    rw [e_Mo_composite_L2_3]
    by_cases hO : hOk f p e G
    · rw [hh.1 hO]
      unfold P_Mo_composite_L2_202
      rw [if_neg n10]
      obtain ⟨r, at1, e1, gd1, fl1, done1, dep1, prt1, cs1, ps1, x1, y1, on1, ct1, q1, q2⟩ := glyph_m_3 H hO.2.2 (nI (p + hL (hF f p))) (nI e) fl done dep prt cs ps x y on ct hI.2.2.1
      rw [q1, some_bind]
      simp only [unp]
      rcases q2 with ⟨rfl, q3⟩ | ⟨rfl, k0, D, k1, k2, k3, k4, k5, k6⟩
      · rw [if_pos rfl]
        refine ⟨0, _, _, _, _, _, _, _, _, _, _, _, _, _, rfl, Or.inl ⟨rfl, ?_⟩⟩
        rcases hI.2.2.2.2.2.1 with w | w
        · exact w
        · exact w.trans (cmS_no (fun ⟨_, D2, q, _⟩ => by
            have q : sp f (bgF n f s F s1) G (5 - 3) (W2 f (p + 2)) = some D2 := q
            rw [q3] at q; cases q))
      · rw [if_neg n10]
        obtain ⟨d0, hne, mS, mD⟩ := cstep1 hgi hI hO k1 k2 k3 k4 k5 k6
        have wa := hI.2.1
        have wD := sp_wf _ _ _ k1
        have bD := sp_dep _ _ _ k1
        have ba : acc.2.2.1 ≤ 40 ∧ acc.2.2.2.1 ≤ 4 := ⟨hI.2.2.2.2.2.2.2.2.2.2.2.1, hI.2.2.2.2.2.2.2.2.2.2.2.2⟩
        have hpt := hO.2.2
        have a1 : dep1 gi = nI acc.2.2.2.1 := mS.2.2
        have a2 : prt1 gi = nI acc.2.2.1 := mS.2.1
        have a3 : dep1 (W2 f (p + 2)) = nI D.2.2.2.1 := mD.2.2
        have a4 : prt1 (W2 f (p + 2)) = nI D.2.2.1 := mD.2.1
        simp only [bdI (show gi < 64 by omega) (show 64 < 2 ^ 31 by omega), bdI (show W2 f (p + 2) < 64 by omega) (show 64 < 2 ^ 31 by omega), nI_clamp (show gi < 2 ^ 31 by omega), nI_clamp (show W2 f (p + 2) < 2 ^ 31 by omega), a1, a2, a3, a4]
        have fin : ∀ dep2 : Nat → Int32, dep2 gi = nI (max acc.2.2.2.1 (D.2.2.2.1 + 1)) → (∀ h, h ≠ gi → dep2 h = dep1 h) → ∃ r at' e' gd fl' done' dep' prt' cs' ps' x' y' on' ct', P_Mo_composite_L2_301 (nI F) (nI G) g a (lp (L_Mo_composite_L2_3 (nI F) (nI G) g a) M) (nI gi) (hF f p) (nI (W2 f (p + 2))) (hDx f p) (hDy f p) (hQ f p).1 (hQ f p).2.1 (hQ f p).2.2.1 (hQ f p).2.2.2 (nI (p + hL (hF f p))) (nI e) 1 fl1 done1 dep2 (upd prt1 gi (nI (acc.2.2.1 + (1 + D.2.2.1)))) cs1 ps1 x1 y1 on1 ct1 = some (r, at', e', gd, fl', done', dep', prt', cs', ps', x', y', on', ct') ∧ OutC f (bgF n f s F s1) G 2 gi done0 S0 r done' (dep', prt', cs', ps', x', y', on', ct') gd := by
          intro dep2 e1 e2
          have C3 := c301_2 (F := F) (g := g) (a := a) (e := e) hG hgi hpt hne (lp (L_Mo_composite_L2_3 (nI F) (nI G) g a) M) fl1 done1 wa wD ⟨ba.1, bD.2.1, ba.2, bD.1⟩ (dep1 := dep1) (prt1 := prt1) (dep2 := dep2) (prt2 := upd prt1 gi (nI (acc.2.2.1 + (1 + D.2.2.1)))) mS.1 mD.1 e1 pk_us (fun h hh => ⟨e2 h hh, pk_un hh⟩) (nI (p + hL (hF f p)))
          by_cases hC : ptC f p acc D
          · obtain ⟨cs2, ps2, x2, y2, on2, ct2, c1, c2, c3⟩ := C3.1 hC
            rw [c1]
            have S2 := cstep2 hgi hI hO k1 d0 k3 k4 k5 k6 hC c2 c3
            by_cases c32 : hF f p &&& (32 : Int32) = 0
            · rw [if_pos c32]
              obtain ⟨M, rfl⟩ := suc_of (d := 0) (m := M) (by omega)
              rw [e_Mo_composite_L2_3]
              unfold P_Mo_composite_L2_3b
              rw [if_pos rfl]
              exact ⟨_, _, _, _, _, _, _, _, _, _, _, _, _, _, rfl, S2.1 c32⟩
            · rw [if_neg c32]
              exact ih (p + hL (hF f p)) M fl1 done1 (ptV f p acc D) dep2 _ cs2 ps2 x2 y2 on2 ct2 (by omega) (S2.2 c32)
          · obtain ⟨u, c1, c2⟩ := C3.2 hC
            obtain ⟨u0, u1, u2, u3, u4, u5, u6, u7, u8, u9, u10, u11, u12, u13⟩ := u
            have c2 : u0 = 0 := c2
            refine ⟨u0, u1, u2, u3, u4, u5, u6, u7, u8, u9, u10, u11, u12, u13, c1, Or.inl ⟨c2, sp_none5 (hspec.trans (cmS_no (fun ⟨_, D2, q, q'⟩ => ?_))) _⟩⟩
            rw [k1] at q
            cases q
            exact hC q'
        have ep : nI acc.2.2.1 + ((1 : Int32) + nI D.2.2.1) = nI (acc.2.2.1 + (1 + D.2.2.1)) := by rw [show (1 : Int32) = nI 1 from rfl, nI_add, nI_add]
        rw [ep, nI_1, k0]
        by_cases c : D.2.2.2.1 + 1 ≤ acc.2.2.2.1
        · rw [if_pos (nI_le c (by omega))]
          exact fin dep1 (by rw [a1, Nat.max_eq_left c]) (fun h _ => rfl)
        · rw [if_neg (nI_ge (by omega) (by omega))]
          exact fin (upd dep1 gi (nI (D.2.2.2.1 + 1))) (by rw [pk_us, Nat.max_eq_right (by omega)]) (fun h hh => pk_un hh)
    · obtain ⟨u, c1, c2⟩ := hh.2 hO
      obtain ⟨u0, u1, u2, u3, u4, u5, u6, u7, u8, u9, u10, u11, u12, u13⟩ := u
      have c2 : u0 = 0 := c2
      exact ⟨u0, u1, u2, u3, u4, u5, u6, u7, u8, u9, u10, u11, u12, u13, c1, Or.inl ⟨c2, sp_none5 (hspec.trans (cmS_no (fun q => hO q.1))) _⟩⟩
theorem glyph_m_2 {n F G s z s1 : Nat} {f g a : Nat → Int32} (H : GCtx n f g a F G s z s1) {gi : Nat} (hgi : gi < G) (at0 e0 : Int32) (fl done dep prt cs ps x y on ct : Nat → Int32) (hS : GS f (bgF n f s F s1) G done (dep, prt, cs, ps, x, y, on, ct)) : ∃ r at' e' gd fl' done' dep' prt' cs' ps' x' y' on' ct', P_Mo_glyphF_L2 at0 e0 1 fl (nI F) (nI G) g a done dep prt cs ps x y on ct (nI gi) = some (r, at', e', gd, fl', done', dep', prt', cs', ps', x', y', on', ct') ∧ Out f (bgF n f s F s1) G 2 gi done (dep, prt, cs, ps, x, y, on, ct) r done' (dep', prt', cs', ps', x', y', on', ct') gd := by
  obtain ⟨hn, hA, h1, h6, hz, hF, hG, h4, _, _⟩ := id H
  have b1 := lo_lt n f s F gi
  have b2 := lo_lt n f s F (gi + 1)
  have m1 := H.mo hgi
  have m2 := H.le (show gi + 1 ≤ G by omega)
  have m3 := H.le (show gi ≤ G by omega)
  have eb : ∀ j, bgF n f s F s1 j = s1 + lo n f s F j := fun _ => rfl
  unfold P_Mo_glyphF_L2
  simp only [bl1, cl1, h1]
  rw [bdI (by omega) (by omega), nI_clamp (by omega)]
  by_cases c0 : done gi = 0
  · rw [if_pos c0, bdI (by omega) (by omega), bdI (by omega) (by omega), bdI (by omega) (by omega), bdI (by omega) (by omega), nI_1, lo_m hn hA h6 hz hF hG h4 (by omega), some_bind, lo_m hn hA h6 hz hF hG h4 (by omega), some_bind]
    by_cases c1 : lo n f s F (gi + 1) ≤ lo n f s F gi
    · rw [if_pos ((lg_cmp_le _ _).mpr ((pk_lLE (by omega) (by omega)).mpr c1))]
      unfold P_Mo_glyphF_L2_179
      rw [bdI (by omega) (by omega), zb1, nI_clamp (by omega), bool1]
      refine ⟨1, _, _, _, _, _, _, _, _, _, _, _, _, _, rfl, out_new hS (D := D0) ?_ ⟨⟨pk_us, pk_us, fun k hk => absurd hk (Nat.not_lt_zero _), fun i hi => absurd hi (Nat.not_lt_zero _)⟩, pk_us, pk_us⟩ (fun h hh _ => RowE.u hh _ _ _ _)⟩
      rw [sp_65]
      unfold spG
      rw [if_pos (by rw [eb, eb]; rw [eb, eb] at m1; omega)]
    · rw [if_neg (fun q => c1 ((pk_lLE (by omega) (by omega)).mp ((lg_cmp_le _ _).mp q))), lN_i, lN_i, nI_add, nI_add, lN_sub (by omega)]
      have ne1 : ¬ bgF n f s F s1 gi = bgF n f s F s1 (gi + 1) := by rw [eb, eb]; omega
      have o10 : 0 ≤ lg_cmp (lN (lo n f s F (gi + 1) - lo n f s F gi)) (10 : Int64) ↔ 10 ≤ lo n f s F (gi + 1) - lo n f s F gi := by
        rw [lg_cmp_ge]
        exact pk_lLE (a := 10) (by omega) (by omega)
      by_cases c2 : 10 ≤ lo n f s F (gi + 1) - lo n f s F gi
      · rw [if_pos (o10.mpr c2), show s1 + lo n f s F gi = bgF n f s F s1 gi from rfl, show s1 + lo n f s F (gi + 1) = bgF n f s F s1 (gi + 1) from rfl]
        have ne2 : ¬ bgF n f s F s1 (gi + 1) < bgF n f s F s1 gi + 10 := by rw [eb, eb]; omega
        rw [mb2 hn hA (by omega) m2, some_bind]
        simp only [unp]
        rw [show nI (bgF n f s F s1 gi + 2) + (8 : Int32) = nI (bgF n f s F s1 gi + 10) from nI_add _ 8]
        rw [show (nI (W2 f (bgF n f s F s1 gi))).toInt16.toInt32 = s16 (W2 f (bgF n f s F s1 gi)) from rfl]
        have spx : ∀ ch, spG f (bgF n f s F s1) G ch gi = if s16 (W2 f (bgF n f s F s1 gi)) = -1 then cmS f (bgF n f s F s1 (gi + 1)) G ch 41 (bgF n f s F s1 gi + 10) D0 else if s16 (W2 f (bgF n f s F s1 gi)) < 0 then none else if (s16 (W2 f (bgF n f s F s1 gi))).toNatClampNeg ≤ 16 then smD f (bgF n f s F s1 gi + 10) (bgF n f s F s1 (gi + 1)) (s16 (W2 f (bgF n f s F s1 gi))).toNatClampNeg else none := by
          intro ch
          show (if _ then _ else _) = _
          rw [if_neg ne1, if_neg ne2]
        generalize hv : s16 (W2 f (bgF n f s F s1 gi)) = v at *
        by_cases c3 : v < (-1 : Int32)
        · rw [if_pos c3]
          refine ⟨0, _, _, _, _, _, _, _, _, _, _, _, _, _, rfl, Or.inl ⟨rfl, sp_none5 ?_ _⟩⟩
          have n1 : ¬ v = -1 := fun q => by rw [q] at c3; exact absurd c3 (by decide)
          have n2 : v < 0 := by
            rw [Int32.lt_iff_toInt_lt, show (-1 : Int32).toInt = -1 from by decide] at c3
            rw [Int32.lt_iff_toInt_lt, show (0 : Int32).toInt = 0 from by decide]
            omega
          rw [sp_65, spx, if_neg n1, if_pos n2]
        rw [if_neg c3]
        by_cases c5 : v < 0
        · have ev : v = -1 := by
            rw [Int32.lt_iff_toInt_lt, show (-1 : Int32).toInt = -1 from by decide] at c3
            rw [Int32.lt_iff_toInt_lt, show (0 : Int32).toInt = 0 from by decide] at c5
            apply Int32.toInt_inj.mp
            rw [show (-1 : Int32).toInt = -1 from by decide]
            omega
          rw [if_pos (by rw [ev]; decide), if_neg (by rw [ev]; decide)]
          have CI : CInv f (bgF n f s F s1) G 2 gi (bgF n f s F s1 (gi + 1)) 41 (bgF n f s F s1 gi + 10) D0 done (upd dep gi 0, upd prt gi 0, upd cs gi 0, upd ps gi 0, x, y, on, ct) done (upd dep gi 0, upd prt gi 0, upd cs gi 0, upd ps gi 0, x, y, on, ct) := by
            refine ⟨⟨⟨pk_us, pk_us, fun k hk => absurd hk (Nat.not_lt_zero _), fun i hi => absurd hi (Nat.not_lt_zero _)⟩, pk_us, pk_us⟩, D0_wf, fun h hh => ?_, c0, ?_, Or.inr ?_, by omega, fun h _ w => w, fun h _ _ _ => RowE.rf _ _, fun h _ w1 w2 => absurd w2 (zero_one w1), by decide, by decide, by decide⟩
            · by_cases q : h = gi
              · rw [q]; exact Or.inl c0
              · rcases hS h hh with w | ⟨w, D2, d1, d2⟩
                · exact Or.inl w
                · exact Or.inr ⟨w, D2, d1, d2.row (sp_wf _ _ _ d1) (RowE.u q _ _ _ _)⟩
            · rw [sp_65, spx, if_pos ev]
            · show spG f (bgF n f s F s1) G (sp f (bgF n f s F s1) G (4 - 2)) gi = _
              rw [spx, if_pos ev]
          obtain ⟨r, at1, e1, gd1, fl1, done1, dep1, prt1, cs1, ps1, x1, y1, on1, ct1, q1, q2⟩ := comp_m_2 H hgi m2 done (upd dep gi 0, upd prt gi 0, upd cs gi 0, upd ps gi 0, x, y, on, ct) 41 (bgF n f s F s1 gi + 10) fuel fl done D0 (upd dep gi 0) (upd prt gi 0) (upd cs gi 0) (upd ps gi 0) x y on ct (by unfold fuel; omega) CI
          have q1 : P_Mo_composite_L2 (nI (bgF n f s F s1 gi + 10)) (nI (bgF n f s F s1 (gi + 1))) 1 fl (nI F) (nI G) g a done (upd dep gi 0) (upd prt gi 0) (upd cs gi 0) (upd ps gi 0) x y on ct (nI gi) = _ := q1
          rw [q1, some_bind]
          simp only [unp]
          unfold P_Mo_glyphF_L2_177 P_Mo_glyphF_L2_179
          rw [bdI (by omega) (by omega), nI_clamp (by omega)]
          by_cases cr : r = 0
          · rw [cr, zb0]
            refine ⟨0, _, _, _, _, _, _, _, _, _, _, _, _, _, rfl, Or.inl ⟨rfl, ?_⟩⟩
            rcases q2 with ⟨_, q3⟩ | ⟨q3, _⟩
            · exact q3
            · rw [cr] at q3; exact absurd q3 (by decide)
          · have cr1 : r = 1 := by
              rcases q2 with ⟨q3, _⟩ | ⟨q3, _⟩
              · exact absurd q3 cr
              · exact q3
            subst cr1
            obtain ⟨g1, g2⟩ := out_comp q2
            rw [zb1, bool1, g1]
            exact ⟨1, _, _, _, _, _, _, _, _, _, _, _, _, _, rfl, g2 _ (fun k _ hk => RowE.u hk _ _ _ _)⟩
        · obtain ⟨k, hk, ek⟩ : ∃ k, k < 65536 ∧ v = nI k := by
            have := s16_of (v := W2 f (bgF n f s F s1 gi)) (by rw [hv]; exact c5)
            rw [hv] at this
            exact this
          have n1 : ¬ v = -1 := fun q => by rw [q] at c5; exact absurd (by decide) c5
          have spy : sp f (bgF n f s F s1) G 5 gi = if k ≤ 16 then smD f (bgF n f s F s1 gi + 10) (bgF n f s F s1 (gi + 1)) k else none := by
            rw [sp_65, spx, if_neg n1, if_neg c5, ek, nI_clamp (by omega)]
          rw [ek, show (16 : Int32) = nI 16 from rfl]
          by_cases c6 : k ≤ 16
          · rw [if_pos (nI_le c6 (by omega)), if_pos (nI_pos' (by omega))]
            rw [if_pos c6] at spy
            rcases simple_m hn hA m2 (p := bgF n f s F s1 gi + 10) (gi := gi) (by omega) (by omega) c6 fl (upd cs gi 0) (upd ps gi 0) x y on ct with ⟨D, d1, d2, d3, d4, d5, at1, F1, x1, y1, on1, ct1, q1, q2, q3⟩ | ⟨d1, u, q1, q2⟩
            · rw [q1, some_bind]
              simp only [unp]
              unfold P_Mo_glyphF_L2_177 P_Mo_glyphF_L2_179
              rw [bdI (by omega) (by omega), nI_clamp (by omega), zb1, bool1]
              refine ⟨1, _, _, _, _, _, _, _, _, _, _, _, _, _, rfl, out_new hS (D := D) ?_ ⟨q2, ?_, ?_⟩ (fun h hh hG' => ?_)⟩
              · rw [spy]; exact d1
              · show upd prt gi 0 gi = _
                rw [pk_us, d4]; rfl
              · show upd dep gi 0 gi = _
                rw [pk_us, d5]; rfl
              · refine ⟨pk_un hh, pk_un hh, ?_, ?_, fun j hj => ?_⟩
                · show upd (upd cs gi 0) gi (nI k) h = cs h
                  rw [pk_un hh, pk_un hh]
                · show upd (upd ps gi 0) gi (nI D.1) h = ps h
                  rw [pk_un hh, pk_un hh]
                · obtain ⟨w1, w2, w3, w4⟩ := q3 (256 * h + j) (by omega)
                  exact ⟨w1, w2, w3, w4⟩
            · obtain ⟨r, u1, u2, u3, u4, u5, u6, u7, u8, u9⟩ := u
              have q2 : r = 0 := q2
              subst q2
              rw [q1, some_bind]
              simp only [unp]
              unfold P_Mo_glyphF_L2_177 P_Mo_glyphF_L2_179
              rw [bdI (by omega) (by omega), nI_clamp (by omega), zb0]
              refine ⟨0, _, _, _, _, _, _, _, _, _, _, _, _, _, rfl, Or.inl ⟨rfl, sp_none5 ?_ _⟩⟩
              rw [spy]; exact d1
          · rw [if_neg (nI_ge (by omega) (by omega))]
            rw [if_neg c6] at spy
            exact ⟨0, _, _, _, _, _, _, _, _, _, _, _, _, _, rfl, Or.inl ⟨rfl, sp_none5 spy _⟩⟩
      · rw [if_neg (fun q => c2 (o10.mp q))]
        refine ⟨0, _, _, _, _, _, _, _, _, _, _, _, _, _, rfl, Or.inl ⟨rfl, sp_none5 ?_ _⟩⟩
        rw [sp_65]
        unfold spG
        rw [if_neg ne1, if_pos (by rw [eb, eb]; omega)]
  · rw [if_neg c0]
    exact ⟨1, _, _, _, _, _, _, _, _, _, _, _, _, _, rfl, out_done hgi hS c0⟩
theorem c301_1 {F G gi p e : Nat} {f g a : Nat → Int32} (hG : G ≤ 64) (hgi : gi < G) (hpt : W2 f (p + 2) < G) (hne : gi ≠ W2 f (p + 2)) (z : Int32 × Int32 × Int32 × Int32 × Int32 × (Nat → Int32) × (Nat → Int32) × (Nat → Int32) × (Nat → Int32) × (Nat → Int32) × (Nat → Int32) × (Nat → Int32) × (Nat → Int32) × (Nat → Int32) × (Nat → Int32) → Option (Int32 × Int32 × Int32 × Int32 × (Nat → Int32) × (Nat → Int32) × (Nat → Int32) × (Nat → Int32) × (Nat → Int32) × (Nat → Int32) × (Nat → Int32) × (Nat → Int32) × (Nat → Int32) × (Nat → Int32))) (fl1 done1 : Nat → Int32) {acc D : Dat} (wa : WfD acc) (wD : WfD D) (bnd : acc.2.2.1 ≤ 40 ∧ D.2.2.1 ≤ 40 ∧ acc.2.2.2.1 ≤ 4 ∧ D.2.2.2.1 ≤ 4) {dep1 prt1 dep2 prt2 cs1 ps1 x1 y1 on1 ct1 : Nat → Int32} (ma : MemD acc gi cs1 ps1 x1 y1 on1 ct1) (mD : MemD D (W2 f (p + 2)) cs1 ps1 x1 y1 on1 ct1) (h1 : dep2 gi = nI (max acc.2.2.2.1 (D.2.2.2.1 + 1))) (h2 : prt2 gi = nI (acc.2.2.1 + (1 + D.2.2.1))) (h3 : ∀ h, h ≠ gi → dep2 h = dep1 h ∧ prt2 h = prt1 h) (q : Int32) : (ptC f p acc D → ∃ cs2 ps2 x2 y2 on2 ct2, P_Mo_composite_L1_301 (nI F) (nI G) g a z (nI gi) (hF f p) (nI (W2 f (p + 2))) (hDx f p) (hDy f p) (hQ f p).1 (hQ f p).2.1 (hQ f p).2.2.1 (hQ f p).2.2.2 q (nI e) 1 fl1 done1 dep2 prt2 cs1 ps1 x1 y1 on1 ct1 = (if hF f p &&& (32 : Int32) = 0 then z (nI gi, 0, q, nI e, 1, fl1, done1, dep2, prt2, cs2, ps2, x2, y2, on2, ct2) else z (nI gi, 1, q, nI e, 1, fl1, done1, dep2, prt2, cs2, ps2, x2, y2, on2, ct2)) ∧ MemS (ptV f p acc D) gi (dep2, prt2, cs2, ps2, x2, y2, on2, ct2) ∧ ∀ h, h < G → h ≠ gi → RowE h (dep1, prt1, cs1, ps1, x1, y1, on1, ct1) (dep2, prt2, cs2, ps2, x2, y2, on2, ct2)) ∧ (¬ ptC f p acc D → ∃ u, P_Mo_composite_L1_301 (nI F) (nI G) g a z (nI gi) (hF f p) (nI (W2 f (p + 2))) (hDx f p) (hDy f p) (hQ f p).1 (hQ f p).2.1 (hQ f p).2.2.1 (hQ f p).2.2.2 q (nI e) 1 fl1 done1 dep2 prt2 cs1 ps1 x1 y1 on1 ct1 = some u ∧ u.1 = 0) := by
  have hm : max acc.2.2.2.1 (D.2.2.2.1 + 1) ≤ 5 := Nat.max_le.mpr ⟨by omega, by omega⟩
  unfold P_Mo_composite_L1_301 P_Mo_composite_L1_359
  simp only [bdI (show gi < 64 by omega) (show 64 < 2 ^ 31 by omega), nI_clamp (show gi < 2 ^ 31 by omega), h1, h2]
  rw [show (40 : Int32) = nI 40 from rfl, show (4 : Int32) = nI 4 from rfl]
  by_cases c1 : 40 < acc.2.2.1 + (1 + D.2.2.1)
  · rw [if_pos (nI_lt c1 (by omega))]
    exact ⟨fun k => absurd k.1 (by omega), fun _ => ⟨_, rfl, rfl⟩⟩
  rw [if_neg (nI_nlt (by omega) (by omega))]
  by_cases c2 : 4 < max acc.2.2.2.1 (D.2.2.2.1 + 1)
  · rw [if_pos (nI_lt c2 (by omega))]
    exact ⟨fun k => absurd k.2.1 (by omega), fun _ => ⟨_, rfl, rfl⟩⟩
  rw [if_neg (nI_nlt (by omega) (by omega))]
  have J := join_D (show gi < 64 by omega) (show W2 f (p + 2) < 64 by omega) hne wa wD ma mD (hDx_w f p) (hDy_w f p) (hM_w f (hF f p) (p + 4 + hA (hF f p))) (acc.2.2.1 + (1 + D.2.2.1)) (max acc.2.2.2.1 (D.2.2.2.1 + 1))
  have J : (jnC acc D (hDx f p) (hDy f p) (hQ f p) → ∃ cs' ps' x' y' on' ct', P_Mo_join cs1 ps1 x1 y1 on1 ct1 (nI gi) (nI (W2 f (p + 2))) (hDx f p) (hDy f p) (hQ f p).1 (hQ f p).2.1 (hQ f p).2.2.1 (hQ f p).2.2.2 = some (1, cs', ps', x', y', on', ct') ∧ MemD (ptV f p acc D) gi cs' ps' x' y' on' ct' ∧ ∀ h, h ≠ gi → cs' h = cs1 h ∧ ps' h = ps1 h ∧ ∀ k, k < 256 → x' (256 * h + k) = x1 (256 * h + k) ∧ y' (256 * h + k) = y1 (256 * h + k) ∧ on' (256 * h + k) = on1 (256 * h + k) ∧ ct' (256 * h + k) = ct1 (256 * h + k)) ∧ (¬ jnC acc D (hDx f p) (hDy f p) (hQ f p) → ∃ u, P_Mo_join cs1 ps1 x1 y1 on1 ct1 (nI gi) (nI (W2 f (p + 2))) (hDx f p) (hDy f p) (hQ f p).1 (hQ f p).2.1 (hQ f p).2.2.1 (hQ f p).2.2.2 = some u ∧ u.1 = 0) := J
  constructor
  · intro hC
    obtain ⟨cs2, ps2, x2, y2, on2, ct2, j1, j2, j3⟩ := J.1 hC.2.2
    refine ⟨cs2, ps2, x2, y2, on2, ct2, ?_, ⟨j2, h2, h1⟩, fun h hh hn => ?_⟩
    · rw [j1, some_bind]
      simp only [unp]
      rw [if_neg n10]
    · obtain ⟨w1, w2, w3⟩ := j3 h hn
      obtain ⟨v1, v2⟩ := h3 h hn
      exact ⟨v1, v2, w1, w2, w3⟩
  · intro hC
    obtain ⟨u, j1, j2⟩ := J.2 (fun k => hC ⟨by omega, by omega, k⟩)
    obtain ⟨r, u2, u3, u4, u5, u6, u7⟩ := u
    have j2 : r = 0 := j2
    rw [j1, some_bind]
    simp only [unp]
    rw [if_pos j2]
    exact ⟨_, rfl, rfl⟩
theorem comp_m_1 {n F G s z s1 : Nat} {f g a : Nat → Int32} (H : GCtx n f g a F G s z s1) {gi e : Nat} (hgi : gi < G) (he : e ≤ n) (done0 : Nat → Int32) (S0 : MSt) : ∀ (m p M : Nat) (fl done : Nat → Int32) (acc : Dat) (dep prt cs ps x y on ct : Nat → Int32), m + 1 < M → CInv f (bgF n f s F s1) G 1 gi e m p acc done0 S0 done (dep, prt, cs, ps, x, y, on, ct) → ∃ r at' e' gd fl' done' dep' prt' cs' ps' x' y' on' ct', lp (L_Mo_composite_L1_3 (nI F) (nI G) g a) M (nI gi, 1, nI p, nI e, 1, fl, done, dep, prt, cs, ps, x, y, on, ct) = some (r, at', e', gd, fl', done', dep', prt', cs', ps', x', y', on', ct') ∧ OutC f (bgF n f s F s1) G 1 gi done0 S0 r done' (dep', prt', cs', ps', x', y', on', ct') gd := by
  intro m
  induction m with
  | zero =>
    intro p M fl done acc dep prt cs ps x y on ct hM hI
    obtain ⟨_, _, _, _, _, _, _, _, _, _, i11, i12, _⟩ := hI
    omega
  | succ m ih =>
    intro p M fl done acc dep prt cs ps x y on ct hM hI
    obtain ⟨M, rfl⟩ := suc_of (d := 0) (m := M) (by omega)
    obtain ⟨hn, hA, _, _, _, _, hG, _⟩ := id H
    have hp := hI.2.2.2.2.2.2.1
    have hh := mhead_1 hn hA he (nI F) a hG (lp (L_Mo_composite_L1_3 (nI F) (nI G) g a) M) (nI gi) fl done dep prt cs ps x y on ct hp
    have hspec := hI.2.2.2.2.1
    rw [e_Mo_composite_L1_3]
    by_cases hO : hOk f p e G
    · rw [hh.1 hO]
      unfold P_Mo_composite_L1_202
      rw [if_neg n10]
      obtain ⟨r, at1, e1, gd1, fl1, done1, dep1, prt1, cs1, ps1, x1, y1, on1, ct1, q1, q2⟩ := glyph_m_2 H hO.2.2 (nI (p + hL (hF f p))) (nI e) fl done dep prt cs ps x y on ct hI.2.2.1
      rw [q1, some_bind]
      simp only [unp]
      rcases q2 with ⟨rfl, q3⟩ | ⟨rfl, k0, D, k1, k2, k3, k4, k5, k6⟩
      · rw [if_pos rfl]
        refine ⟨0, _, _, _, _, _, _, _, _, _, _, _, _, _, rfl, Or.inl ⟨rfl, ?_⟩⟩
        rcases hI.2.2.2.2.2.1 with w | w
        · exact w
        · exact w.trans (cmS_no (fun ⟨_, D2, q, _⟩ => by
            have q : sp f (bgF n f s F s1) G (5 - 2) (W2 f (p + 2)) = some D2 := q
            rw [q3] at q; cases q))
      · rw [if_neg n10]
        obtain ⟨d0, hne, mS, mD⟩ := cstep1 hgi hI hO k1 k2 k3 k4 k5 k6
        have wa := hI.2.1
        have wD := sp_wf _ _ _ k1
        have bD := sp_dep _ _ _ k1
        have ba : acc.2.2.1 ≤ 40 ∧ acc.2.2.2.1 ≤ 4 := ⟨hI.2.2.2.2.2.2.2.2.2.2.2.1, hI.2.2.2.2.2.2.2.2.2.2.2.2⟩
        have hpt := hO.2.2
        have a1 : dep1 gi = nI acc.2.2.2.1 := mS.2.2
        have a2 : prt1 gi = nI acc.2.2.1 := mS.2.1
        have a3 : dep1 (W2 f (p + 2)) = nI D.2.2.2.1 := mD.2.2
        have a4 : prt1 (W2 f (p + 2)) = nI D.2.2.1 := mD.2.1
        simp only [bdI (show gi < 64 by omega) (show 64 < 2 ^ 31 by omega), bdI (show W2 f (p + 2) < 64 by omega) (show 64 < 2 ^ 31 by omega), nI_clamp (show gi < 2 ^ 31 by omega), nI_clamp (show W2 f (p + 2) < 2 ^ 31 by omega), a1, a2, a3, a4]
        have fin : ∀ dep2 : Nat → Int32, dep2 gi = nI (max acc.2.2.2.1 (D.2.2.2.1 + 1)) → (∀ h, h ≠ gi → dep2 h = dep1 h) → ∃ r at' e' gd fl' done' dep' prt' cs' ps' x' y' on' ct', P_Mo_composite_L1_301 (nI F) (nI G) g a (lp (L_Mo_composite_L1_3 (nI F) (nI G) g a) M) (nI gi) (hF f p) (nI (W2 f (p + 2))) (hDx f p) (hDy f p) (hQ f p).1 (hQ f p).2.1 (hQ f p).2.2.1 (hQ f p).2.2.2 (nI (p + hL (hF f p))) (nI e) 1 fl1 done1 dep2 (upd prt1 gi (nI (acc.2.2.1 + (1 + D.2.2.1)))) cs1 ps1 x1 y1 on1 ct1 = some (r, at', e', gd, fl', done', dep', prt', cs', ps', x', y', on', ct') ∧ OutC f (bgF n f s F s1) G 1 gi done0 S0 r done' (dep', prt', cs', ps', x', y', on', ct') gd := by
          intro dep2 e1 e2
          have C3 := c301_1 (F := F) (g := g) (a := a) (e := e) hG hgi hpt hne (lp (L_Mo_composite_L1_3 (nI F) (nI G) g a) M) fl1 done1 wa wD ⟨ba.1, bD.2.1, ba.2, bD.1⟩ (dep1 := dep1) (prt1 := prt1) (dep2 := dep2) (prt2 := upd prt1 gi (nI (acc.2.2.1 + (1 + D.2.2.1)))) mS.1 mD.1 e1 pk_us (fun h hh => ⟨e2 h hh, pk_un hh⟩) (nI (p + hL (hF f p)))
          by_cases hC : ptC f p acc D
          · obtain ⟨cs2, ps2, x2, y2, on2, ct2, c1, c2, c3⟩ := C3.1 hC
            rw [c1]
            have S2 := cstep2 hgi hI hO k1 d0 k3 k4 k5 k6 hC c2 c3
            by_cases c32 : hF f p &&& (32 : Int32) = 0
            · rw [if_pos c32]
              obtain ⟨M, rfl⟩ := suc_of (d := 0) (m := M) (by omega)
              rw [e_Mo_composite_L1_3]
              unfold P_Mo_composite_L1_3b
              rw [if_pos rfl]
              exact ⟨_, _, _, _, _, _, _, _, _, _, _, _, _, _, rfl, S2.1 c32⟩
            · rw [if_neg c32]
              exact ih (p + hL (hF f p)) M fl1 done1 (ptV f p acc D) dep2 _ cs2 ps2 x2 y2 on2 ct2 (by omega) (S2.2 c32)
          · obtain ⟨u, c1, c2⟩ := C3.2 hC
            obtain ⟨u0, u1, u2, u3, u4, u5, u6, u7, u8, u9, u10, u11, u12, u13⟩ := u
            have c2 : u0 = 0 := c2
            refine ⟨u0, u1, u2, u3, u4, u5, u6, u7, u8, u9, u10, u11, u12, u13, c1, Or.inl ⟨c2, sp_none5 (hspec.trans (cmS_no (fun ⟨_, D2, q, q'⟩ => ?_))) _⟩⟩
            rw [k1] at q
            cases q
            exact hC q'
        have ep : nI acc.2.2.1 + ((1 : Int32) + nI D.2.2.1) = nI (acc.2.2.1 + (1 + D.2.2.1)) := by rw [show (1 : Int32) = nI 1 from rfl, nI_add, nI_add]
        rw [ep, nI_1, k0]
        by_cases c : D.2.2.2.1 + 1 ≤ acc.2.2.2.1
        · rw [if_pos (nI_le c (by omega))]
          exact fin dep1 (by rw [a1, Nat.max_eq_left c]) (fun h _ => rfl)
        · rw [if_neg (nI_ge (by omega) (by omega))]
          exact fin (upd dep1 gi (nI (D.2.2.2.1 + 1))) (by rw [pk_us, Nat.max_eq_right (by omega)]) (fun h hh => pk_un hh)
    · obtain ⟨u, c1, c2⟩ := hh.2 hO
      obtain ⟨u0, u1, u2, u3, u4, u5, u6, u7, u8, u9, u10, u11, u12, u13⟩ := u
      have c2 : u0 = 0 := c2
      exact ⟨u0, u1, u2, u3, u4, u5, u6, u7, u8, u9, u10, u11, u12, u13, c1, Or.inl ⟨c2, sp_none5 (hspec.trans (cmS_no (fun q => hO q.1))) _⟩⟩
theorem glyph_m_1 {n F G s z s1 : Nat} {f g a : Nat → Int32} (H : GCtx n f g a F G s z s1) {gi : Nat} (hgi : gi < G) (at0 e0 : Int32) (fl done dep prt cs ps x y on ct : Nat → Int32) (hS : GS f (bgF n f s F s1) G done (dep, prt, cs, ps, x, y, on, ct)) : ∃ r at' e' gd fl' done' dep' prt' cs' ps' x' y' on' ct', P_Mo_glyphF_L1 at0 e0 1 fl (nI F) (nI G) g a done dep prt cs ps x y on ct (nI gi) = some (r, at', e', gd, fl', done', dep', prt', cs', ps', x', y', on', ct') ∧ Out f (bgF n f s F s1) G 1 gi done (dep, prt, cs, ps, x, y, on, ct) r done' (dep', prt', cs', ps', x', y', on', ct') gd := by
  obtain ⟨hn, hA, h1, h6, hz, hF, hG, h4, _, _⟩ := id H
  have b1 := lo_lt n f s F gi
  have b2 := lo_lt n f s F (gi + 1)
  have m1 := H.mo hgi
  have m2 := H.le (show gi + 1 ≤ G by omega)
  have m3 := H.le (show gi ≤ G by omega)
  have eb : ∀ j, bgF n f s F s1 j = s1 + lo n f s F j := fun _ => rfl
  unfold P_Mo_glyphF_L1
  simp only [bl1, cl1, h1]
  rw [bdI (by omega) (by omega), nI_clamp (by omega)]
  by_cases c0 : done gi = 0
  · rw [if_pos c0, bdI (by omega) (by omega), bdI (by omega) (by omega), bdI (by omega) (by omega), bdI (by omega) (by omega), nI_1, lo_m hn hA h6 hz hF hG h4 (by omega), some_bind, lo_m hn hA h6 hz hF hG h4 (by omega), some_bind]
    by_cases c1 : lo n f s F (gi + 1) ≤ lo n f s F gi
    · rw [if_pos ((lg_cmp_le _ _).mpr ((pk_lLE (by omega) (by omega)).mpr c1))]
      unfold P_Mo_glyphF_L1_179
      rw [bdI (by omega) (by omega), zb1, nI_clamp (by omega), bool1]
      refine ⟨1, _, _, _, _, _, _, _, _, _, _, _, _, _, rfl, out_new hS (D := D0) ?_ ⟨⟨pk_us, pk_us, fun k hk => absurd hk (Nat.not_lt_zero _), fun i hi => absurd hi (Nat.not_lt_zero _)⟩, pk_us, pk_us⟩ (fun h hh _ => RowE.u hh _ _ _ _)⟩
      rw [sp_65]
      unfold spG
      rw [if_pos (by rw [eb, eb]; rw [eb, eb] at m1; omega)]
    · rw [if_neg (fun q => c1 ((pk_lLE (by omega) (by omega)).mp ((lg_cmp_le _ _).mp q))), lN_i, lN_i, nI_add, nI_add, lN_sub (by omega)]
      have ne1 : ¬ bgF n f s F s1 gi = bgF n f s F s1 (gi + 1) := by rw [eb, eb]; omega
      have o10 : 0 ≤ lg_cmp (lN (lo n f s F (gi + 1) - lo n f s F gi)) (10 : Int64) ↔ 10 ≤ lo n f s F (gi + 1) - lo n f s F gi := by
        rw [lg_cmp_ge]
        exact pk_lLE (a := 10) (by omega) (by omega)
      by_cases c2 : 10 ≤ lo n f s F (gi + 1) - lo n f s F gi
      · rw [if_pos (o10.mpr c2), show s1 + lo n f s F gi = bgF n f s F s1 gi from rfl, show s1 + lo n f s F (gi + 1) = bgF n f s F s1 (gi + 1) from rfl]
        have ne2 : ¬ bgF n f s F s1 (gi + 1) < bgF n f s F s1 gi + 10 := by rw [eb, eb]; omega
        rw [mb2 hn hA (by omega) m2, some_bind]
        simp only [unp]
        rw [show nI (bgF n f s F s1 gi + 2) + (8 : Int32) = nI (bgF n f s F s1 gi + 10) from nI_add _ 8]
        rw [show (nI (W2 f (bgF n f s F s1 gi))).toInt16.toInt32 = s16 (W2 f (bgF n f s F s1 gi)) from rfl]
        have spx : ∀ ch, spG f (bgF n f s F s1) G ch gi = if s16 (W2 f (bgF n f s F s1 gi)) = -1 then cmS f (bgF n f s F s1 (gi + 1)) G ch 41 (bgF n f s F s1 gi + 10) D0 else if s16 (W2 f (bgF n f s F s1 gi)) < 0 then none else if (s16 (W2 f (bgF n f s F s1 gi))).toNatClampNeg ≤ 16 then smD f (bgF n f s F s1 gi + 10) (bgF n f s F s1 (gi + 1)) (s16 (W2 f (bgF n f s F s1 gi))).toNatClampNeg else none := by
          intro ch
          show (if _ then _ else _) = _
          rw [if_neg ne1, if_neg ne2]
        generalize hv : s16 (W2 f (bgF n f s F s1 gi)) = v at *
        by_cases c3 : v < (-1 : Int32)
        · rw [if_pos c3]
          refine ⟨0, _, _, _, _, _, _, _, _, _, _, _, _, _, rfl, Or.inl ⟨rfl, sp_none5 ?_ _⟩⟩
          have n1 : ¬ v = -1 := fun q => by rw [q] at c3; exact absurd c3 (by decide)
          have n2 : v < 0 := by
            rw [Int32.lt_iff_toInt_lt, show (-1 : Int32).toInt = -1 from by decide] at c3
            rw [Int32.lt_iff_toInt_lt, show (0 : Int32).toInt = 0 from by decide]
            omega
          rw [sp_65, spx, if_neg n1, if_pos n2]
        rw [if_neg c3]
        by_cases c5 : v < 0
        · have ev : v = -1 := by
            rw [Int32.lt_iff_toInt_lt, show (-1 : Int32).toInt = -1 from by decide] at c3
            rw [Int32.lt_iff_toInt_lt, show (0 : Int32).toInt = 0 from by decide] at c5
            apply Int32.toInt_inj.mp
            rw [show (-1 : Int32).toInt = -1 from by decide]
            omega
          rw [if_pos (by rw [ev]; decide), if_neg (by rw [ev]; decide)]
          have CI : CInv f (bgF n f s F s1) G 1 gi (bgF n f s F s1 (gi + 1)) 41 (bgF n f s F s1 gi + 10) D0 done (upd dep gi 0, upd prt gi 0, upd cs gi 0, upd ps gi 0, x, y, on, ct) done (upd dep gi 0, upd prt gi 0, upd cs gi 0, upd ps gi 0, x, y, on, ct) := by
            refine ⟨⟨⟨pk_us, pk_us, fun k hk => absurd hk (Nat.not_lt_zero _), fun i hi => absurd hi (Nat.not_lt_zero _)⟩, pk_us, pk_us⟩, D0_wf, fun h hh => ?_, c0, ?_, Or.inr ?_, by omega, fun h _ w => w, fun h _ _ _ => RowE.rf _ _, fun h _ w1 w2 => absurd w2 (zero_one w1), by decide, by decide, by decide⟩
            · by_cases q : h = gi
              · rw [q]; exact Or.inl c0
              · rcases hS h hh with w | ⟨w, D2, d1, d2⟩
                · exact Or.inl w
                · exact Or.inr ⟨w, D2, d1, d2.row (sp_wf _ _ _ d1) (RowE.u q _ _ _ _)⟩
            · rw [sp_65, spx, if_pos ev]
            · show spG f (bgF n f s F s1) G (sp f (bgF n f s F s1) G (4 - 1)) gi = _
              rw [spx, if_pos ev]
          obtain ⟨r, at1, e1, gd1, fl1, done1, dep1, prt1, cs1, ps1, x1, y1, on1, ct1, q1, q2⟩ := comp_m_1 H hgi m2 done (upd dep gi 0, upd prt gi 0, upd cs gi 0, upd ps gi 0, x, y, on, ct) 41 (bgF n f s F s1 gi + 10) fuel fl done D0 (upd dep gi 0) (upd prt gi 0) (upd cs gi 0) (upd ps gi 0) x y on ct (by unfold fuel; omega) CI
          have q1 : P_Mo_composite_L1 (nI (bgF n f s F s1 gi + 10)) (nI (bgF n f s F s1 (gi + 1))) 1 fl (nI F) (nI G) g a done (upd dep gi 0) (upd prt gi 0) (upd cs gi 0) (upd ps gi 0) x y on ct (nI gi) = _ := q1
          rw [q1, some_bind]
          simp only [unp]
          unfold P_Mo_glyphF_L1_177 P_Mo_glyphF_L1_179
          rw [bdI (by omega) (by omega), nI_clamp (by omega)]
          by_cases cr : r = 0
          · rw [cr, zb0]
            refine ⟨0, _, _, _, _, _, _, _, _, _, _, _, _, _, rfl, Or.inl ⟨rfl, ?_⟩⟩
            rcases q2 with ⟨_, q3⟩ | ⟨q3, _⟩
            · exact q3
            · rw [cr] at q3; exact absurd q3 (by decide)
          · have cr1 : r = 1 := by
              rcases q2 with ⟨q3, _⟩ | ⟨q3, _⟩
              · exact absurd q3 cr
              · exact q3
            subst cr1
            obtain ⟨g1, g2⟩ := out_comp q2
            rw [zb1, bool1, g1]
            exact ⟨1, _, _, _, _, _, _, _, _, _, _, _, _, _, rfl, g2 _ (fun k _ hk => RowE.u hk _ _ _ _)⟩
        · obtain ⟨k, hk, ek⟩ : ∃ k, k < 65536 ∧ v = nI k := by
            have := s16_of (v := W2 f (bgF n f s F s1 gi)) (by rw [hv]; exact c5)
            rw [hv] at this
            exact this
          have n1 : ¬ v = -1 := fun q => by rw [q] at c5; exact absurd (by decide) c5
          have spy : sp f (bgF n f s F s1) G 5 gi = if k ≤ 16 then smD f (bgF n f s F s1 gi + 10) (bgF n f s F s1 (gi + 1)) k else none := by
            rw [sp_65, spx, if_neg n1, if_neg c5, ek, nI_clamp (by omega)]
          rw [ek, show (16 : Int32) = nI 16 from rfl]
          by_cases c6 : k ≤ 16
          · rw [if_pos (nI_le c6 (by omega)), if_pos (nI_pos' (by omega))]
            rw [if_pos c6] at spy
            rcases simple_m hn hA m2 (p := bgF n f s F s1 gi + 10) (gi := gi) (by omega) (by omega) c6 fl (upd cs gi 0) (upd ps gi 0) x y on ct with ⟨D, d1, d2, d3, d4, d5, at1, F1, x1, y1, on1, ct1, q1, q2, q3⟩ | ⟨d1, u, q1, q2⟩
            · rw [q1, some_bind]
              simp only [unp]
              unfold P_Mo_glyphF_L1_177 P_Mo_glyphF_L1_179
              rw [bdI (by omega) (by omega), nI_clamp (by omega), zb1, bool1]
              refine ⟨1, _, _, _, _, _, _, _, _, _, _, _, _, _, rfl, out_new hS (D := D) ?_ ⟨q2, ?_, ?_⟩ (fun h hh hG' => ?_)⟩
              · rw [spy]; exact d1
              · show upd prt gi 0 gi = _
                rw [pk_us, d4]; rfl
              · show upd dep gi 0 gi = _
                rw [pk_us, d5]; rfl
              · refine ⟨pk_un hh, pk_un hh, ?_, ?_, fun j hj => ?_⟩
                · show upd (upd cs gi 0) gi (nI k) h = cs h
                  rw [pk_un hh, pk_un hh]
                · show upd (upd ps gi 0) gi (nI D.1) h = ps h
                  rw [pk_un hh, pk_un hh]
                · obtain ⟨w1, w2, w3, w4⟩ := q3 (256 * h + j) (by omega)
                  exact ⟨w1, w2, w3, w4⟩
            · obtain ⟨r, u1, u2, u3, u4, u5, u6, u7, u8, u9⟩ := u
              have q2 : r = 0 := q2
              subst q2
              rw [q1, some_bind]
              simp only [unp]
              unfold P_Mo_glyphF_L1_177 P_Mo_glyphF_L1_179
              rw [bdI (by omega) (by omega), nI_clamp (by omega), zb0]
              refine ⟨0, _, _, _, _, _, _, _, _, _, _, _, _, _, rfl, Or.inl ⟨rfl, sp_none5 ?_ _⟩⟩
              rw [spy]; exact d1
          · rw [if_neg (nI_ge (by omega) (by omega))]
            rw [if_neg c6] at spy
            exact ⟨0, _, _, _, _, _, _, _, _, _, _, _, _, _, rfl, Or.inl ⟨rfl, sp_none5 spy _⟩⟩
      · rw [if_neg (fun q => c2 (o10.mp q))]
        refine ⟨0, _, _, _, _, _, _, _, _, _, _, _, _, _, rfl, Or.inl ⟨rfl, sp_none5 ?_ _⟩⟩
        rw [sp_65]
        unfold spG
        rw [if_neg ne1, if_pos (by rw [eb, eb]; omega)]
  · rw [if_neg c0]
    exact ⟨1, _, _, _, _, _, _, _, _, _, _, _, _, _, rfl, out_done hgi hS c0⟩
theorem c301_0 {F G gi p e : Nat} {f g a : Nat → Int32} (hG : G ≤ 64) (hgi : gi < G) (hpt : W2 f (p + 2) < G) (hne : gi ≠ W2 f (p + 2)) (z : Int32 × Int32 × Int32 × Int32 × Int32 × (Nat → Int32) × (Nat → Int32) × (Nat → Int32) × (Nat → Int32) × (Nat → Int32) × (Nat → Int32) × (Nat → Int32) × (Nat → Int32) × (Nat → Int32) × (Nat → Int32) → Option (Int32 × Int32 × Int32 × Int32 × (Nat → Int32) × (Nat → Int32) × (Nat → Int32) × (Nat → Int32) × (Nat → Int32) × (Nat → Int32) × (Nat → Int32) × (Nat → Int32) × (Nat → Int32) × (Nat → Int32))) (fl1 done1 : Nat → Int32) {acc D : Dat} (wa : WfD acc) (wD : WfD D) (bnd : acc.2.2.1 ≤ 40 ∧ D.2.2.1 ≤ 40 ∧ acc.2.2.2.1 ≤ 4 ∧ D.2.2.2.1 ≤ 4) {dep1 prt1 dep2 prt2 cs1 ps1 x1 y1 on1 ct1 : Nat → Int32} (ma : MemD acc gi cs1 ps1 x1 y1 on1 ct1) (mD : MemD D (W2 f (p + 2)) cs1 ps1 x1 y1 on1 ct1) (h1 : dep2 gi = nI (max acc.2.2.2.1 (D.2.2.2.1 + 1))) (h2 : prt2 gi = nI (acc.2.2.1 + (1 + D.2.2.1))) (h3 : ∀ h, h ≠ gi → dep2 h = dep1 h ∧ prt2 h = prt1 h) (q : Int32) : (ptC f p acc D → ∃ cs2 ps2 x2 y2 on2 ct2, P_Mo_composite_L0_301 (nI F) (nI G) g a z (nI gi) (hF f p) (nI (W2 f (p + 2))) (hDx f p) (hDy f p) (hQ f p).1 (hQ f p).2.1 (hQ f p).2.2.1 (hQ f p).2.2.2 q (nI e) 1 fl1 done1 dep2 prt2 cs1 ps1 x1 y1 on1 ct1 = (if hF f p &&& (32 : Int32) = 0 then z (nI gi, 0, q, nI e, 1, fl1, done1, dep2, prt2, cs2, ps2, x2, y2, on2, ct2) else z (nI gi, 1, q, nI e, 1, fl1, done1, dep2, prt2, cs2, ps2, x2, y2, on2, ct2)) ∧ MemS (ptV f p acc D) gi (dep2, prt2, cs2, ps2, x2, y2, on2, ct2) ∧ ∀ h, h < G → h ≠ gi → RowE h (dep1, prt1, cs1, ps1, x1, y1, on1, ct1) (dep2, prt2, cs2, ps2, x2, y2, on2, ct2)) ∧ (¬ ptC f p acc D → ∃ u, P_Mo_composite_L0_301 (nI F) (nI G) g a z (nI gi) (hF f p) (nI (W2 f (p + 2))) (hDx f p) (hDy f p) (hQ f p).1 (hQ f p).2.1 (hQ f p).2.2.1 (hQ f p).2.2.2 q (nI e) 1 fl1 done1 dep2 prt2 cs1 ps1 x1 y1 on1 ct1 = some u ∧ u.1 = 0) := by
  have hm : max acc.2.2.2.1 (D.2.2.2.1 + 1) ≤ 5 := Nat.max_le.mpr ⟨by omega, by omega⟩
  unfold P_Mo_composite_L0_301 P_Mo_composite_L0_359
  simp only [bdI (show gi < 64 by omega) (show 64 < 2 ^ 31 by omega), nI_clamp (show gi < 2 ^ 31 by omega), h1, h2]
  rw [show (40 : Int32) = nI 40 from rfl, show (4 : Int32) = nI 4 from rfl]
  by_cases c1 : 40 < acc.2.2.1 + (1 + D.2.2.1)
  · rw [if_pos (nI_lt c1 (by omega))]
    exact ⟨fun k => absurd k.1 (by omega), fun _ => ⟨_, rfl, rfl⟩⟩
  rw [if_neg (nI_nlt (by omega) (by omega))]
  by_cases c2 : 4 < max acc.2.2.2.1 (D.2.2.2.1 + 1)
  · rw [if_pos (nI_lt c2 (by omega))]
    exact ⟨fun k => absurd k.2.1 (by omega), fun _ => ⟨_, rfl, rfl⟩⟩
  rw [if_neg (nI_nlt (by omega) (by omega))]
  have J := join_D (show gi < 64 by omega) (show W2 f (p + 2) < 64 by omega) hne wa wD ma mD (hDx_w f p) (hDy_w f p) (hM_w f (hF f p) (p + 4 + hA (hF f p))) (acc.2.2.1 + (1 + D.2.2.1)) (max acc.2.2.2.1 (D.2.2.2.1 + 1))
  have J : (jnC acc D (hDx f p) (hDy f p) (hQ f p) → ∃ cs' ps' x' y' on' ct', P_Mo_join cs1 ps1 x1 y1 on1 ct1 (nI gi) (nI (W2 f (p + 2))) (hDx f p) (hDy f p) (hQ f p).1 (hQ f p).2.1 (hQ f p).2.2.1 (hQ f p).2.2.2 = some (1, cs', ps', x', y', on', ct') ∧ MemD (ptV f p acc D) gi cs' ps' x' y' on' ct' ∧ ∀ h, h ≠ gi → cs' h = cs1 h ∧ ps' h = ps1 h ∧ ∀ k, k < 256 → x' (256 * h + k) = x1 (256 * h + k) ∧ y' (256 * h + k) = y1 (256 * h + k) ∧ on' (256 * h + k) = on1 (256 * h + k) ∧ ct' (256 * h + k) = ct1 (256 * h + k)) ∧ (¬ jnC acc D (hDx f p) (hDy f p) (hQ f p) → ∃ u, P_Mo_join cs1 ps1 x1 y1 on1 ct1 (nI gi) (nI (W2 f (p + 2))) (hDx f p) (hDy f p) (hQ f p).1 (hQ f p).2.1 (hQ f p).2.2.1 (hQ f p).2.2.2 = some u ∧ u.1 = 0) := J
  constructor
  · intro hC
    obtain ⟨cs2, ps2, x2, y2, on2, ct2, j1, j2, j3⟩ := J.1 hC.2.2
    refine ⟨cs2, ps2, x2, y2, on2, ct2, ?_, ⟨j2, h2, h1⟩, fun h hh hn => ?_⟩
    · rw [j1, some_bind]
      simp only [unp]
      rw [if_neg n10]
    · obtain ⟨w1, w2, w3⟩ := j3 h hn
      obtain ⟨v1, v2⟩ := h3 h hn
      exact ⟨v1, v2, w1, w2, w3⟩
  · intro hC
    obtain ⟨u, j1, j2⟩ := J.2 (fun k => hC ⟨by omega, by omega, k⟩)
    obtain ⟨r, u2, u3, u4, u5, u6, u7⟩ := u
    have j2 : r = 0 := j2
    rw [j1, some_bind]
    simp only [unp]
    rw [if_pos j2]
    exact ⟨_, rfl, rfl⟩
theorem comp_m_0 {n F G s z s1 : Nat} {f g a : Nat → Int32} (H : GCtx n f g a F G s z s1) {gi e : Nat} (hgi : gi < G) (he : e ≤ n) (done0 : Nat → Int32) (S0 : MSt) : ∀ (m p M : Nat) (fl done : Nat → Int32) (acc : Dat) (dep prt cs ps x y on ct : Nat → Int32), m + 1 < M → CInv f (bgF n f s F s1) G 0 gi e m p acc done0 S0 done (dep, prt, cs, ps, x, y, on, ct) → ∃ r at' e' gd fl' done' dep' prt' cs' ps' x' y' on' ct', lp (L_Mo_composite_L0_3 (nI F) (nI G) g a) M (nI gi, 1, nI p, nI e, 1, fl, done, dep, prt, cs, ps, x, y, on, ct) = some (r, at', e', gd, fl', done', dep', prt', cs', ps', x', y', on', ct') ∧ OutC f (bgF n f s F s1) G 0 gi done0 S0 r done' (dep', prt', cs', ps', x', y', on', ct') gd := by
  intro m
  induction m with
  | zero =>
    intro p M fl done acc dep prt cs ps x y on ct hM hI
    obtain ⟨_, _, _, _, _, _, _, _, _, _, i11, i12, _⟩ := hI
    omega
  | succ m ih =>
    intro p M fl done acc dep prt cs ps x y on ct hM hI
    obtain ⟨M, rfl⟩ := suc_of (d := 0) (m := M) (by omega)
    obtain ⟨hn, hA, _, _, _, _, hG, _⟩ := id H
    have hp := hI.2.2.2.2.2.2.1
    have hh := mhead_0 hn hA he (nI F) a hG (lp (L_Mo_composite_L0_3 (nI F) (nI G) g a) M) (nI gi) fl done dep prt cs ps x y on ct hp
    have hspec := hI.2.2.2.2.1
    rw [e_Mo_composite_L0_3]
    by_cases hO : hOk f p e G
    · rw [hh.1 hO]
      unfold P_Mo_composite_L0_202
      rw [if_neg n10]
      obtain ⟨r, at1, e1, gd1, fl1, done1, dep1, prt1, cs1, ps1, x1, y1, on1, ct1, q1, q2⟩ := glyph_m_1 H hO.2.2 (nI (p + hL (hF f p))) (nI e) fl done dep prt cs ps x y on ct hI.2.2.1
      rw [q1, some_bind]
      simp only [unp]
      rcases q2 with ⟨rfl, q3⟩ | ⟨rfl, k0, D, k1, k2, k3, k4, k5, k6⟩
      · rw [if_pos rfl]
        refine ⟨0, _, _, _, _, _, _, _, _, _, _, _, _, _, rfl, Or.inl ⟨rfl, ?_⟩⟩
        rcases hI.2.2.2.2.2.1 with w | w
        · exact w
        · exact w.trans (cmS_no (fun ⟨_, D2, q, _⟩ => by
            have q : sp f (bgF n f s F s1) G (5 - 1) (W2 f (p + 2)) = some D2 := q
            rw [q3] at q; cases q))
      · rw [if_neg n10]
        obtain ⟨d0, hne, mS, mD⟩ := cstep1 hgi hI hO k1 k2 k3 k4 k5 k6
        have wa := hI.2.1
        have wD := sp_wf _ _ _ k1
        have bD := sp_dep _ _ _ k1
        have ba : acc.2.2.1 ≤ 40 ∧ acc.2.2.2.1 ≤ 4 := ⟨hI.2.2.2.2.2.2.2.2.2.2.2.1, hI.2.2.2.2.2.2.2.2.2.2.2.2⟩
        have hpt := hO.2.2
        have a1 : dep1 gi = nI acc.2.2.2.1 := mS.2.2
        have a2 : prt1 gi = nI acc.2.2.1 := mS.2.1
        have a3 : dep1 (W2 f (p + 2)) = nI D.2.2.2.1 := mD.2.2
        have a4 : prt1 (W2 f (p + 2)) = nI D.2.2.1 := mD.2.1
        simp only [bdI (show gi < 64 by omega) (show 64 < 2 ^ 31 by omega), bdI (show W2 f (p + 2) < 64 by omega) (show 64 < 2 ^ 31 by omega), nI_clamp (show gi < 2 ^ 31 by omega), nI_clamp (show W2 f (p + 2) < 2 ^ 31 by omega), a1, a2, a3, a4]
        have fin : ∀ dep2 : Nat → Int32, dep2 gi = nI (max acc.2.2.2.1 (D.2.2.2.1 + 1)) → (∀ h, h ≠ gi → dep2 h = dep1 h) → ∃ r at' e' gd fl' done' dep' prt' cs' ps' x' y' on' ct', P_Mo_composite_L0_301 (nI F) (nI G) g a (lp (L_Mo_composite_L0_3 (nI F) (nI G) g a) M) (nI gi) (hF f p) (nI (W2 f (p + 2))) (hDx f p) (hDy f p) (hQ f p).1 (hQ f p).2.1 (hQ f p).2.2.1 (hQ f p).2.2.2 (nI (p + hL (hF f p))) (nI e) 1 fl1 done1 dep2 (upd prt1 gi (nI (acc.2.2.1 + (1 + D.2.2.1)))) cs1 ps1 x1 y1 on1 ct1 = some (r, at', e', gd, fl', done', dep', prt', cs', ps', x', y', on', ct') ∧ OutC f (bgF n f s F s1) G 0 gi done0 S0 r done' (dep', prt', cs', ps', x', y', on', ct') gd := by
          intro dep2 e1 e2
          have C3 := c301_0 (F := F) (g := g) (a := a) (e := e) hG hgi hpt hne (lp (L_Mo_composite_L0_3 (nI F) (nI G) g a) M) fl1 done1 wa wD ⟨ba.1, bD.2.1, ba.2, bD.1⟩ (dep1 := dep1) (prt1 := prt1) (dep2 := dep2) (prt2 := upd prt1 gi (nI (acc.2.2.1 + (1 + D.2.2.1)))) mS.1 mD.1 e1 pk_us (fun h hh => ⟨e2 h hh, pk_un hh⟩) (nI (p + hL (hF f p)))
          by_cases hC : ptC f p acc D
          · obtain ⟨cs2, ps2, x2, y2, on2, ct2, c1, c2, c3⟩ := C3.1 hC
            rw [c1]
            have S2 := cstep2 hgi hI hO k1 d0 k3 k4 k5 k6 hC c2 c3
            by_cases c32 : hF f p &&& (32 : Int32) = 0
            · rw [if_pos c32]
              obtain ⟨M, rfl⟩ := suc_of (d := 0) (m := M) (by omega)
              rw [e_Mo_composite_L0_3]
              unfold P_Mo_composite_L0_3b
              rw [if_pos rfl]
              exact ⟨_, _, _, _, _, _, _, _, _, _, _, _, _, _, rfl, S2.1 c32⟩
            · rw [if_neg c32]
              exact ih (p + hL (hF f p)) M fl1 done1 (ptV f p acc D) dep2 _ cs2 ps2 x2 y2 on2 ct2 (by omega) (S2.2 c32)
          · obtain ⟨u, c1, c2⟩ := C3.2 hC
            obtain ⟨u0, u1, u2, u3, u4, u5, u6, u7, u8, u9, u10, u11, u12, u13⟩ := u
            have c2 : u0 = 0 := c2
            refine ⟨u0, u1, u2, u3, u4, u5, u6, u7, u8, u9, u10, u11, u12, u13, c1, Or.inl ⟨c2, sp_none5 (hspec.trans (cmS_no (fun ⟨_, D2, q, q'⟩ => ?_))) _⟩⟩
            rw [k1] at q
            cases q
            exact hC q'
        have ep : nI acc.2.2.1 + ((1 : Int32) + nI D.2.2.1) = nI (acc.2.2.1 + (1 + D.2.2.1)) := by rw [show (1 : Int32) = nI 1 from rfl, nI_add, nI_add]
        rw [ep, nI_1, k0]
        by_cases c : D.2.2.2.1 + 1 ≤ acc.2.2.2.1
        · rw [if_pos (nI_le c (by omega))]
          exact fin dep1 (by rw [a1, Nat.max_eq_left c]) (fun h _ => rfl)
        · rw [if_neg (nI_ge (by omega) (by omega))]
          exact fin (upd dep1 gi (nI (D.2.2.2.1 + 1))) (by rw [pk_us, Nat.max_eq_right (by omega)]) (fun h hh => pk_un hh)
    · obtain ⟨u, c1, c2⟩ := hh.2 hO
      obtain ⟨u0, u1, u2, u3, u4, u5, u6, u7, u8, u9, u10, u11, u12, u13⟩ := u
      have c2 : u0 = 0 := c2
      exact ⟨u0, u1, u2, u3, u4, u5, u6, u7, u8, u9, u10, u11, u12, u13, c1, Or.inl ⟨c2, sp_none5 (hspec.trans (cmS_no (fun q => hO q.1))) _⟩⟩
theorem glyph_m_0 {n F G s z s1 : Nat} {f g a : Nat → Int32} (H : GCtx n f g a F G s z s1) {gi : Nat} (hgi : gi < G) (at0 e0 gd0 : Int32) (fl done dep prt cs ps x y on ct : Nat → Int32) (hS : GS f (bgF n f s F s1) G done (dep, prt, cs, ps, x, y, on, ct)) : ∃ r at' e' gd fl' done' dep' prt' cs' ps' x' y' on' ct', P_Mo_glyphF_L0 at0 e0 gd0 fl (nI F) (nI G) g a done dep prt cs ps x y on ct (nI gi) = some (r, at', e', gd, fl', done', dep', prt', cs', ps', x', y', on', ct') ∧ Out f (bgF n f s F s1) G 0 gi done (dep, prt, cs, ps, x, y, on, ct) r done' (dep', prt', cs', ps', x', y', on', ct') 1 := by
  obtain ⟨hn, hA, h1, h6, hz, hF, hG, h4, _, _⟩ := id H
  have b1 := lo_lt n f s F gi
  have b2 := lo_lt n f s F (gi + 1)
  have m1 := H.mo hgi
  have m2 := H.le (show gi + 1 ≤ G by omega)
  have m3 := H.le (show gi ≤ G by omega)
  have eb : ∀ j, bgF n f s F s1 j = s1 + lo n f s F j := fun _ => rfl
  unfold P_Mo_glyphF_L0
  simp only [bl1, cl1, h1]
  rw [bdI (by omega) (by omega), nI_clamp (by omega)]
  by_cases c0 : done gi = 0
  · rw [if_pos c0, bdI (by omega) (by omega), bdI (by omega) (by omega), bdI (by omega) (by omega), bdI (by omega) (by omega), nI_1, lo_m hn hA h6 hz hF hG h4 (by omega), some_bind, lo_m hn hA h6 hz hF hG h4 (by omega), some_bind]
    by_cases c1 : lo n f s F (gi + 1) ≤ lo n f s F gi
    · rw [if_pos ((lg_cmp_le _ _).mpr ((pk_lLE (by omega) (by omega)).mpr c1))]
      unfold P_Mo_glyphF_L0_179
      rw [bdI (by omega) (by omega), zb1, nI_clamp (by omega), bool1]
      refine ⟨1, _, _, _, _, _, _, _, _, _, _, _, _, _, rfl, out_new hS (D := D0) ?_ ⟨⟨pk_us, pk_us, fun k hk => absurd hk (Nat.not_lt_zero _), fun i hi => absurd hi (Nat.not_lt_zero _)⟩, pk_us, pk_us⟩ (fun h hh _ => RowE.u hh _ _ _ _)⟩
      rw [sp_65]
      unfold spG
      rw [if_pos (by rw [eb, eb]; rw [eb, eb] at m1; omega)]
    · rw [if_neg (fun q => c1 ((pk_lLE (by omega) (by omega)).mp ((lg_cmp_le _ _).mp q))), lN_i, lN_i, nI_add, nI_add, lN_sub (by omega)]
      have ne1 : ¬ bgF n f s F s1 gi = bgF n f s F s1 (gi + 1) := by rw [eb, eb]; omega
      have o10 : 0 ≤ lg_cmp (lN (lo n f s F (gi + 1) - lo n f s F gi)) (10 : Int64) ↔ 10 ≤ lo n f s F (gi + 1) - lo n f s F gi := by
        rw [lg_cmp_ge]
        exact pk_lLE (a := 10) (by omega) (by omega)
      by_cases c2 : 10 ≤ lo n f s F (gi + 1) - lo n f s F gi
      · rw [if_pos (o10.mpr c2), show s1 + lo n f s F gi = bgF n f s F s1 gi from rfl, show s1 + lo n f s F (gi + 1) = bgF n f s F s1 (gi + 1) from rfl]
        have ne2 : ¬ bgF n f s F s1 (gi + 1) < bgF n f s F s1 gi + 10 := by rw [eb, eb]; omega
        rw [mb2 hn hA (by omega) m2, some_bind]
        simp only [unp]
        rw [show nI (bgF n f s F s1 gi + 2) + (8 : Int32) = nI (bgF n f s F s1 gi + 10) from nI_add _ 8]
        rw [show (nI (W2 f (bgF n f s F s1 gi))).toInt16.toInt32 = s16 (W2 f (bgF n f s F s1 gi)) from rfl]
        have spx : ∀ ch, spG f (bgF n f s F s1) G ch gi = if s16 (W2 f (bgF n f s F s1 gi)) = -1 then cmS f (bgF n f s F s1 (gi + 1)) G ch 41 (bgF n f s F s1 gi + 10) D0 else if s16 (W2 f (bgF n f s F s1 gi)) < 0 then none else if (s16 (W2 f (bgF n f s F s1 gi))).toNatClampNeg ≤ 16 then smD f (bgF n f s F s1 gi + 10) (bgF n f s F s1 (gi + 1)) (s16 (W2 f (bgF n f s F s1 gi))).toNatClampNeg else none := by
          intro ch
          show (if _ then _ else _) = _
          rw [if_neg ne1, if_neg ne2]
        generalize hv : s16 (W2 f (bgF n f s F s1 gi)) = v at *
        by_cases c3 : v < (-1 : Int32)
        · rw [if_pos c3]
          refine ⟨0, _, _, _, _, _, _, _, _, _, _, _, _, _, rfl, Or.inl ⟨rfl, sp_none5 ?_ _⟩⟩
          have n1 : ¬ v = -1 := fun q => by rw [q] at c3; exact absurd c3 (by decide)
          have n2 : v < 0 := by
            rw [Int32.lt_iff_toInt_lt, show (-1 : Int32).toInt = -1 from by decide] at c3
            rw [Int32.lt_iff_toInt_lt, show (0 : Int32).toInt = 0 from by decide]
            omega
          rw [sp_65, spx, if_neg n1, if_pos n2]
        rw [if_neg c3]
        by_cases c5 : v < 0
        · have ev : v = -1 := by
            rw [Int32.lt_iff_toInt_lt, show (-1 : Int32).toInt = -1 from by decide] at c3
            rw [Int32.lt_iff_toInt_lt, show (0 : Int32).toInt = 0 from by decide] at c5
            apply Int32.toInt_inj.mp
            rw [show (-1 : Int32).toInt = -1 from by decide]
            omega
          rw [if_pos (by rw [ev]; decide), if_neg (by rw [ev]; decide)]
          have CI : CInv f (bgF n f s F s1) G 0 gi (bgF n f s F s1 (gi + 1)) 41 (bgF n f s F s1 gi + 10) D0 done (upd dep gi 0, upd prt gi 0, upd cs gi 0, upd ps gi 0, x, y, on, ct) done (upd dep gi 0, upd prt gi 0, upd cs gi 0, upd ps gi 0, x, y, on, ct) := by
            refine ⟨⟨⟨pk_us, pk_us, fun k hk => absurd hk (Nat.not_lt_zero _), fun i hi => absurd hi (Nat.not_lt_zero _)⟩, pk_us, pk_us⟩, D0_wf, fun h hh => ?_, c0, ?_, Or.inr ?_, by omega, fun h _ w => w, fun h _ _ _ => RowE.rf _ _, fun h _ w1 w2 => absurd w2 (zero_one w1), by decide, by decide, by decide⟩
            · by_cases q : h = gi
              · rw [q]; exact Or.inl c0
              · rcases hS h hh with w | ⟨w, D2, d1, d2⟩
                · exact Or.inl w
                · exact Or.inr ⟨w, D2, d1, d2.row (sp_wf _ _ _ d1) (RowE.u q _ _ _ _)⟩
            · rw [sp_65, spx, if_pos ev]
            · show spG f (bgF n f s F s1) G (sp f (bgF n f s F s1) G (4 - 0)) gi = _
              rw [spx, if_pos ev]
          obtain ⟨r, at1, e1, gd1, fl1, done1, dep1, prt1, cs1, ps1, x1, y1, on1, ct1, q1, q2⟩ := comp_m_0 H hgi m2 done (upd dep gi 0, upd prt gi 0, upd cs gi 0, upd ps gi 0, x, y, on, ct) 41 (bgF n f s F s1 gi + 10) fuel fl done D0 (upd dep gi 0) (upd prt gi 0) (upd cs gi 0) (upd ps gi 0) x y on ct (by unfold fuel; omega) CI
          have q1 : P_Mo_composite_L0 (nI (bgF n f s F s1 gi + 10)) (nI (bgF n f s F s1 (gi + 1))) 1 fl (nI F) (nI G) g a done (upd dep gi 0) (upd prt gi 0) (upd cs gi 0) (upd ps gi 0) x y on ct (nI gi) = _ := q1
          rw [q1, some_bind]
          simp only [unp]
          unfold P_Mo_glyphF_L0_177 P_Mo_glyphF_L0_179
          rw [bdI (by omega) (by omega), nI_clamp (by omega)]
          by_cases cr : r = 0
          · rw [cr, zb0]
            refine ⟨0, _, _, _, _, _, _, _, _, _, _, _, _, _, rfl, Or.inl ⟨rfl, ?_⟩⟩
            rcases q2 with ⟨_, q3⟩ | ⟨q3, _⟩
            · exact q3
            · rw [cr] at q3; exact absurd q3 (by decide)
          · have cr1 : r = 1 := by
              rcases q2 with ⟨q3, _⟩ | ⟨q3, _⟩
              · exact absurd q3 cr
              · exact q3
            subst cr1
            obtain ⟨g1, g2⟩ := out_comp q2
            rw [zb1, bool1, g1]
            exact ⟨1, _, _, _, _, _, _, _, _, _, _, _, _, _, rfl, g2 _ (fun k _ hk => RowE.u hk _ _ _ _)⟩
        · obtain ⟨k, hk, ek⟩ : ∃ k, k < 65536 ∧ v = nI k := by
            have := s16_of (v := W2 f (bgF n f s F s1 gi)) (by rw [hv]; exact c5)
            rw [hv] at this
            exact this
          have n1 : ¬ v = -1 := fun q => by rw [q] at c5; exact absurd (by decide) c5
          have spy : sp f (bgF n f s F s1) G 5 gi = if k ≤ 16 then smD f (bgF n f s F s1 gi + 10) (bgF n f s F s1 (gi + 1)) k else none := by
            rw [sp_65, spx, if_neg n1, if_neg c5, ek, nI_clamp (by omega)]
          rw [ek, show (16 : Int32) = nI 16 from rfl]
          by_cases c6 : k ≤ 16
          · rw [if_pos (nI_le c6 (by omega)), if_pos (nI_pos' (by omega))]
            rw [if_pos c6] at spy
            rcases simple_m hn hA m2 (p := bgF n f s F s1 gi + 10) (gi := gi) (by omega) (by omega) c6 fl (upd cs gi 0) (upd ps gi 0) x y on ct with ⟨D, d1, d2, d3, d4, d5, at1, F1, x1, y1, on1, ct1, q1, q2, q3⟩ | ⟨d1, u, q1, q2⟩
            · rw [q1, some_bind]
              simp only [unp]
              unfold P_Mo_glyphF_L0_177 P_Mo_glyphF_L0_179
              rw [bdI (by omega) (by omega), nI_clamp (by omega), zb1, bool1]
              refine ⟨1, _, _, _, _, _, _, _, _, _, _, _, _, _, rfl, out_new hS (D := D) ?_ ⟨q2, ?_, ?_⟩ (fun h hh hG' => ?_)⟩
              · rw [spy]; exact d1
              · show upd prt gi 0 gi = _
                rw [pk_us, d4]; rfl
              · show upd dep gi 0 gi = _
                rw [pk_us, d5]; rfl
              · refine ⟨pk_un hh, pk_un hh, ?_, ?_, fun j hj => ?_⟩
                · show upd (upd cs gi 0) gi (nI k) h = cs h
                  rw [pk_un hh, pk_un hh]
                · show upd (upd ps gi 0) gi (nI D.1) h = ps h
                  rw [pk_un hh, pk_un hh]
                · obtain ⟨w1, w2, w3, w4⟩ := q3 (256 * h + j) (by omega)
                  exact ⟨w1, w2, w3, w4⟩
            · obtain ⟨r, u1, u2, u3, u4, u5, u6, u7, u8, u9⟩ := u
              have q2 : r = 0 := q2
              subst q2
              rw [q1, some_bind]
              simp only [unp]
              unfold P_Mo_glyphF_L0_177 P_Mo_glyphF_L0_179
              rw [bdI (by omega) (by omega), nI_clamp (by omega), zb0]
              refine ⟨0, _, _, _, _, _, _, _, _, _, _, _, _, _, rfl, Or.inl ⟨rfl, sp_none5 ?_ _⟩⟩
              rw [spy]; exact d1
          · rw [if_neg (nI_ge (by omega) (by omega))]
            rw [if_neg c6] at spy
            exact ⟨0, _, _, _, _, _, _, _, _, _, _, _, _, _, rfl, Or.inl ⟨rfl, sp_none5 spy _⟩⟩
      · rw [if_neg (fun q => c2 (o10.mp q))]
        refine ⟨0, _, _, _, _, _, _, _, _, _, _, _, _, _, rfl, Or.inl ⟨rfl, sp_none5 ?_ _⟩⟩
        rw [sp_65]
        unfold spG
        rw [if_neg ne1, if_pos (by rw [eb, eb]; omega)]
  · rw [if_neg c0]
    exact ⟨1, _, _, _, _, _, _, _, _, _, _, _, _, _, rfl, out_done hgi hS c0⟩
theorem glyf_i {n F G s z s1 : Nat} {f g a : Nat → Int32} (H : GCtx n f g a F G s z s1) : ∀ (d k m : Nat) (at0 e0 gd0 : Int32) (fl done dep prt cs ps x y on ct : Nat → Int32), k + d = G → d < m → GS f (bgF n f s F s1) G done (dep, prt, cs, ps, x, y, on, ct) → (∀ j, j < k → done j = 1) → ∃ r at' e' gd fl' done' dep' prt' cs' ps' x' y' on' ct', lp (L_Mo_glyf_25 (nI F) (nI G) g a) m (nI k, at0, e0, gd0, fl, done, dep, prt, cs, ps, x, y, on, ct) = some (r, at', e', gd, fl', done', dep', prt', cs', ps', x', y', on', ct') ∧ ((r = 0 ∧ ∃ j, j < G ∧ sp f (bgF n f s F s1) G 5 j = none) ∨ (r = 1 ∧ ∀ j, j < G → ∃ D, sp f (bgF n f s F s1) G 5 j = some D ∧ MemS D j (dep', prt', cs', ps', x', y', on', ct'))) := by
  intro d
  induction d with
  | zero =>
    intro k m at0 e0 gd0 fl done dep prt cs ps x y on ct hk hm hS hd
    obtain ⟨m, rfl⟩ := suc_of hm
    have hG := H.2.2.2.2.2.2.1
    rw [e_Mo_glyf_25]
    unfold P_Mo_glyf_25b
    rw [if_pos (nI_le (by omega) (by omega))]
    refine ⟨1, _, _, _, _, _, _, _, _, _, _, _, _, _, rfl, Or.inr ⟨rfl, fun j hj => ?_⟩⟩
    rcases hS j hj with w | ⟨_, D, d1, d2⟩
    · exact absurd (hd j (by omega)) (zero_one w)
    · exact ⟨D, d1, d2⟩
  | succ d ih =>
    intro k m at0 e0 gd0 fl done dep prt cs ps x y on ct hk hm hS hd
    obtain ⟨m, rfl⟩ := suc_of hm
    have hG := H.2.2.2.2.2.2.1
    rw [e_Mo_glyf_25]
    unfold P_Mo_glyf_25b
    rw [if_neg (nI_ge (by omega) (by omega))]
    obtain ⟨r, at1, e1, gd1, fl1, done1, dep1, prt1, cs1, ps1, x1, y1, on1, ct1, q1, q2⟩ := glyph_m_0 H (show k < G by omega) at0 e0 gd0 fl done dep prt cs ps x y on ct hS
    rw [q1, some_bind]
    simp only [unp]
    rcases q2 with ⟨rfl, q3⟩ | ⟨rfl, _, D, k1, k2, k3, k4, k5, k6⟩
    · rw [if_pos rfl]
      exact ⟨0, _, _, _, _, _, _, _, _, _, _, _, _, _, rfl, Or.inl ⟨rfl, k, by omega, q3⟩⟩
    · rw [if_neg n10, nI_1]
      exact ih (k + 1) m at1 e1 gd1 fl1 done1 dep1 prt1 cs1 ps1 x1 y1 on1 ct1 (by omega) (by omega) k3 (fun j hj => by
        by_cases w : j = k
        · rw [w]; exact k2
        · exact k4 j (by omega) (hd j (by omega)))
theorem glyf_c {F G : Nat} {g a : Nat → Int32} (hG : G ≤ 64) (at0 e0 gd0 : Int32) (fl dep prt cs ps x y on ct : Nat → Int32) : ∀ (d k m : Nat) (done : Nat → Int32), k + d = G → d < m → (∀ j, j < k → done j = 0) → ∃ done', lp (L_Mo_glyf_2 (nI F) (nI G) g a) m (nI k, at0, e0, gd0, fl, done, dep, prt, cs, ps, x, y, on, ct) = P_Mo_glyf_25 (nI F) (nI G) g a 0 at0 e0 gd0 fl done' dep prt cs ps x y on ct ∧ ∀ j, j < G → done' j = 0 := by
  intro d
  induction d with
  | zero =>
    intro k m done hk hm hd
    obtain ⟨m, rfl⟩ := suc_of hm
    refine ⟨done, ?_, fun j hj => hd j (by omega)⟩
    rw [e_Mo_glyf_2]
    unfold P_Mo_glyf_2b
    rw [if_pos (nI_le (by omega) (by omega))]
  | succ d ih =>
    intro k m done hk hm hd
    obtain ⟨m, rfl⟩ := suc_of hm
    obtain ⟨done', e1, e2⟩ := ih (k + 1) m (upd done k 0) (by omega) (by omega) (fun j hj => by
      by_cases w : j = k
      · rw [w, pk_us]
      · rw [pk_un w]; exact hd j (by omega))
    refine ⟨done', ?_, e2⟩
    rw [e_Mo_glyf_2]
    unfold P_Mo_glyf_2b
    rw [if_neg (nI_ge (by omega) (by omega)), bdI (by omega) (by omega), nI_clamp (by omega), nI_1, bool0]
    exact e1
/-- rule 8 in the reference -/
theorem glyf_m {n F G s z s1 : Nat} {f g a : Nat → Int32} (H : GCtx n f g a F G s z s1) (at0 e0 gd0 : Int32) (fl done dep prt cs ps x y on ct : Nat → Int32) : ∃ r at' e' gd fl' done' dep' prt' cs' ps' x' y' on' ct', P_Mo_glyf at0 e0 gd0 fl (nI F) (nI G) g a done dep prt cs ps x y on ct = some (r, at', e', gd, fl', done', dep', prt', cs', ps', x', y', on', ct') ∧ ((r = 0 ∧ ∃ j, j < G ∧ sp f (bgF n f s F s1) G 5 j = none) ∨ (r = 1 ∧ ∀ j, j < G → ∃ D, sp f (bgF n f s F s1) G 5 j = some D ∧ MemS D j (dep', prt', cs', ps', x', y', on', ct'))) := by
  have hG := H.2.2.2.2.2.2.1
  obtain ⟨done1, e1, e2⟩ := glyf_c (F := F) (g := g) (a := a) hG at0 e0 gd0 fl dep prt cs ps x y on ct G 0 fuel done (by omega) (by unfold fuel; omega) (fun j hj => absurd hj (by omega))
  have e1 : P_Mo_glyf at0 e0 gd0 fl (nI F) (nI G) g a done dep prt cs ps x y on ct = _ := e1
  rw [e1]
  exact glyf_i H G 0 fuel at0 e0 gd0 fl done1 dep prt cs ps x y on ct (by omega) (by unfold fuel; omega) (fun j hj => Or.inl (e2 j hj)) (fun j hj => absurd hj (by omega))
