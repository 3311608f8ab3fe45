/-! PURE ROWS: the class's glyphs, depth by depth (printed by wip/whole/gen/glyff.py) -/
theorem cmS_ge {f : Nat → Int32} {e G : Nat} {ch : Nat → Option Dat} : ∀ (m p : Nat) (acc R : Dat), cmS f e G ch m p acc = some R → acc.1 ≤ R.1 ∧ acc.2.1 ≤ R.2.1 := by
  intro m
  induction m with
  | zero => intro p acc R h; cases h
  | succ m ih =>
    intro p acc R h
    obtain ⟨_, D, _, _, h4⟩ := cmS_some h
    have b1 : (ptV f p acc D).1 = acc.1 + D.1 := rfl
    have b2 : (ptV f p acc D).2.1 = acc.2.1 + D.2.1 := rfl
    split at h4
    · cases h4; omega
    · have := ih _ _ _ h4
      omega
theorem cmS_k {f : Nat → Int32} {e G k : Nat} {ch : Nat → Option Dat} (hch : ∀ x D, ch x = some D → D.2.2.2.1 + 1 ≤ k) : ∀ (m p : Nat) (acc R : Dat), acc.2.2.2.1 ≤ k → cmS f e G ch m p acc = some R → R.2.2.2.1 ≤ k := by
  intro m
  induction m with
  | zero => intro p acc R _ h; cases h
  | succ m ih =>
    intro p acc R ha h
    obtain ⟨_, D, h2, _, h4⟩ := cmS_some h
    have b1 : (ptV f p acc D).2.2.2.1 ≤ k := Nat.max_le.mpr ⟨ha, hch _ _ h2⟩
    split at h4
    · cases h4; exact b1
    · exact ih _ _ _ b1 h4
theorem sp_lt {f : Nat → Int32} {bg : Nat → Nat} {G : Nat} : ∀ (k g : Nat) (D : Dat), sp f bg G k g = some D → D.2.2.2.1 + 1 ≤ k := by
  intro k
  induction k with
  | zero => intro g D h; cases h
  | succ k ih =>
    intro g D h
    have h' : spG f bg G (sp f bg G k) g = some D := h
    unfold spG at h'
    split at h'
    · cases h'; exact Nat.succ_le_succ (Nat.zero_le _)
    · split at h'
      · cases h'
      · split at h'
        · have := cmS_k ih _ _ _ _ (Nat.zero_le _) h'
          omega
        · split at h'
          · cases h'
          · split at h'
            · obtain ⟨_, _, _, e2, _⟩ := smD_E h'
              omega
            · cases h'
theorem sp1_prt {f : Nat → Int32} {bg : Nat → Nat} {G g : Nat} {D : Dat} (h : sp f bg G 1 g = some D) : D.2.2.1 = 0 := by
  have h' : spG f bg G (sp f bg G 0) g = some D := h
  unfold spG at h'
  split at h'
  · cases h'; rfl
  · split at h'
    · cases h'
    · split at h'
      · obtain ⟨_, D2, w, _⟩ := cmS_some h'
        cases w
      · split at h'
        · cases h'
        · split at h'
          · exact (smD_E h').2.2.1
          · cases h'
def ShR (D : Dat) (n0 c0 : Nat) (pts con : Int32) (xs ys on la xs' ys' on' la' : Nat → Int32) : Prop := pts = nI (n0 + D.1) ∧ con = nI (c0 + D.2.1) ∧ ShD D n0 xs' ys' on' ∧ (∀ i, i < D.2.1 → la' (c0 + i) = nI (n0 + D.2.2.2.2.2.2.2 i)) ∧ (∀ j, j < n0 → xs' j = xs j ∧ ys' j = ys j ∧ on' j = on j) ∧ ∀ j, j < c0 → la' j = la j
def Fit (D : Dat) (n0 c0 p0 : Nat) : Prop := n0 + D.1 ≤ 256 ∧ c0 + D.2.1 ≤ 32 ∧ p0 + D.2.2.1 ≤ 40
def FCtx (n : Nat) (gs : Nat → Int32) (G : Nat) (bg : Nat → Nat) : Prop := n ≤ 4096 ∧ G ≤ 64 ∧ (∀ j, j ≤ G → gs j = nI (bg j)) ∧ (∀ j, j < G → bg j ≤ bg (j + 1)) ∧ ∀ j, j ≤ G → bg j ≤ n
theorem ShR.d0 {n0 c0 : Nat} {xs ys on la : Nat → Int32} : ShR D0 n0 c0 (nI n0) (nI c0) xs ys on la xs ys on la := ⟨rfl, rfl, fun k hk => absurd hk (Nat.not_lt_zero _), fun i hi => absurd hi (Nat.not_lt_zero _), fun _ _ => ⟨rfl, rfl, rfl⟩, fun _ _ => rfl⟩
theorem opn {p e n : Nat} (hp : p < 2 ^ 30) (he : e ≤ n) (hn : n ≤ 4096) (a b c : Int32) : P_Rd_open a b c (nI n) (nI p) (nI e) = some (nI p, nI e, 1) := by
  unfold P_Rd_open P_Jm_max P_Jm_min
  have e1 : (if (0 : Int32) < nI p then some (nI p) else some 0) = some (nI p) := by
    by_cases c : 0 < p
    · rw [if_pos (show (0 : Int32) < nI p from nI_lt (a := 0) c (by omega))]
    · rw [show p = 0 by omega]; rfl
  have e2 : (if nI n < nI e then some (nI n) else some (nI e)) = some (nI e) := by
    rw [if_neg (nI_nlt he (by omega))]
  rw [e1, some_bind, e2, some_bind]
/-- a part that was read and moved stands behind the others -/
theorem ShR.join {f : Nat → Int32} {p n0 c0 : Nat} {acc D : Dat} {pts con pts1 con1 : Int32} {xs0 ys0 on0 la0 xs ys on la xs1 ys1 on1 la1 xs2 ys2 : Nat → Int32} (wa : WfD acc) (wD : WfD D) (h1 : ShR acc n0 c0 pts con xs0 ys0 on0 la0 xs ys on la) (h2 : ShR D (n0 + acc.1) (c0 + acc.2.1) pts1 con1 xs ys on la xs1 ys1 on1 la1) (h3 : ∀ i, n0 + acc.1 ≤ i → i < n0 + acc.1 + D.1 → xs2 i = mv (hDx f p) (hQ f p).1 (hQ f p).2.2.1 (xs1 i) (ys1 i) ∧ ys2 i = mv (hDy f p) (hQ f p).2.1 (hQ f p).2.2.2 (xs1 i) (ys1 i)) (h4 : ∀ i, i < n0 + acc.1 → xs2 i = xs1 i ∧ ys2 i = ys1 i) : ShR (ptV f p acc D) n0 c0 pts1 con1 xs0 ys0 on0 la0 xs2 ys2 on1 la1 := by
  obtain ⟨a1, a2, a3, a4, a5, a6⟩ := h1
  obtain ⟨d1, d2, d3, d4, d5, d6⟩ := h2
  refine ⟨?_, ?_, fun k hk => ?_, fun i hi => ?_, fun j hj => ?_, fun j hj => ?_⟩
  · rw [d1, Nat.add_assoc]; rfl
  · rw [d2, Nat.add_assoc]; rfl
  · have hk : k < acc.1 + D.1 := hk
    show xs2 (n0 + k) = (if k < acc.1 then _ else _) ∧ ys2 (n0 + k) = (if k < acc.1 then _ else _) ∧ on1 (n0 + k) = (if k < acc.1 then _ else _)
    by_cases c : k < acc.1
    · rw [if_pos c, if_pos c, if_pos c]
      obtain ⟨p1, p2⟩ := h4 (n0 + k) (by omega)
      obtain ⟨q1, q2, q3⟩ := d5 (n0 + k) (by omega)
      obtain ⟨r1, r2, r3⟩ := a3 k c
      exact ⟨p1.trans (q1.trans r1), p2.trans (q2.trans r2), q3.trans r3⟩
    · rw [if_neg c, if_neg c, if_neg c]
      obtain ⟨p1, p2⟩ := h3 (n0 + k) (by omega) (by omega)
      obtain ⟨r1, r2, r3⟩ := d3 (k - acc.1) (by omega)
      rw [show n0 + acc.1 + (k - acc.1) = n0 + k by omega] at r1 r2 r3
      rw [p1, p2, r1, r2, r3]
      exact ⟨rfl, rfl, rfl⟩
  · have hi : i < acc.2.1 + D.2.1 := hi
    show la1 (c0 + i) = nI (n0 + (if i < acc.2.1 then _ else _))
    by_cases c : i < acc.2.1
    · rw [if_pos c, d6 _ (by omega), a4 i c]
    · rw [if_neg c]
      have := d4 (i - acc.2.1) (by omega)
      rw [show c0 + acc.2.1 + (i - acc.2.1) = c0 + i by omega, Nat.add_assoc] at this
      exact this
  · obtain ⟨p1, p2⟩ := h4 j (by omega)
    obtain ⟨q1, q2, q3⟩ := d5 j (by omega)
    obtain ⟨r1, r2, r3⟩ := a5 j hj
    exact ⟨p1.trans (q1.trans r1), p2.trans (q2.trans r2), q3.trans r3⟩
  · rw [d6 j (by omega), a6 j hj]
theorem glyph_f_4 {n G n0 c0 p0 g : Nat} {f gs : Nat → Int32} {bg : Nat → Nat} (H : FCtx n gs G bg) (hg : g < G) (h0 : n0 ≤ 256) (h1 : c0 ≤ 32) (h2 : p0 ≤ 40) (by_ : Nat) (xs ys on la fl : Nat → Int32) (r4b : Option Nat) (r4p : Int32) (r4l : Int32) (r4w : Int32) : (∃ D, sp f bg G 1 g = some D ∧ Fit D n0 c0 p0 ∧ ∃ u, P_Sh_addGlyph_L4 by_ (nI n0) (nI c0) xs ys on la fl r4b r4p r4l r4w (nI n) f gs (nI g) = some u ∧ u.1 = 1 ∧ ShR D n0 c0 u.2.1 u.2.2.1 xs ys on la u.2.2.2.1 u.2.2.2.2.1 u.2.2.2.2.2.1 u.2.2.2.2.2.2.1) ∨ ((∀ D, sp f bg G 1 g = some D → ¬ Fit D n0 c0 p0) ∧ ∃ u, P_Sh_addGlyph_L4 by_ (nI n0) (nI c0) xs ys on la fl r4b r4p r4l r4w (nI n) f gs (nI g) = some u ∧ u.1 = 0) := by
  obtain ⟨hn, hG, hgs, hmo, hle⟩ := id H
  have m1 := hmo g hg
  have m2 := hle (g + 1) (by omega)
  unfold P_Sh_addGlyph_L4
  rw [nI_1, bdI (by omega) (by omega), bdI (by omega) (by omega), nI_clamp (by omega), nI_clamp (by omega), hgs g (by omega), hgs (g + 1) (by omega)]
  by_cases c1 : bg g = bg (g + 1)
  · rw [if_pos (by rw [c1])]
    refine Or.inl ⟨D0, ?_, ⟨h0, h1, h2⟩, _, rfl, rfl, ShR.d0⟩
    show spG f bg G _ g = _
    unfold spG
    rw [if_pos c1]
  rw [if_neg (fun q => c1 ((nI_eq (by omega) (by omega)).mp q)), pk_sub m1, show (10 : Int32) = nI 10 from rfl]
  by_cases c2 : bg (g + 1) < bg g + 10
  · rw [if_pos (nI_lt (by omega) (by omega))]
    refine Or.inr ⟨fun D hD _ => ?_, _, rfl, rfl⟩
    have hD : spG f bg G _ g = some D := hD
    unfold spG at hD
    rw [if_neg c1, if_pos c2] at hD
    cases hD
  · rw [if_neg (nI_nlt (by omega) (by omega)), opn (by omega) m2 hn, some_bind]
    simp only [unp]
    rw [rd2 (by omega) (by omega), some_bind]
    simp only [unp]
    rw [show (8 : Int32) = nI 8 from rfl, skp (by omega) (by omega) (by omega), if_pos (by omega), some_bind]
    simp only [unp]
    rw [show bg g + 2 + 8 = bg g + 10 by omega, show (nI (W2 f (bg g))).toInt16.toInt32 = s16 (W2 f (bg g)) from rfl]
    have spx : ∀ ch, spG f bg G ch g = if s16 (W2 f (bg g)) = -1 then cmS f (bg (g + 1)) G ch 41 (bg g + 10) D0 else if s16 (W2 f (bg g)) < 0 then none else if (s16 (W2 f (bg g))).toNatClampNeg ≤ 16 then smD f (bg g + 10) (bg (g + 1)) (s16 (W2 f (bg g))).toNatClampNeg else none := by
      intro ch
      show (if _ then _ else _) = _
      rw [if_neg c1, if_neg c2]
    generalize hv : s16 (W2 f (bg g)) = v at *
    by_cases c3 : v = -1
    · rw [if_pos c3]
      refine Or.inr ⟨fun D hD _ => ?_, _, rfl, rfl⟩
      have hD : spG f bg G (sp f bg G 0) g = some D := hD
      rw [spx, if_pos c3] at hD
      obtain ⟨_, D2, w, _⟩ := cmS_some hD
      cases w
    · rw [if_neg c3]
      by_cases c4 : v < 0
      · rw [if_pos c4]
        refine Or.inr ⟨fun D hD _ => ?_, _, rfl, rfl⟩
        have hD : spG f bg G _ g = some D := hD
        rw [spx, if_neg c3, if_pos c4] at hD
        cases hD
      · rw [if_neg c4]
        obtain ⟨k, hk, ek⟩ : ∃ k, k < 65536 ∧ v = nI k := by
          have := s16_of (v := W2 f (bg g)) (by rw [hv]; exact c4)
          rw [hv] at this
          exact this
        have spy : ∀ ch, spG f bg G ch g = if k ≤ 16 then smD f (bg g + 10) (bg (g + 1)) k else none := by
          intro ch
          rw [spx, if_neg c3, if_neg c4, ek, nI_clamp (by omega)]
        rw [ek]
        rcases simple_f (e := bg (g + 1)) (p := bg g + 10) h0 h1 (by omega) (by omega) hk f xs ys on la fl with ⟨D, d1, d2, d3, d4, xs', ys', on', la', F', q', a1, a2, a3, a4, a5⟩ | ⟨d1, u, a1, a2⟩
        · obtain ⟨e1, e2, e3, e4, e5, _⟩ := smD_E d2
          rw [a1, some_bind]
          simp only [unp]
          rw [if_neg n10]
          refine Or.inl ⟨D, ?_, ⟨d3, by rw [e2]; exact d4, by rw [e3]; exact h2⟩, _, rfl, rfl, ⟨rfl, by rw [e2], a2, fun i hi => ?_, a4, a5⟩⟩
          · show spG f bg G _ g = _
            rw [spy, if_pos d1]; exact d2
          · rw [e5]
            exact a3 i (by rw [← e2]; exact hi)
        · obtain ⟨t_r, u1, u2, u3, u4, u5, u6, u7, u8, u9⟩ := u
          have e_r : t_r = 0 := a2
          subst e_r
          rw [a1, some_bind]
          simp only [unp, if_true]
          refine Or.inr ⟨fun D hD hFt => d1 ?_, _, rfl, rfl⟩
          have hD : spG f bg G _ g = some D := hD
          rw [spy] at hD
          by_cases c5 : k ≤ 16
          · rw [if_pos c5] at hD
            obtain ⟨e1, e2, e3, e4, e5, _⟩ := smD_E hD
            have := hFt.2.1
            rw [e2] at this
            exact ⟨c5, this, D, hD, hFt.1⟩
          · rw [if_neg c5] at hD; cases hD
theorem parts_f_3 {n G n0 c0 p0 e : Nat} {f gs : Nat → Int32} {bg : Nat → Nat} (H : FCtx n gs G bg) (he : e ≤ n) (h0 : n0 ≤ 256) (h1 : c0 ≤ 32) (h2 : p0 ≤ 40) (by_ : Nat) (xs0 ys0 on0 la0 : Nat → Int32) : ∀ (m p M : Nat) (acc : Dat) (pts con : Int32) (xs ys on la fl : Nat → Int32) (r4b : Option Nat) (r4p : Int32) (r4l : Int32) (r4w : Int32) (m3g : Int32) (m3l : Int32) (m3x : Int32) (m3y : Int32) (m3a : Int32) (m3b : Int32) (m3c : Int32) (m3d : Int32), m + 1 < M → p ≤ e → WfD acc → acc.2.2.2.1 ≤ 4 → 41 ≤ acc.2.2.1 + m → acc.2.2.1 ≤ 40 → Fit acc n0 c0 p0 → ShR acc n0 c0 pts con xs0 ys0 on0 la0 xs ys on la → (∃ R, cmS f e G (sp f bg G 1) m p acc = some R ∧ Fit R n0 c0 p0 ∧ ∃ u, lp (L_Sh_addParts_L3_17 by_ (nI e) (nI n) (nI G) f gs) M (0, pts, con, nI (p0 + acc.2.2.1), xs, ys, on, la, fl, nI p, 1, r4b, r4p, r4l, r4w, m3g, m3l, m3x, m3y, m3a, m3b, m3c, m3d) = some u ∧ u.1 = 1 ∧ u.2.2.2.1 = nI (p0 + R.2.2.1) ∧ ShR R n0 c0 u.2.1 u.2.2.1 xs0 ys0 on0 la0 u.2.2.2.2.1 u.2.2.2.2.2.1 u.2.2.2.2.2.2.1 u.2.2.2.2.2.2.2.1) ∨ ((∀ R, cmS f e G (sp f bg G 1) m p acc = some R → ¬ Fit R n0 c0 p0) ∧ ∃ u, lp (L_Sh_addParts_L3_17 by_ (nI e) (nI n) (nI G) f gs) M (0, pts, con, nI (p0 + acc.2.2.1), xs, ys, on, la, fl, nI p, 1, r4b, r4p, r4l, r4w, m3g, m3l, m3x, m3y, m3a, m3b, m3c, m3d) = some u ∧ u.1 = 0) := by
  intro m
  induction m with
  | zero =>
    intro p M acc pts con xs ys on la fl r4b r4p r4l r4w m3g m3l m3x m3y m3a m3b m3c m3d hM hp wa hd hm ha hFt hS
    omega
  | succ m ih =>
    intro p M acc pts con xs ys on la fl r4b r4p r4l r4w m3g m3l m3x m3y m3a m3b m3c m3d hM hp wa hd hm ha hFt hS
    obtain ⟨M, rfl⟩ := suc_of (d := 0) (m := M) (by omega)
    obtain ⟨hn, hG, hgs, hmo, hle⟩ := id H
    rw [e_Sh_addParts_L3_17]
    unfold P_Sh_addParts_L3_17b
    rw [if_pos rfl, show (40 : Int32) = nI 40 from rfl, nI_1]
    obtain ⟨f1, f2, f3⟩ := id hFt
    by_cases c0_ : 40 ≤ p0 + acc.2.2.1
    · rw [if_pos (nI_le c0_ (by omega)), zb0]
      refine Or.inr ⟨fun R hR hRF => ?_, _, rfl, rfl⟩
      have := (cmS_dep _ _ _ _ hR).2
      have := hRF.2.2
      omega
    rw [if_neg (nI_ge (by omega) (by omega))]
    by_cases cL : p + hL (hF f p) ≤ e
    · rw [pt_y (by omega) hG f cL, some_bind]
      simp only [unp]
      by_cases cO : hF f p &&& (2 : Int32) = 0 ∨ G ≤ W2 f (p + 2)
      · rw [if_pos cO, if_pos rfl]
        refine Or.inr ⟨fun R hR _ => ?_, _, rfl, rfl⟩
        obtain ⟨⟨_, o2, o3⟩, _⟩ := cmS_some hR
        rcases cO with w | w
        · exact o2 w
        · omega
      · have hO : hOk f p e G := ⟨cL, fun w => cO (Or.inl w), by
          rcases Nat.lt_or_ge (W2 f (p + 2)) G with w | w
          · exact w
          · exact absurd (Or.inr w) cO⟩
        rw [if_neg cO, if_neg n10]
        obtain ⟨s1, s2, s3, s4, s5, s6⟩ := id hS
        rw [s1, s2]
        rcases glyph_f_4 (p0 := p0 + acc.2.2.1 + 1) H hO.2.2 (show n0 + acc.1 ≤ 256 by omega) (show c0 + acc.2.1 ≤ 32 by omega) (by omega) by_ xs ys on la fl r4b r4p r4l r4w with ⟨D, k1, k2, u, k3, k4⟩ | ⟨k1, u, k3, k4⟩
        · obtain ⟨t_r, t_pts, t_con, t_xs, t_ys, t_on, t_la, t_fl, tr4b, tr4p, tr4l, tr4w⟩ := u
          have e_r : t_r = 1 := k4.1
          subst e_r
          have k5 : ShR D (n0 + acc.1) (c0 + acc.2.1) t_pts t_con xs ys on la t_xs t_ys t_on t_la := k4.2
          rw [k3, some_bind]
          simp only [unp]
          rw [if_neg n10]
          have wD := sp_wf _ _ _ k1
          have dl := sp_lt _ _ _ k1
          obtain ⟨g1, g2, g3⟩ := id k2
          obtain ⟨q1, q2, q3, q4, q5, q6⟩ := id k5
          rw [q1]
          rcases move_f (N := n0 + acc.1 + D.1) (by omega) (hDx f p) (hDy f p) (hQ f p).1 (hQ f p).2.1 (hQ f p).2.2.1 (hQ f p).2.2.2 D.1 (n0 + acc.1) fuel t_xs t_ys (by omega) (by unfold fuel; omega) with ⟨xs2, ys2, v1, v2, v3⟩ | ⟨⟨i, i1, i2, i3⟩, xs2, ys2, v1⟩
          · have v1 : P_Sh_move (nI (n0 + acc.1 + D.1)) t_xs t_ys (hDx f p) (hDy f p) (hQ f p).1 (hQ f p).2.1 (hQ f p).2.2.1 (hQ f p).2.2.2 (nI (n0 + acc.1)) = _ := v1
            rw [v1, some_bind]
            simp only [unp]
            rw [if_neg n10]
            have hC : ptC f p acc D := by
              refine ⟨by omega, Nat.max_le.mpr ⟨hd, by omega⟩, by omega, by omega, fun k hk => ?_⟩
              obtain ⟨w1, w2, _, _⟩ := v2 (n0 + acc.1 + k) (by omega) (by omega)
              obtain ⟨r1, r2, _⟩ := q3 k hk
              rw [r1, r2] at w1 w2
              exact ⟨w1, w2⟩
            have hS2 : ShR (ptV f p acc D) n0 c0 (nI (n0 + acc.1 + D.1)) t_con xs0 ys0 on0 la0 xs2 ys2 t_on t_la := ShR.join wa wD hS (by rw [q1] at k5; exact k5) (fun i a1 a2 => ⟨(v2 i a1 (by omega)).2.2.1, (v2 i a1 (by omega)).2.2.2⟩) (fun i a1 => v3 i (Or.inl a1))
            have hF2 : Fit (ptV f p acc D) n0 c0 p0 := ⟨by show n0 + (acc.1 + D.1) ≤ 256; omega, by show c0 + (acc.2.1 + D.2.1) ≤ 32; omega, by show p0 + (acc.2.2.1 + (1 + D.2.2.1)) ≤ 40; omega⟩
            have ec := cmS_of (ch := sp f bg G 1) (m := m) hO k1 hC
            have kz := sp1_prt k1
            rw [show p0 + acc.2.2.1 + 1 = p0 + (ptV f p acc D).2.2.1 from (by show p0 + acc.2.2.1 + 1 = p0 + (acc.2.2.1 + (1 + D.2.2.1)); omega)]
            by_cases c32 : hF f p &&& (32 : Int32) = 0
            · rw [if_pos c32] at ec ⊢
              obtain ⟨M, rfl⟩ := suc_of (d := 0) (m := M) (by omega)
              rw [e_Sh_addParts_L3_17]
              unfold P_Sh_addParts_L3_17b
              rw [if_neg n10, zb1]
              exact Or.inl ⟨_, ec, hF2, _, rfl, rfl, rfl, hS2⟩
            · rw [if_neg c32] at ec ⊢
              rw [ec]
              exact ih (p + hL (hF f p)) M (ptV f p acc D) (nI (n0 + acc.1 + D.1)) t_con xs2 ys2 t_on t_la t_fl _ _ _ _ _ _ _ _ _ _ _ _ (by omega) cL (ptV_wf wa wD hC) hC.2.1 (by show 41 ≤ acc.2.2.1 + (1 + D.2.2.1) + m; omega) hC.1 hF2 hS2
          · have v1 : P_Sh_move (nI (n0 + acc.1 + D.1)) t_xs t_ys (hDx f p) (hDy f p) (hQ f p).1 (hQ f p).2.1 (hQ f p).2.2.1 (hQ f p).2.2.2 (nI (n0 + acc.1)) = _ := v1
            rw [v1, some_bind]
            simp only [unp, if_true]
            refine Or.inr ⟨fun R hR _ => ?_, _, rfl, rfl⟩
            obtain ⟨_, D2, w1, w2, _⟩ := cmS_some hR
            rw [k1] at w1
            cases w1
            obtain ⟨z1, z2⟩ := w2.2.2.2.2 (i - (n0 + acc.1)) (by omega)
            obtain ⟨r1, r2, _⟩ := q3 (i - (n0 + acc.1)) (by omega)
            rw [show n0 + acc.1 + (i - (n0 + acc.1)) = i by omega] at r1 r2
            rw [r1, r2] at i3
            exact i3 ⟨z1, z2⟩
        · obtain ⟨t_r, t_pts, t_con, t_xs, t_ys, t_on, t_la, t_fl, tr4b, tr4p, tr4l, tr4w⟩ := u
          have e_r : t_r = 0 := k4
          subst e_r
          rw [k3, some_bind]
          simp only [unp, if_true]
          refine Or.inr ⟨fun R hR hRF => ?_, _, rfl, rfl⟩
          obtain ⟨_, D2, w1, w2, w3⟩ := cmS_some hR
          refine k1 D2 w1 ?_
          obtain ⟨r1, r2, r3⟩ := hRF
          have b1 : (ptV f p acc D2).1 = acc.1 + D2.1 := rfl
          have b2 : (ptV f p acc D2).2.1 = acc.2.1 + D2.2.1 := rfl
          have b3 : (ptV f p acc D2).2.2.1 = acc.2.2.1 + (1 + D2.2.2.1) := rfl
          split at w3
          · cases w3
            exact ⟨by omega, by omega, by omega⟩
          · have z1 := cmS_ge _ _ _ _ w3
            have z2 := cmS_dep _ _ _ _ w3
            exact ⟨by omega, by omega, by omega⟩
    · obtain ⟨u, r1, r2⟩ := pt_n (e := e) (G := G) (by omega) (by omega) f (show e < p + hL (hF f p) by omega) m3g m3l m3x m3y m3a m3b m3c m3d
      obtain ⟨t_r, t1, t2, t3, t4, t5, t6, t7, t8, t9, t10⟩ := u
      have r2 : t_r = 0 := r2
      subst r2
      rw [r1, some_bind]
      simp only [unp, if_true]
      refine Or.inr ⟨fun R hR _ => ?_, _, rfl, rfl⟩
      obtain ⟨⟨o1, _⟩, _⟩ := cmS_some hR
      exact cL o1
theorem glyph_f_3 {n G n0 c0 p0 g : Nat} {f gs : Nat → Int32} {bg : Nat → Nat} (H : FCtx n gs G bg) (hg : g < G) (h0 : n0 ≤ 256) (h1 : c0 ≤ 32) (h2 : p0 ≤ 40) (by_ : Nat) (xs ys on la fl : Nat → Int32) (r3b : Option Nat) (r3p : Int32) (r3l : Int32) (r3w : Int32) (r4b : Option Nat) (r4p : Int32) (r4l : Int32) (r4w : Int32) (m3g : Int32) (m3l : Int32) (m3x : Int32) (m3y : Int32) (m3a : Int32) (m3b : Int32) (m3c : Int32) (m3d : Int32) : (∃ D, sp f bg G 2 g = some D ∧ Fit D n0 c0 p0 ∧ ∃ u, P_Sh_addGlyph_L3 by_ (nI n0) (nI c0) (nI p0) xs ys on la fl r3b r3p r3l r3w r4b r4p r4l r4w m3g m3l m3x m3y m3a m3b m3c m3d (nI n) (nI G) f gs (nI g) = some u ∧ u.1 = 1 ∧ u.2.2.2.1 = nI (p0 + D.2.2.1) ∧ ShR D n0 c0 u.2.1 u.2.2.1 xs ys on la u.2.2.2.2.1 u.2.2.2.2.2.1 u.2.2.2.2.2.2.1 u.2.2.2.2.2.2.2.1) ∨ ((∀ D, sp f bg G 2 g = some D → ¬ Fit D n0 c0 p0) ∧ ∃ u, P_Sh_addGlyph_L3 by_ (nI n0) (nI c0) (nI p0) xs ys on la fl r3b r3p r3l r3w r4b r4p r4l r4w m3g m3l m3x m3y m3a m3b m3c m3d (nI n) (nI G) f gs (nI g) = some u ∧ u.1 = 0) := by
  obtain ⟨hn, hG, hgs, hmo, hle⟩ := id H
  have m1 := hmo g hg
  have m2 := hle (g + 1) (by omega)
  unfold P_Sh_addGlyph_L3
  rw [nI_1, bdI (by omega) (by omega), bdI (by omega) (by omega), nI_clamp (by omega), nI_clamp (by omega), hgs g (by omega), hgs (g + 1) (by omega)]
  by_cases c1 : bg g = bg (g + 1)
  · rw [if_pos (by rw [c1])]
    refine Or.inl ⟨D0, ?_, ⟨h0, h1, h2⟩, _, rfl, rfl, rfl, ShR.d0⟩
    show spG f bg G _ g = _
    unfold spG
    rw [if_pos c1]
  rw [if_neg (fun q => c1 ((nI_eq (by omega) (by omega)).mp q)), pk_sub m1, show (10 : Int32) = nI 10 from rfl]
  by_cases c2 : bg (g + 1) < bg g + 10
  · rw [if_pos (nI_lt (by omega) (by omega))]
    refine Or.inr ⟨fun D hD _ => ?_, _, rfl, rfl⟩
    have hD : spG f bg G _ g = some D := hD
    unfold spG at hD
    rw [if_neg c1, if_pos c2] at hD
    cases hD
  · rw [if_neg (nI_nlt (by omega) (by omega)), opn (by omega) m2 hn, some_bind]
    simp only [unp]
    rw [rd2 (by omega) (by omega), some_bind]
    simp only [unp]
    rw [show (8 : Int32) = nI 8 from rfl, skp (by omega) (by omega) (by omega), if_pos (by omega), some_bind]
    simp only [unp]
    rw [show bg g + 2 + 8 = bg g + 10 by omega, show (nI (W2 f (bg g))).toInt16.toInt32 = s16 (W2 f (bg g)) from rfl]
    have spx : ∀ ch, spG f bg G ch g = if s16 (W2 f (bg g)) = -1 then cmS f (bg (g + 1)) G ch 41 (bg g + 10) D0 else if s16 (W2 f (bg g)) < 0 then none else if (s16 (W2 f (bg g))).toNatClampNeg ≤ 16 then smD f (bg g + 10) (bg (g + 1)) (s16 (W2 f (bg g))).toNatClampNeg else none := by
      intro ch
      show (if _ then _ else _) = _
      rw [if_neg c1, if_neg c2]
    generalize hv : s16 (W2 f (bg g)) = v at *
    by_cases c3 : v = -1
    · rw [if_pos c3]
      rcases parts_f_3 H (hle (g + 1) (by omega)) h0 h1 h2 by_ xs ys on la 41 (bg g + 10) fuel D0 (nI n0) (nI c0) xs ys on la fl r4b r4p r4l r4w m3g m3l m3x m3y m3a m3b m3c m3d (by unfold fuel; omega) (by omega) D0_wf (by decide) (by decide) (by decide) ⟨h0, h1, h2⟩ ShR.d0 with ⟨R, q1, q2, u, q3, q4⟩ | ⟨q1, u, q3, q4⟩
      · obtain ⟨t_r, u0, u1, u2, u3, u4, u5, u6, u7, u8, u9, u10, u11, u12, u13, u14, u15, u16, u17, u18, u19, u20, u21⟩ := u
        have q3 : P_Sh_addParts_L3 by_ (nI n0) (nI c0) (nI p0) xs ys on la fl (nI (bg g + 10)) (nI (bg (g + 1))) 1 r4b r4p r4l r4w m3g m3l m3x m3y m3a m3b m3c m3d (nI n) (nI G) f gs = _ := q3
        have e_r : t_r = 1 := q4.1
        subst e_r
        rw [q3, some_bind]
        simp only [unp]
        rw [zb1]
        refine Or.inl ⟨R, ?_, q2, _, rfl, rfl, q4.2.1, q4.2.2⟩
        show spG f bg G (sp f bg G 1) g = some R
        rw [spx, if_pos c3]
        exact q1
      · obtain ⟨t_r, u0, u1, u2, u3, u4, u5, u6, u7, u8, u9, u10, u11, u12, u13, u14, u15, u16, u17, u18, u19, u20, u21⟩ := u
        have q3 : P_Sh_addParts_L3 by_ (nI n0) (nI c0) (nI p0) xs ys on la fl (nI (bg g + 10)) (nI (bg (g + 1))) 1 r4b r4p r4l r4w m3g m3l m3x m3y m3a m3b m3c m3d (nI n) (nI G) f gs = _ := q3
        have e_r : t_r = 0 := q4
        subst e_r
        rw [q3, some_bind]
        simp only [unp]
        rw [zb0]
        refine Or.inr ⟨fun D hD => ?_, _, rfl, rfl⟩
        have hD : spG f bg G (sp f bg G 1) g = some D := hD
        rw [spx, if_pos c3] at hD
        exact q1 D hD
    · rw [if_neg c3]
      by_cases c4 : v < 0
      · rw [if_pos c4]
        refine Or.inr ⟨fun D hD _ => ?_, _, rfl, rfl⟩
        have hD : spG f bg G _ g = some D := hD
        rw [spx, if_neg c3, if_pos c4] at hD
        cases hD
      · rw [if_neg c4]
        obtain ⟨k, hk, ek⟩ : ∃ k, k < 65536 ∧ v = nI k := by
          have := s16_of (v := W2 f (bg g)) (by rw [hv]; exact c4)
          rw [hv] at this
          exact this
        have spy : ∀ ch, spG f bg G ch g = if k ≤ 16 then smD f (bg g + 10) (bg (g + 1)) k else none := by
          intro ch
          rw [spx, if_neg c3, if_neg c4, ek, nI_clamp (by omega)]
        rw [ek]
        rcases simple_f (e := bg (g + 1)) (p := bg g + 10) h0 h1 (by omega) (by omega) hk f xs ys on la fl with ⟨D, d1, d2, d3, d4, xs', ys', on', la', F', q', a1, a2, a3, a4, a5⟩ | ⟨d1, u, a1, a2⟩
        · obtain ⟨e1, e2, e3, e4, e5, _⟩ := smD_E d2
          rw [a1, some_bind]
          simp only [unp]
          rw [if_neg n10]
          refine Or.inl ⟨D, ?_, ⟨d3, by rw [e2]; exact d4, by rw [e3]; exact h2⟩, _, rfl, rfl, by rw [e3]; rfl, ⟨rfl, by rw [e2], a2, fun i hi => ?_, a4, a5⟩⟩
          · show spG f bg G _ g = _
            rw [spy, if_pos d1]; exact d2
          · rw [e5]
            exact a3 i (by rw [← e2]; exact hi)
        · obtain ⟨t_r, u1, u2, u3, u4, u5, u6, u7, u8, u9⟩ := u
          have e_r : t_r = 0 := a2
          subst e_r
          rw [a1, some_bind]
          simp only [unp, if_true]
          refine Or.inr ⟨fun D hD hFt => d1 ?_, _, rfl, rfl⟩
          have hD : spG f bg G _ g = some D := hD
          rw [spy] at hD
          by_cases c5 : k ≤ 16
          · rw [if_pos c5] at hD
            obtain ⟨e1, e2, e3, e4, e5, _⟩ := smD_E hD
            have := hFt.2.1
            rw [e2] at this
            exact ⟨c5, this, D, hD, hFt.1⟩
          · rw [if_neg c5] at hD; cases hD
theorem parts_f_2 {n G n0 c0 p0 e : Nat} {f gs : Nat → Int32} {bg : Nat → Nat} (H : FCtx n gs G bg) (he : e ≤ n) (h0 : n0 ≤ 256) (h1 : c0 ≤ 32) (h2 : p0 ≤ 40) (by_ : Nat) (xs0 ys0 on0 la0 : Nat → Int32) : ∀ (m p M : Nat) (acc : Dat) (pts con : Int32) (xs ys on la fl : Nat → Int32) (r3b : Option Nat) (r3p : Int32) (r3l : Int32) (r3w : Int32) (r4b : Option Nat) (r4p : Int32) (r4l : Int32) (r4w : Int32) (m2g : Int32) (m2l : Int32) (m2x : Int32) (m2y : Int32) (m2a : Int32) (m2b : Int32) (m2c : Int32) (m2d : Int32) (m3g : Int32) (m3l : Int32) (m3x : Int32) (m3y : Int32) (m3a : Int32) (m3b : Int32) (m3c : Int32) (m3d : Int32), m + 1 < M → p ≤ e → WfD acc → acc.2.2.2.1 ≤ 4 → 41 ≤ acc.2.2.1 + m → acc.2.2.1 ≤ 40 → Fit acc n0 c0 p0 → ShR acc n0 c0 pts con xs0 ys0 on0 la0 xs ys on la → (∃ R, cmS f e G (sp f bg G 2) m p acc = some R ∧ Fit R n0 c0 p0 ∧ ∃ u, lp (L_Sh_addParts_L2_17 by_ (nI e) (nI n) (nI G) f gs) M (0, pts, con, nI (p0 + acc.2.2.1), xs, ys, on, la, fl, nI p, 1, r3b, r3p, r3l, r3w, r4b, r4p, r4l, r4w, m2g, m2l, m2x, m2y, m2a, m2b, m2c, m2d, m3g, m3l, m3x, m3y, m3a, m3b, m3c, m3d) = some u ∧ u.1 = 1 ∧ u.2.2.2.1 = nI (p0 + R.2.2.1) ∧ ShR R n0 c0 u.2.1 u.2.2.1 xs0 ys0 on0 la0 u.2.2.2.2.1 u.2.2.2.2.2.1 u.2.2.2.2.2.2.1 u.2.2.2.2.2.2.2.1) ∨ ((∀ R, cmS f e G (sp f bg G 2) m p acc = some R → ¬ Fit R n0 c0 p0) ∧ ∃ u, lp (L_Sh_addParts_L2_17 by_ (nI e) (nI n) (nI G) f gs) M (0, pts, con, nI (p0 + acc.2.2.1), xs, ys, on, la, fl, nI p, 1, r3b, r3p, r3l, r3w, r4b, r4p, r4l, r4w, m2g, m2l, m2x, m2y, m2a, m2b, m2c, m2d, m3g, m3l, m3x, m3y, m3a, m3b, m3c, m3d) = some u ∧ u.1 = 0) := by
  intro m
  induction m with
  | zero =>
    intro p M acc pts con xs ys on la fl r3b r3p r3l r3w r4b r4p r4l r4w m2g m2l m2x m2y m2a m2b m2c m2d m3g m3l m3x m3y m3a m3b m3c m3d hM hp wa hd hm ha hFt hS
    omega
  | succ m ih =>
    intro p M acc pts con xs ys on la fl r3b r3p r3l r3w r4b r4p r4l r4w m2g m2l m2x m2y m2a m2b m2c m2d m3g m3l m3x m3y m3a m3b m3c m3d hM hp wa hd hm ha hFt hS
    obtain ⟨M, rfl⟩ := suc_of (d := 0) (m := M) (by omega)
    obtain ⟨hn, hG, hgs, hmo, hle⟩ := id H
    rw [e_Sh_addParts_L2_17]
    unfold P_Sh_addParts_L2_17b
    rw [if_pos rfl, show (40 : Int32) = nI 40 from rfl, nI_1]
    obtain ⟨f1, f2, f3⟩ := id hFt
    by_cases c0_ : 40 ≤ p0 + acc.2.2.1
    · rw [if_pos (nI_le c0_ (by omega)), zb0]
      refine Or.inr ⟨fun R hR hRF => ?_, _, rfl, rfl⟩
      have := (cmS_dep _ _ _ _ hR).2
      have := hRF.2.2
      omega
    rw [if_neg (nI_ge (by omega) (by omega))]
    by_cases cL : p + hL (hF f p) ≤ e
    · rw [pt_y (by omega) hG f cL, some_bind]
      simp only [unp]
      by_cases cO : hF f p &&& (2 : Int32) = 0 ∨ G ≤ W2 f (p + 2)
      · rw [if_pos cO, if_pos rfl]
        refine Or.inr ⟨fun R hR _ => ?_, _, rfl, rfl⟩
        obtain ⟨⟨_, o2, o3⟩, _⟩ := cmS_some hR
        rcases cO with w | w
        · exact o2 w
        · omega
      · have hO : hOk f p e G := ⟨cL, fun w => cO (Or.inl w), by
          rcases Nat.lt_or_ge (W2 f (p + 2)) G with w | w
          · exact w
          · exact absurd (Or.inr w) cO⟩
        rw [if_neg cO, if_neg n10]
        obtain ⟨s1, s2, s3, s4, s5, s6⟩ := id hS
        rw [s1, s2]
        rcases glyph_f_3 (p0 := p0 + acc.2.2.1 + 1) H hO.2.2 (show n0 + acc.1 ≤ 256 by omega) (show c0 + acc.2.1 ≤ 32 by omega) (by omega) by_ xs ys on la fl r3b r3p r3l r3w r4b r4p r4l r4w m3g m3l m3x m3y m3a m3b m3c m3d with ⟨D, k1, k2, u, k3, k4⟩ | ⟨k1, u, k3, k4⟩
        · obtain ⟨t_r, t_pts, t_con, t_prt, t_xs, t_ys, t_on, t_la, t_fl, tr3b, tr3p, tr3l, tr3w, tr4b, tr4p, tr4l, tr4w, tm3g, tm3l, tm3x, tm3y, tm3a, tm3b, tm3c, tm3d⟩ := u
          have e_r : t_r = 1 := k4.1
          subst e_r
          have k5 : ShR D (n0 + acc.1) (c0 + acc.2.1) t_pts t_con xs ys on la t_xs t_ys t_on t_la := k4.2.2
          rw [k3, some_bind]
          simp only [unp]
          rw [if_neg n10]
          have wD := sp_wf _ _ _ k1
          have dl := sp_lt _ _ _ k1
          obtain ⟨g1, g2, g3⟩ := id k2
          obtain ⟨q1, q2, q3, q4, q5, q6⟩ := id k5
          rw [q1]
          rcases move_f (N := n0 + acc.1 + D.1) (by omega) (hDx f p) (hDy f p) (hQ f p).1 (hQ f p).2.1 (hQ f p).2.2.1 (hQ f p).2.2.2 D.1 (n0 + acc.1) fuel t_xs t_ys (by omega) (by unfold fuel; omega) with ⟨xs2, ys2, v1, v2, v3⟩ | ⟨⟨i, i1, i2, i3⟩, xs2, ys2, v1⟩
          · have v1 : P_Sh_move (nI (n0 + acc.1 + D.1)) t_xs t_ys (hDx f p) (hDy f p) (hQ f p).1 (hQ f p).2.1 (hQ f p).2.2.1 (hQ f p).2.2.2 (nI (n0 + acc.1)) = _ := v1
            rw [v1, some_bind]
            simp only [unp]
            rw [if_neg n10]
            have hC : ptC f p acc D := by
              refine ⟨by omega, Nat.max_le.mpr ⟨hd, by omega⟩, by omega, by omega, fun k hk => ?_⟩
              obtain ⟨w1, w2, _, _⟩ := v2 (n0 + acc.1 + k) (by omega) (by omega)
              obtain ⟨r1, r2, _⟩ := q3 k hk
              rw [r1, r2] at w1 w2
              exact ⟨w1, w2⟩
            have hS2 : ShR (ptV f p acc D) n0 c0 (nI (n0 + acc.1 + D.1)) t_con xs0 ys0 on0 la0 xs2 ys2 t_on t_la := ShR.join wa wD hS (by rw [q1] at k5; exact k5) (fun i a1 a2 => ⟨(v2 i a1 (by omega)).2.2.1, (v2 i a1 (by omega)).2.2.2⟩) (fun i a1 => v3 i (Or.inl a1))
            have hF2 : Fit (ptV f p acc D) n0 c0 p0 := ⟨by show n0 + (acc.1 + D.1) ≤ 256; omega, by show c0 + (acc.2.1 + D.2.1) ≤ 32; omega, by show p0 + (acc.2.2.1 + (1 + D.2.2.1)) ≤ 40; omega⟩
            have ec := cmS_of (ch := sp f bg G 2) (m := m) hO k1 hC
            have k6 : t_prt = nI (p0 + acc.2.2.1 + 1 + D.2.2.1) := k4.2.1
            rw [k6, show p0 + acc.2.2.1 + 1 + D.2.2.1 = p0 + (ptV f p acc D).2.2.1 from (by show p0 + acc.2.2.1 + 1 + D.2.2.1 = p0 + (acc.2.2.1 + (1 + D.2.2.1)); omega)]
            by_cases c32 : hF f p &&& (32 : Int32) = 0
            · rw [if_pos c32] at ec ⊢
              obtain ⟨M, rfl⟩ := suc_of (d := 0) (m := M) (by omega)
              rw [e_Sh_addParts_L2_17]
              unfold P_Sh_addParts_L2_17b
              rw [if_neg n10, zb1]
              exact Or.inl ⟨_, ec, hF2, _, rfl, rfl, rfl, hS2⟩
            · rw [if_neg c32] at ec ⊢
              rw [ec]
              exact ih (p + hL (hF f p)) M (ptV f p acc D) (nI (n0 + acc.1 + D.1)) t_con xs2 ys2 t_on t_la t_fl _ _ _ _ _ _ _ _ _ _ _ _ _ _ _ _ _ _ _ _ _ _ _ _ (by omega) cL (ptV_wf wa wD hC) hC.2.1 (by show 41 ≤ acc.2.2.1 + (1 + D.2.2.1) + m; omega) hC.1 hF2 hS2
          · have v1 : P_Sh_move (nI (n0 + acc.1 + D.1)) t_xs t_ys (hDx f p) (hDy f p) (hQ f p).1 (hQ f p).2.1 (hQ f p).2.2.1 (hQ f p).2.2.2 (nI (n0 + acc.1)) = _ := v1
            rw [v1, some_bind]
            simp only [unp, if_true]
            refine Or.inr ⟨fun R hR _ => ?_, _, rfl, rfl⟩
            obtain ⟨_, D2, w1, w2, _⟩ := cmS_some hR
            rw [k1] at w1
            cases w1
            obtain ⟨z1, z2⟩ := w2.2.2.2.2 (i - (n0 + acc.1)) (by omega)
            obtain ⟨r1, r2, _⟩ := q3 (i - (n0 + acc.1)) (by omega)
            rw [show n0 + acc.1 + (i - (n0 + acc.1)) = i by omega] at r1 r2
            rw [r1, r2] at i3
            exact i3 ⟨z1, z2⟩
        · obtain ⟨t_r, t_pts, t_con, t_prt, t_xs, t_ys, t_on, t_la, t_fl, tr3b, tr3p, tr3l, tr3w, tr4b, tr4p, tr4l, tr4w, tm3g, tm3l, tm3x, tm3y, tm3a, tm3b, tm3c, tm3d⟩ := u
          have e_r : t_r = 0 := k4
          subst e_r
          rw [k3, some_bind]
          simp only [unp, if_true]
          refine Or.inr ⟨fun R hR hRF => ?_, _, rfl, rfl⟩
          obtain ⟨_, D2, w1, w2, w3⟩ := cmS_some hR
          refine k1 D2 w1 ?_
          obtain ⟨r1, r2, r3⟩ := hRF
          have b1 : (ptV f p acc D2).1 = acc.1 + D2.1 := rfl
          have b2 : (ptV f p acc D2).2.1 = acc.2.1 + D2.2.1 := rfl
          have b3 : (ptV f p acc D2).2.2.1 = acc.2.2.1 + (1 + D2.2.2.1) := rfl
          split at w3
          · cases w3
            exact ⟨by omega, by omega, by omega⟩
          · have z1 := cmS_ge _ _ _ _ w3
            have z2 := cmS_dep _ _ _ _ w3
            exact ⟨by omega, by omega, by omega⟩
    · obtain ⟨u, r1, r2⟩ := pt_n (e := e) (G := G) (by omega) (by omega) f (show e < p + hL (hF f p) by omega) m2g m2l m2x m2y m2a m2b m2c m2d
      obtain ⟨t_r, t1, t2, t3, t4, t5, t6, t7, t8, t9, t10⟩ := u
      have r2 : t_r = 0 := r2
      subst r2
      rw [r1, some_bind]
      simp only [unp, if_true]
      refine Or.inr ⟨fun R hR _ => ?_, _, rfl, rfl⟩
      obtain ⟨⟨o1, _⟩, _⟩ := cmS_some hR
      exact cL o1
theorem glyph_f_2 {n G n0 c0 p0 g : Nat} {f gs : Nat → Int32} {bg : Nat → Nat} (H : FCtx n gs G bg) (hg : g < G) (h0 : n0 ≤ 256) (h1 : c0 ≤ 32) (h2 : p0 ≤ 40) (by_ : Nat) (xs ys on la fl : Nat → Int32) (r2b : Option Nat) (r2p : Int32) (r2l : Int32) (r2w : Int32) (r3b : Option Nat) (r3p : Int32) (r3l : Int32) (r3w : Int32) (r4b : Option Nat) (r4p : Int32) (r4l : Int32) (r4w : Int32) (m2g : Int32) (m2l : Int32) (m2x : Int32) (m2y : Int32) (m2a : Int32) (m2b : Int32) (m2c : Int32) (m2d : Int32) (m3g : Int32) (m3l : Int32) (m3x : Int32) (m3y : Int32) (m3a : Int32) (m3b : Int32) (m3c : Int32) (m3d : Int32) : (∃ D, sp f bg G 3 g = some D ∧ Fit D n0 c0 p0 ∧ ∃ u, P_Sh_addGlyph_L2 by_ (nI n0) (nI c0) (nI p0) xs ys on la fl r2b r2p r2l r2w r3b r3p r3l r3w r4b r4p r4l r4w m2g m2l m2x m2y m2a m2b m2c m2d m3g m3l m3x m3y m3a m3b m3c m3d (nI n) (nI G) f gs (nI g) = some u ∧ u.1 = 1 ∧ u.2.2.2.1 = nI (p0 + D.2.2.1) ∧ ShR D n0 c0 u.2.1 u.2.2.1 xs ys on la u.2.2.2.2.1 u.2.2.2.2.2.1 u.2.2.2.2.2.2.1 u.2.2.2.2.2.2.2.1) ∨ ((∀ D, sp f bg G 3 g = some D → ¬ Fit D n0 c0 p0) ∧ ∃ u, P_Sh_addGlyph_L2 by_ (nI n0) (nI c0) (nI p0) xs ys on la fl r2b r2p r2l r2w r3b r3p r3l r3w r4b r4p r4l r4w m2g m2l m2x m2y m2a m2b m2c m2d m3g m3l m3x m3y m3a m3b m3c m3d (nI n) (nI G) f gs (nI g) = some u ∧ u.1 = 0) := by
  obtain ⟨hn, hG, hgs, hmo, hle⟩ := id H
  have m1 := hmo g hg
  have m2 := hle (g + 1) (by omega)
  unfold P_Sh_addGlyph_L2
  rw [nI_1, bdI (by omega) (by omega), bdI (by omega) (by omega), nI_clamp (by omega), nI_clamp (by omega), hgs g (by omega), hgs (g + 1) (by omega)]
  by_cases c1 : bg g = bg (g + 1)
  · rw [if_pos (by rw [c1])]
    refine Or.inl ⟨D0, ?_, ⟨h0, h1, h2⟩, _, rfl, rfl, rfl, ShR.d0⟩
    show spG f bg G _ g = _
    unfold spG
    rw [if_pos c1]
  rw [if_neg (fun q => c1 ((nI_eq (by omega) (by omega)).mp q)), pk_sub m1, show (10 : Int32) = nI 10 from rfl]
  by_cases c2 : bg (g + 1) < bg g + 10
  · rw [if_pos (nI_lt (by omega) (by omega))]
    refine Or.inr ⟨fun D hD _ => ?_, _, rfl, rfl⟩
    have hD : spG f bg G _ g = some D := hD
    unfold spG at hD
    rw [if_neg c1, if_pos c2] at hD
    cases hD
  · rw [if_neg (nI_nlt (by omega) (by omega)), opn (by omega) m2 hn, some_bind]
    simp only [unp]
    rw [rd2 (by omega) (by omega), some_bind]
    simp only [unp]
    rw [show (8 : Int32) = nI 8 from rfl, skp (by omega) (by omega) (by omega), if_pos (by omega), some_bind]
    simp only [unp]
    rw [show bg g + 2 + 8 = bg g + 10 by omega, show (nI (W2 f (bg g))).toInt16.toInt32 = s16 (W2 f (bg g)) from rfl]
    have spx : ∀ ch, spG f bg G ch g = if s16 (W2 f (bg g)) = -1 then cmS f (bg (g + 1)) G ch 41 (bg g + 10) D0 else if s16 (W2 f (bg g)) < 0 then none else if (s16 (W2 f (bg g))).toNatClampNeg ≤ 16 then smD f (bg g + 10) (bg (g + 1)) (s16 (W2 f (bg g))).toNatClampNeg else none := by
      intro ch
      show (if _ then _ else _) = _
      rw [if_neg c1, if_neg c2]
    generalize hv : s16 (W2 f (bg g)) = v at *
    by_cases c3 : v = -1
    · rw [if_pos c3]
      rcases parts_f_2 H (hle (g + 1) (by omega)) h0 h1 h2 by_ xs ys on la 41 (bg g + 10) fuel D0 (nI n0) (nI c0) xs ys on la fl r3b r3p r3l r3w r4b r4p r4l r4w m2g m2l m2x m2y m2a m2b m2c m2d m3g m3l m3x m3y m3a m3b m3c m3d (by unfold fuel; omega) (by omega) D0_wf (by decide) (by decide) (by decide) ⟨h0, h1, h2⟩ ShR.d0 with ⟨R, q1, q2, u, q3, q4⟩ | ⟨q1, u, q3, q4⟩
      · obtain ⟨t_r, u0, u1, u2, u3, u4, u5, u6, u7, u8, u9, u10, u11, u12, u13, u14, u15, u16, u17, u18, u19, u20, u21, u22, u23, u24, u25, u26, u27, u28, u29, u30, u31, u32, u33⟩ := u
        have q3 : P_Sh_addParts_L2 by_ (nI n0) (nI c0) (nI p0) xs ys on la fl (nI (bg g + 10)) (nI (bg (g + 1))) 1 r3b r3p r3l r3w r4b r4p r4l r4w m2g m2l m2x m2y m2a m2b m2c m2d m3g m3l m3x m3y m3a m3b m3c m3d (nI n) (nI G) f gs = _ := q3
        have e_r : t_r = 1 := q4.1
        subst e_r
        rw [q3, some_bind]
        simp only [unp]
        rw [zb1]
        refine Or.inl ⟨R, ?_, q2, _, rfl, rfl, q4.2.1, q4.2.2⟩
        show spG f bg G (sp f bg G 2) g = some R
        rw [spx, if_pos c3]
        exact q1
      · obtain ⟨t_r, u0, u1, u2, u3, u4, u5, u6, u7, u8, u9, u10, u11, u12, u13, u14, u15, u16, u17, u18, u19, u20, u21, u22, u23, u24, u25, u26, u27, u28, u29, u30, u31, u32, u33⟩ := u
        have q3 : P_Sh_addParts_L2 by_ (nI n0) (nI c0) (nI p0) xs ys on la fl (nI (bg g + 10)) (nI (bg (g + 1))) 1 r3b r3p r3l r3w r4b r4p r4l r4w m2g m2l m2x m2y m2a m2b m2c m2d m3g m3l m3x m3y m3a m3b m3c m3d (nI n) (nI G) f gs = _ := q3
        have e_r : t_r = 0 := q4
        subst e_r
        rw [q3, some_bind]
        simp only [unp]
        rw [zb0]
        refine Or.inr ⟨fun D hD => ?_, _, rfl, rfl⟩
        have hD : spG f bg G (sp f bg G 2) g = some D := hD
        rw [spx, if_pos c3] at hD
        exact q1 D hD
    · rw [if_neg c3]
      by_cases c4 : v < 0
      · rw [if_pos c4]
        refine Or.inr ⟨fun D hD _ => ?_, _, rfl, rfl⟩
        have hD : spG f bg G _ g = some D := hD
        rw [spx, if_neg c3, if_pos c4] at hD
        cases hD
      · rw [if_neg c4]
        obtain ⟨k, hk, ek⟩ : ∃ k, k < 65536 ∧ v = nI k := by
          have := s16_of (v := W2 f (bg g)) (by rw [hv]; exact c4)
          rw [hv] at this
          exact this
        have spy : ∀ ch, spG f bg G ch g = if k ≤ 16 then smD f (bg g + 10) (bg (g + 1)) k else none := by
          intro ch
          rw [spx, if_neg c3, if_neg c4, ek, nI_clamp (by omega)]
        rw [ek]
        rcases simple_f (e := bg (g + 1)) (p := bg g + 10) h0 h1 (by omega) (by omega) hk f xs ys on la fl with ⟨D, d1, d2, d3, d4, xs', ys', on', la', F', q', a1, a2, a3, a4, a5⟩ | ⟨d1, u, a1, a2⟩
        · obtain ⟨e1, e2, e3, e4, e5, _⟩ := smD_E d2
          rw [a1, some_bind]
          simp only [unp]
          rw [if_neg n10]
          refine Or.inl ⟨D, ?_, ⟨d3, by rw [e2]; exact d4, by rw [e3]; exact h2⟩, _, rfl, rfl, by rw [e3]; rfl, ⟨rfl, by rw [e2], a2, fun i hi => ?_, a4, a5⟩⟩
          · show spG f bg G _ g = _
            rw [spy, if_pos d1]; exact d2
          · rw [e5]
            exact a3 i (by rw [← e2]; exact hi)
        · obtain ⟨t_r, u1, u2, u3, u4, u5, u6, u7, u8, u9⟩ := u
          have e_r : t_r = 0 := a2
          subst e_r
          rw [a1, some_bind]
          simp only [unp, if_true]
          refine Or.inr ⟨fun D hD hFt => d1 ?_, _, rfl, rfl⟩
          have hD : spG f bg G _ g = some D := hD
          rw [spy] at hD
          by_cases c5 : k ≤ 16
          · rw [if_pos c5] at hD
            obtain ⟨e1, e2, e3, e4, e5, _⟩ := smD_E hD
            have := hFt.2.1
            rw [e2] at this
            exact ⟨c5, this, D, hD, hFt.1⟩
          · rw [if_neg c5] at hD; cases hD
theorem parts_f_1 {n G n0 c0 p0 e : Nat} {f gs : Nat → Int32} {bg : Nat → Nat} (H : FCtx n gs G bg) (he : e ≤ n) (h0 : n0 ≤ 256) (h1 : c0 ≤ 32) (h2 : p0 ≤ 40) (by_ : Nat) (xs0 ys0 on0 la0 : Nat → Int32) : ∀ (m p M : Nat) (acc : Dat) (pts con : Int32) (xs ys on la fl : Nat → Int32) (r2b : Option Nat) (r2p : Int32) (r2l : Int32) (r2w : Int32) (r3b : Option Nat) (r3p : Int32) (r3l : Int32) (r3w : Int32) (r4b : Option Nat) (r4p : Int32) (r4l : Int32) (r4w : Int32) (m1g : Int32) (m1l : Int32) (m1x : Int32) (m1y : Int32) (m1a : Int32) (m1b : Int32) (m1c : Int32) (m1d : Int32) (m2g : Int32) (m2l : Int32) (m2x : Int32) (m2y : Int32) (m2a : Int32) (m2b : Int32) (m2c : Int32) (m2d : Int32) (m3g : Int32) (m3l : Int32) (m3x : Int32) (m3y : Int32) (m3a : Int32) (m3b : Int32) (m3c : Int32) (m3d : Int32), m + 1 < M → p ≤ e → WfD acc → acc.2.2.2.1 ≤ 4 → 41 ≤ acc.2.2.1 + m → acc.2.2.1 ≤ 40 → Fit acc n0 c0 p0 → ShR acc n0 c0 pts con xs0 ys0 on0 la0 xs ys on la → (∃ R, cmS f e G (sp f bg G 3) m p acc = some R ∧ Fit R n0 c0 p0 ∧ ∃ u, lp (L_Sh_addParts_L1_17 by_ (nI e) (nI n) (nI G) f gs) M (0, pts, con, nI (p0 + acc.2.2.1), xs, ys, on, la, fl, nI p, 1, r2b, r2p, r2l, r2w, r3b, r3p, r3l, r3w, r4b, r4p, r4l, r4w, m1g, m1l, m1x, m1y, m1a, m1b, m1c, m1d, m2g, m2l, m2x, m2y, m2a, m2b, m2c, m2d, m3g, m3l, m3x, m3y, m3a, m3b, m3c, m3d) = some u ∧ u.1 = 1 ∧ u.2.2.2.1 = nI (p0 + R.2.2.1) ∧ ShR R n0 c0 u.2.1 u.2.2.1 xs0 ys0 on0 la0 u.2.2.2.2.1 u.2.2.2.2.2.1 u.2.2.2.2.2.2.1 u.2.2.2.2.2.2.2.1) ∨ ((∀ R, cmS f e G (sp f bg G 3) m p acc = some R → ¬ Fit R n0 c0 p0) ∧ ∃ u, lp (L_Sh_addParts_L1_17 by_ (nI e) (nI n) (nI G) f gs) M (0, pts, con, nI (p0 + acc.2.2.1), xs, ys, on, la, fl, nI p, 1, r2b, r2p, r2l, r2w, r3b, r3p, r3l, r3w, r4b, r4p, r4l, r4w, m1g, m1l, m1x, m1y, m1a, m1b, m1c, m1d, m2g, m2l, m2x, m2y, m2a, m2b, m2c, m2d, m3g, m3l, m3x, m3y, m3a, m3b, m3c, m3d) = some u ∧ u.1 = 0) := by
  intro m
  induction m with
  | zero =>
    intro p M acc pts con xs ys on la fl r2b r2p r2l r2w r3b r3p r3l r3w r4b r4p r4l r4w m1g m1l m1x m1y m1a m1b m1c m1d m2g m2l m2x m2y m2a m2b m2c m2d m3g m3l m3x m3y m3a m3b m3c m3d hM hp wa hd hm ha hFt hS
    omega
  | succ m ih =>
    intro p M acc pts con xs ys on la fl r2b r2p r2l r2w r3b r3p r3l r3w r4b r4p r4l r4w m1g m1l m1x m1y m1a m1b m1c m1d m2g m2l m2x m2y m2a m2b m2c m2d m3g m3l m3x m3y m3a m3b m3c m3d hM hp wa hd hm ha hFt hS
    obtain ⟨M, rfl⟩ := suc_of (d := 0) (m := M) (by omega)
    obtain ⟨hn, hG, hgs, hmo, hle⟩ := id H
    rw [e_Sh_addParts_L1_17]
    unfold P_Sh_addParts_L1_17b
    rw [if_pos rfl, show (40 : Int32) = nI 40 from rfl, nI_1]
    obtain ⟨f1, f2, f3⟩ := id hFt
    by_cases c0_ : 40 ≤ p0 + acc.2.2.1
    · rw [if_pos (nI_le c0_ (by omega)), zb0]
      refine Or.inr ⟨fun R hR hRF => ?_, _, rfl, rfl⟩
      have := (cmS_dep _ _ _ _ hR).2
      have := hRF.2.2
      omega
    rw [if_neg (nI_ge (by omega) (by omega))]
    by_cases cL : p + hL (hF f p) ≤ e
    · rw [pt_y (by omega) hG f cL, some_bind]
      simp only [unp]
      by_cases cO : hF f p &&& (2 : Int32) = 0 ∨ G ≤ W2 f (p + 2)
      · rw [if_pos cO, if_pos rfl]
        refine Or.inr ⟨fun R hR _ => ?_, _, rfl, rfl⟩
        obtain ⟨⟨_, o2, o3⟩, _⟩ := cmS_some hR
        rcases cO with w | w
        · exact o2 w
        · omega
      · have hO : hOk f p e G := ⟨cL, fun w => cO (Or.inl w), by
          rcases Nat.lt_or_ge (W2 f (p + 2)) G with w | w
          · exact w
          · exact absurd (Or.inr w) cO⟩
        rw [if_neg cO, if_neg n10]
        obtain ⟨s1, s2, s3, s4, s5, s6⟩ := id hS
        rw [s1, s2]
        rcases glyph_f_2 (p0 := p0 + acc.2.2.1 + 1) H hO.2.2 (show n0 + acc.1 ≤ 256 by omega) (show c0 + acc.2.1 ≤ 32 by omega) (by omega) by_ xs ys on la fl r2b r2p r2l r2w r3b r3p r3l r3w r4b r4p r4l r4w m2g m2l m2x m2y m2a m2b m2c m2d m3g m3l m3x m3y m3a m3b m3c m3d with ⟨D, k1, k2, u, k3, k4⟩ | ⟨k1, u, k3, k4⟩
        · obtain ⟨t_r, t_pts, t_con, t_prt, t_xs, t_ys, t_on, t_la, t_fl, tr2b, tr2p, tr2l, tr2w, tr3b, tr3p, tr3l, tr3w, tr4b, tr4p, tr4l, tr4w, tm2g, tm2l, tm2x, tm2y, tm2a, tm2b, tm2c, tm2d, tm3g, tm3l, tm3x, tm3y, tm3a, tm3b, tm3c, tm3d⟩ := u
          have e_r : t_r = 1 := k4.1
          subst e_r
          have k5 : ShR D (n0 + acc.1) (c0 + acc.2.1) t_pts t_con xs ys on la t_xs t_ys t_on t_la := k4.2.2
          rw [k3, some_bind]
          simp only [unp]
          rw [if_neg n10]
          have wD := sp_wf _ _ _ k1
          have dl := sp_lt _ _ _ k1
          obtain ⟨g1, g2, g3⟩ := id k2
          obtain ⟨q1, q2, q3, q4, q5, q6⟩ := id k5
          rw [q1]
          rcases move_f (N := n0 + acc.1 + D.1) (by omega) (hDx f p) (hDy f p) (hQ f p).1 (hQ f p).2.1 (hQ f p).2.2.1 (hQ f p).2.2.2 D.1 (n0 + acc.1) fuel t_xs t_ys (by omega) (by unfold fuel; omega) with ⟨xs2, ys2, v1, v2, v3⟩ | ⟨⟨i, i1, i2, i3⟩, xs2, ys2, v1⟩
          · have v1 : P_Sh_move (nI (n0 + acc.1 + D.1)) t_xs t_ys (hDx f p) (hDy f p) (hQ f p).1 (hQ f p).2.1 (hQ f p).2.2.1 (hQ f p).2.2.2 (nI (n0 + acc.1)) = _ := v1
            rw [v1, some_bind]
            simp only [unp]
            rw [if_neg n10]
            have hC : ptC f p acc D := by
              refine ⟨by omega, Nat.max_le.mpr ⟨hd, by omega⟩, by omega, by omega, fun k hk => ?_⟩
              obtain ⟨w1, w2, _, _⟩ := v2 (n0 + acc.1 + k) (by omega) (by omega)
              obtain ⟨r1, r2, _⟩ := q3 k hk
              rw [r1, r2] at w1 w2
              exact ⟨w1, w2⟩
            have hS2 : ShR (ptV f p acc D) n0 c0 (nI (n0 + acc.1 + D.1)) t_con xs0 ys0 on0 la0 xs2 ys2 t_on t_la := ShR.join wa wD hS (by rw [q1] at k5; exact k5) (fun i a1 a2 => ⟨(v2 i a1 (by omega)).2.2.1, (v2 i a1 (by omega)).2.2.2⟩) (fun i a1 => v3 i (Or.inl a1))
            have hF2 : Fit (ptV f p acc D) n0 c0 p0 := ⟨by show n0 + (acc.1 + D.1) ≤ 256; omega, by show c0 + (acc.2.1 + D.2.1) ≤ 32; omega, by show p0 + (acc.2.2.1 + (1 + D.2.2.1)) ≤ 40; omega⟩
            have ec := cmS_of (ch := sp f bg G 3) (m := m) hO k1 hC
            have k6 : t_prt = nI (p0 + acc.2.2.1 + 1 + D.2.2.1) := k4.2.1
            rw [k6, show p0 + acc.2.2.1 + 1 + D.2.2.1 = p0 + (ptV f p acc D).2.2.1 from (by show p0 + acc.2.2.1 + 1 + D.2.2.1 = p0 + (acc.2.2.1 + (1 + D.2.2.1)); omega)]
            by_cases c32 : hF f p &&& (32 : Int32) = 0
            · rw [if_pos c32] at ec ⊢
              obtain ⟨M, rfl⟩ := suc_of (d := 0) (m := M) (by omega)
              rw [e_Sh_addParts_L1_17]
              unfold P_Sh_addParts_L1_17b
              rw [if_neg n10, zb1]
              exact Or.inl ⟨_, ec, hF2, _, rfl, rfl, rfl, hS2⟩
            · rw [if_neg c32] at ec ⊢
              rw [ec]
              exact ih (p + hL (hF f p)) M (ptV f p acc D) (nI (n0 + acc.1 + D.1)) t_con xs2 ys2 t_on t_la t_fl _ _ _ _ _ _ _ _ _ _ _ _ _ _ _ _ _ _ _ _ _ _ _ _ _ _ _ _ _ _ _ _ _ _ _ _ (by omega) cL (ptV_wf wa wD hC) hC.2.1 (by show 41 ≤ acc.2.2.1 + (1 + D.2.2.1) + m; omega) hC.1 hF2 hS2
          · have v1 : P_Sh_move (nI (n0 + acc.1 + D.1)) t_xs t_ys (hDx f p) (hDy f p) (hQ f p).1 (hQ f p).2.1 (hQ f p).2.2.1 (hQ f p).2.2.2 (nI (n0 + acc.1)) = _ := v1
            rw [v1, some_bind]
            simp only [unp, if_true]
            refine Or.inr ⟨fun R hR _ => ?_, _, rfl, rfl⟩
            obtain ⟨_, D2, w1, w2, _⟩ := cmS_some hR
            rw [k1] at w1
            cases w1
            obtain ⟨z1, z2⟩ := w2.2.2.2.2 (i - (n0 + acc.1)) (by omega)
            obtain ⟨r1, r2, _⟩ := q3 (i - (n0 + acc.1)) (by omega)
            rw [show n0 + acc.1 + (i - (n0 + acc.1)) = i by omega] at r1 r2
            rw [r1, r2] at i3
            exact i3 ⟨z1, z2⟩
        · obtain ⟨t_r, t_pts, t_con, t_prt, t_xs, t_ys, t_on, t_la, t_fl, tr2b, tr2p, tr2l, tr2w, tr3b, tr3p, tr3l, tr3w, tr4b, tr4p, tr4l, tr4w, tm2g, tm2l, tm2x, tm2y, tm2a, tm2b, tm2c, tm2d, tm3g, tm3l, tm3x, tm3y, tm3a, tm3b, tm3c, tm3d⟩ := u
          have e_r : t_r = 0 := k4
          subst e_r
          rw [k3, some_bind]
          simp only [unp, if_true]
          refine Or.inr ⟨fun R hR hRF => ?_, _, rfl, rfl⟩
          obtain ⟨_, D2, w1, w2, w3⟩ := cmS_some hR
          refine k1 D2 w1 ?_
          obtain ⟨r1, r2, r3⟩ := hRF
          have b1 : (ptV f p acc D2).1 = acc.1 + D2.1 := rfl
          have b2 : (ptV f p acc D2).2.1 = acc.2.1 + D2.2.1 := rfl
          have b3 : (ptV f p acc D2).2.2.1 = acc.2.2.1 + (1 + D2.2.2.1) := rfl
          split at w3
          · cases w3
            exact ⟨by omega, by omega, by omega⟩
          · have z1 := cmS_ge _ _ _ _ w3
            have z2 := cmS_dep _ _ _ _ w3
            exact ⟨by omega, by omega, by omega⟩
    · obtain ⟨u, r1, r2⟩ := pt_n (e := e) (G := G) (by omega) (by omega) f (show e < p + hL (hF f p) by omega) m1g m1l m1x m1y m1a m1b m1c m1d
      obtain ⟨t_r, t1, t2, t3, t4, t5, t6, t7, t8, t9, t10⟩ := u
      have r2 : t_r = 0 := r2
      subst r2
      rw [r1, some_bind]
      simp only [unp, if_true]
      refine Or.inr ⟨fun R hR _ => ?_, _, rfl, rfl⟩
      obtain ⟨⟨o1, _⟩, _⟩ := cmS_some hR
      exact cL o1
theorem glyph_f_1 {n G n0 c0 p0 g : Nat} {f gs : Nat → Int32} {bg : Nat → Nat} (H : FCtx n gs G bg) (hg : g < G) (h0 : n0 ≤ 256) (h1 : c0 ≤ 32) (h2 : p0 ≤ 40) (by_ : Nat) (xs ys on la fl : Nat → Int32) (r1b : Option Nat) (r1p : Int32) (r1l : Int32) (r1w : Int32) (r2b : Option Nat) (r2p : Int32) (r2l : Int32) (r2w : Int32) (r3b : Option Nat) (r3p : Int32) (r3l : Int32) (r3w : Int32) (r4b : Option Nat) (r4p : Int32) (r4l : Int32) (r4w : Int32) (m1g : Int32) (m1l : Int32) (m1x : Int32) (m1y : Int32) (m1a : Int32) (m1b : Int32) (m1c : Int32) (m1d : Int32) (m2g : Int32) (m2l : Int32) (m2x : Int32) (m2y : Int32) (m2a : Int32) (m2b : Int32) (m2c : Int32) (m2d : Int32) (m3g : Int32) (m3l : Int32) (m3x : Int32) (m3y : Int32) (m3a : Int32) (m3b : Int32) (m3c : Int32) (m3d : Int32) : (∃ D, sp f bg G 4 g = some D ∧ Fit D n0 c0 p0 ∧ ∃ u, P_Sh_addGlyph_L1 by_ (nI n0) (nI c0) (nI p0) xs ys on la fl r1b r1p r1l r1w r2b r2p r2l r2w r3b r3p r3l r3w r4b r4p r4l r4w m1g m1l m1x m1y m1a m1b m1c m1d m2g m2l m2x m2y m2a m2b m2c m2d m3g m3l m3x m3y m3a m3b m3c m3d (nI n) (nI G) f gs (nI g) = some u ∧ u.1 = 1 ∧ u.2.2.2.1 = nI (p0 + D.2.2.1) ∧ ShR D n0 c0 u.2.1 u.2.2.1 xs ys on la u.2.2.2.2.1 u.2.2.2.2.2.1 u.2.2.2.2.2.2.1 u.2.2.2.2.2.2.2.1) ∨ ((∀ D, sp f bg G 4 g = some D → ¬ Fit D n0 c0 p0) ∧ ∃ u, P_Sh_addGlyph_L1 by_ (nI n0) (nI c0) (nI p0) xs ys on la fl r1b r1p r1l r1w r2b r2p r2l r2w r3b r3p r3l r3w r4b r4p r4l r4w m1g m1l m1x m1y m1a m1b m1c m1d m2g m2l m2x m2y m2a m2b m2c m2d m3g m3l m3x m3y m3a m3b m3c m3d (nI n) (nI G) f gs (nI g) = some u ∧ u.1 = 0) := by
  obtain ⟨hn, hG, hgs, hmo, hle⟩ := id H
  have m1 := hmo g hg
  have m2 := hle (g + 1) (by omega)
  unfold P_Sh_addGlyph_L1
  rw [nI_1, bdI (by omega) (by omega), bdI (by omega) (by omega), nI_clamp (by omega), nI_clamp (by omega), hgs g (by omega), hgs (g + 1) (by omega)]
  by_cases c1 : bg g = bg (g + 1)
  · rw [if_pos (by rw [c1])]
    refine Or.inl ⟨D0, ?_, ⟨h0, h1, h2⟩, _, rfl, rfl, rfl, ShR.d0⟩
    show spG f bg G _ g = _
    unfold spG
    rw [if_pos c1]
  rw [if_neg (fun q => c1 ((nI_eq (by omega) (by omega)).mp q)), pk_sub m1, show (10 : Int32) = nI 10 from rfl]
  by_cases c2 : bg (g + 1) < bg g + 10
  · rw [if_pos (nI_lt (by omega) (by omega))]
    refine Or.inr ⟨fun D hD _ => ?_, _, rfl, rfl⟩
    have hD : spG f bg G _ g = some D := hD
    unfold spG at hD
    rw [if_neg c1, if_pos c2] at hD
    cases hD
  · rw [if_neg (nI_nlt (by omega) (by omega)), opn (by omega) m2 hn, some_bind]
    simp only [unp]
    rw [rd2 (by omega) (by omega), some_bind]
    simp only [unp]
    rw [show (8 : Int32) = nI 8 from rfl, skp (by omega) (by omega) (by omega), if_pos (by omega), some_bind]
    simp only [unp]
    rw [show bg g + 2 + 8 = bg g + 10 by omega, show (nI (W2 f (bg g))).toInt16.toInt32 = s16 (W2 f (bg g)) from rfl]
    have spx : ∀ ch, spG f bg G ch g = if s16 (W2 f (bg g)) = -1 then cmS f (bg (g + 1)) G ch 41 (bg g + 10) D0 else if s16 (W2 f (bg g)) < 0 then none else if (s16 (W2 f (bg g))).toNatClampNeg ≤ 16 then smD f (bg g + 10) (bg (g + 1)) (s16 (W2 f (bg g))).toNatClampNeg else none := by
      intro ch
      show (if _ then _ else _) = _
      rw [if_neg c1, if_neg c2]
    generalize hv : s16 (W2 f (bg g)) = v at *
    by_cases c3 : v = -1
    · rw [if_pos c3]
      rcases parts_f_1 H (hle (g + 1) (by omega)) h0 h1 h2 by_ xs ys on la 41 (bg g + 10) fuel D0 (nI n0) (nI c0) xs ys on la fl r2b r2p r2l r2w r3b r3p r3l r3w r4b r4p r4l r4w m1g m1l m1x m1y m1a m1b m1c m1d m2g m2l m2x m2y m2a m2b m2c m2d m3g m3l m3x m3y m3a m3b m3c m3d (by unfold fuel; omega) (by omega) D0_wf (by decide) (by decide) (by decide) ⟨h0, h1, h2⟩ ShR.d0 with ⟨R, q1, q2, u, q3, q4⟩ | ⟨q1, u, q3, q4⟩
      · obtain ⟨t_r, u0, u1, u2, u3, u4, u5, u6, u7, u8, u9, u10, u11, u12, u13, u14, u15, u16, u17, u18, u19, u20, u21, u22, u23, u24, u25, u26, u27, u28, u29, u30, u31, u32, u33, u34, u35, u36, u37, u38, u39, u40, u41, u42, u43, u44, u45⟩ := u
        have q3 : P_Sh_addParts_L1 by_ (nI n0) (nI c0) (nI p0) xs ys on la fl (nI (bg g + 10)) (nI (bg (g + 1))) 1 r2b r2p r2l r2w r3b r3p r3l r3w r4b r4p r4l r4w m1g m1l m1x m1y m1a m1b m1c m1d m2g m2l m2x m2y m2a m2b m2c m2d m3g m3l m3x m3y m3a m3b m3c m3d (nI n) (nI G) f gs = _ := q3
        have e_r : t_r = 1 := q4.1
        subst e_r
        rw [q3, some_bind]
        simp only [unp]
        rw [zb1]
        refine Or.inl ⟨R, ?_, q2, _, rfl, rfl, q4.2.1, q4.2.2⟩
        show spG f bg G (sp f bg G 3) g = some R
        rw [spx, if_pos c3]
        exact q1
      · obtain ⟨t_r, u0, u1, u2, u3, u4, u5, u6, u7, u8, u9, u10, u11, u12, u13, u14, u15, u16, u17, u18, u19, u20, u21, u22, u23, u24, u25, u26, u27, u28, u29, u30, u31, u32, u33, u34, u35, u36, u37, u38, u39, u40, u41, u42, u43, u44, u45⟩ := u
        have q3 : P_Sh_addParts_L1 by_ (nI n0) (nI c0) (nI p0) xs ys on la fl (nI (bg g + 10)) (nI (bg (g + 1))) 1 r2b r2p r2l r2w r3b r3p r3l r3w r4b r4p r4l r4w m1g m1l m1x m1y m1a m1b m1c m1d m2g m2l m2x m2y m2a m2b m2c m2d m3g m3l m3x m3y m3a m3b m3c m3d (nI n) (nI G) f gs = _ := q3
        have e_r : t_r = 0 := q4
        subst e_r
        rw [q3, some_bind]
        simp only [unp]
        rw [zb0]
        refine Or.inr ⟨fun D hD => ?_, _, rfl, rfl⟩
        have hD : spG f bg G (sp f bg G 3) g = some D := hD
        rw [spx, if_pos c3] at hD
        exact q1 D hD
    · rw [if_neg c3]
      by_cases c4 : v < 0
      · rw [if_pos c4]
        refine Or.inr ⟨fun D hD _ => ?_, _, rfl, rfl⟩
        have hD : spG f bg G _ g = some D := hD
        rw [spx, if_neg c3, if_pos c4] at hD
        cases hD
      · rw [if_neg c4]
        obtain ⟨k, hk, ek⟩ : ∃ k, k < 65536 ∧ v = nI k := by
          have := s16_of (v := W2 f (bg g)) (by rw [hv]; exact c4)
          rw [hv] at this
          exact this
        have spy : ∀ ch, spG f bg G ch g = if k ≤ 16 then smD f (bg g + 10) (bg (g + 1)) k else none := by
          intro ch
          rw [spx, if_neg c3, if_neg c4, ek, nI_clamp (by omega)]
        rw [ek]
        rcases simple_f (e := bg (g + 1)) (p := bg g + 10) h0 h1 (by omega) (by omega) hk f xs ys on la fl with ⟨D, d1, d2, d3, d4, xs', ys', on', la', F', q', a1, a2, a3, a4, a5⟩ | ⟨d1, u, a1, a2⟩
        · obtain ⟨e1, e2, e3, e4, e5, _⟩ := smD_E d2
          rw [a1, some_bind]
          simp only [unp]
          rw [if_neg n10]
          refine Or.inl ⟨D, ?_, ⟨d3, by rw [e2]; exact d4, by rw [e3]; exact h2⟩, _, rfl, rfl, by rw [e3]; rfl, ⟨rfl, by rw [e2], a2, fun i hi => ?_, a4, a5⟩⟩
          · show spG f bg G _ g = _
            rw [spy, if_pos d1]; exact d2
          · rw [e5]
            exact a3 i (by rw [← e2]; exact hi)
        · obtain ⟨t_r, u1, u2, u3, u4, u5, u6, u7, u8, u9⟩ := u
          have e_r : t_r = 0 := a2
          subst e_r
          rw [a1, some_bind]
          simp only [unp, if_true]
          refine Or.inr ⟨fun D hD hFt => d1 ?_, _, rfl, rfl⟩
          have hD : spG f bg G _ g = some D := hD
          rw [spy] at hD
          by_cases c5 : k ≤ 16
          · rw [if_pos c5] at hD
            obtain ⟨e1, e2, e3, e4, e5, _⟩ := smD_E hD
            have := hFt.2.1
            rw [e2] at this
            exact ⟨c5, this, D, hD, hFt.1⟩
          · rw [if_neg c5] at hD; cases hD
theorem parts_f_0 {n G n0 c0 p0 e : Nat} {f gs : Nat → Int32} {bg : Nat → Nat} (H : FCtx n gs G bg) (he : e ≤ n) (h0 : n0 ≤ 256) (h1 : c0 ≤ 32) (h2 : p0 ≤ 40) (by_ : Nat) (xs0 ys0 on0 la0 : Nat → Int32) : ∀ (m p M : Nat) (acc : Dat) (pts con : Int32) (xs ys on la fl : Nat → Int32) (r1b : Option Nat) (r1p : Int32) (r1l : Int32) (r1w : Int32) (r2b : Option Nat) (r2p : Int32) (r2l : Int32) (r2w : Int32) (r3b : Option Nat) (r3p : Int32) (r3l : Int32) (r3w : Int32) (r4b : Option Nat) (r4p : Int32) (r4l : Int32) (r4w : Int32) (m0g : Int32) (m0l : Int32) (m0x : Int32) (m0y : Int32) (m0a : Int32) (m0b : Int32) (m0c : Int32) (m0d : Int32) (m1g : Int32) (m1l : Int32) (m1x : Int32) (m1y : Int32) (m1a : Int32) (m1b : Int32) (m1c : Int32) (m1d : Int32) (m2g : Int32) (m2l : Int32) (m2x : Int32) (m2y : Int32) (m2a : Int32) (m2b : Int32) (m2c : Int32) (m2d : Int32) (m3g : Int32) (m3l : Int32) (m3x : Int32) (m3y : Int32) (m3a : Int32) (m3b : Int32) (m3c : Int32) (m3d : Int32), m + 1 < M → p ≤ e → WfD acc → acc.2.2.2.1 ≤ 4 → 41 ≤ acc.2.2.1 + m → acc.2.2.1 ≤ 40 → Fit acc n0 c0 p0 → ShR acc n0 c0 pts con xs0 ys0 on0 la0 xs ys on la → (∃ R, cmS f e G (sp f bg G 4) m p acc = some R ∧ Fit R n0 c0 p0 ∧ ∃ u, lp (L_Sh_addParts_L0_17 by_ (nI e) (nI n) (nI G) f gs) M (0, pts, con, nI (p0 + acc.2.2.1), xs, ys, on, la, fl, nI p, 1, r1b, r1p, r1l, r1w, r2b, r2p, r2l, r2w, r3b, r3p, r3l, r3w, r4b, r4p, r4l, r4w, m0g, m0l, m0x, m0y, m0a, m0b, m0c, m0d, m1g, m1l, m1x, m1y, m1a, m1b, m1c, m1d, m2g, m2l, m2x, m2y, m2a, m2b, m2c, m2d, m3g, m3l, m3x, m3y, m3a, m3b, m3c, m3d) = some u ∧ u.1 = 1 ∧ u.2.2.2.1 = nI (p0 + R.2.2.1) ∧ ShR R n0 c0 u.2.1 u.2.2.1 xs0 ys0 on0 la0 u.2.2.2.2.1 u.2.2.2.2.2.1 u.2.2.2.2.2.2.1 u.2.2.2.2.2.2.2.1) ∨ ((∀ R, cmS f e G (sp f bg G 4) m p acc = some R → ¬ Fit R n0 c0 p0) ∧ ∃ u, lp (L_Sh_addParts_L0_17 by_ (nI e) (nI n) (nI G) f gs) M (0, pts, con, nI (p0 + acc.2.2.1), xs, ys, on, la, fl, nI p, 1, r1b, r1p, r1l, r1w, r2b, r2p, r2l, r2w, r3b, r3p, r3l, r3w, r4b, r4p, r4l, r4w, m0g, m0l, m0x, m0y, m0a, m0b, m0c, m0d, m1g, m1l, m1x, m1y, m1a, m1b, m1c, m1d, m2g, m2l, m2x, m2y, m2a, m2b, m2c, m2d, m3g, m3l, m3x, m3y, m3a, m3b, m3c, m3d) = some u ∧ u.1 = 0) := by
  intro m
  induction m with
  | zero =>
    intro p M acc pts con xs ys on la fl r1b r1p r1l r1w r2b r2p r2l r2w r3b r3p r3l r3w r4b r4p r4l r4w m0g m0l m0x m0y m0a m0b m0c m0d m1g m1l m1x m1y m1a m1b m1c m1d m2g m2l m2x m2y m2a m2b m2c m2d m3g m3l m3x m3y m3a m3b m3c m3d hM hp wa hd hm ha hFt hS
    omega
  | succ m ih =>
    intro p M acc pts con xs ys on la fl r1b r1p r1l r1w r2b r2p r2l r2w r3b r3p r3l r3w r4b r4p r4l r4w m0g m0l m0x m0y m0a m0b m0c m0d m1g m1l m1x m1y m1a m1b m1c m1d m2g m2l m2x m2y m2a m2b m2c m2d m3g m3l m3x m3y m3a m3b m3c m3d hM hp wa hd hm ha hFt hS
    obtain ⟨M, rfl⟩ := suc_of (d := 0) (m := M) (by omega)
    obtain ⟨hn, hG, hgs, hmo, hle⟩ := id H
    rw [e_Sh_addParts_L0_17]
    unfold P_Sh_addParts_L0_17b
    rw [if_pos rfl, show (40 : Int32) = nI 40 from rfl, nI_1]
    obtain ⟨f1, f2, f3⟩ := id hFt
    by_cases c0_ : 40 ≤ p0 + acc.2.2.1
    · rw [if_pos (nI_le c0_ (by omega)), zb0]
      refine Or.inr ⟨fun R hR hRF => ?_, _, rfl, rfl⟩
      have := (cmS_dep _ _ _ _ hR).2
      have := hRF.2.2
      omega
    rw [if_neg (nI_ge (by omega) (by omega))]
    by_cases cL : p + hL (hF f p) ≤ e
    · rw [pt_y (by omega) hG f cL, some_bind]
      simp only [unp]
      by_cases cO : hF f p &&& (2 : Int32) = 0 ∨ G ≤ W2 f (p + 2)
      · rw [if_pos cO, if_pos rfl]
        refine Or.inr ⟨fun R hR _ => ?_, _, rfl, rfl⟩
        obtain ⟨⟨_, o2, o3⟩, _⟩ := cmS_some hR
        rcases cO with w | w
        · exact o2 w
        · omega
      · have hO : hOk f p e G := ⟨cL, fun w => cO (Or.inl w), by
          rcases Nat.lt_or_ge (W2 f (p + 2)) G with w | w
          · exact w
          · exact absurd (Or.inr w) cO⟩
        rw [if_neg cO, if_neg n10]
        obtain ⟨s1, s2, s3, s4, s5, s6⟩ := id hS
        rw [s1, s2]
        rcases glyph_f_1 (p0 := p0 + acc.2.2.1 + 1) H hO.2.2 (show n0 + acc.1 ≤ 256 by omega) (show c0 + acc.2.1 ≤ 32 by omega) (by omega) by_ xs ys on la fl r1b r1p r1l r1w r2b r2p r2l r2w r3b r3p r3l r3w r4b r4p r4l r4w m1g m1l m1x m1y m1a m1b m1c m1d m2g m2l m2x m2y m2a m2b m2c m2d m3g m3l m3x m3y m3a m3b m3c m3d with ⟨D, k1, k2, u, k3, k4⟩ | ⟨k1, u, k3, k4⟩
        · obtain ⟨t_r, t_pts, t_con, t_prt, t_xs, t_ys, t_on, t_la, t_fl, tr1b, tr1p, tr1l, tr1w, tr2b, tr2p, tr2l, tr2w, tr3b, tr3p, tr3l, tr3w, tr4b, tr4p, tr4l, tr4w, tm1g, tm1l, tm1x, tm1y, tm1a, tm1b, tm1c, tm1d, tm2g, tm2l, tm2x, tm2y, tm2a, tm2b, tm2c, tm2d, tm3g, tm3l, tm3x, tm3y, tm3a, tm3b, tm3c, tm3d⟩ := u
          have e_r : t_r = 1 := k4.1
          subst e_r
          have k5 : ShR D (n0 + acc.1) (c0 + acc.2.1) t_pts t_con xs ys on la t_xs t_ys t_on t_la := k4.2.2
          rw [k3, some_bind]
          simp only [unp]
          rw [if_neg n10]
          have wD := sp_wf _ _ _ k1
          have dl := sp_lt _ _ _ k1
          obtain ⟨g1, g2, g3⟩ := id k2
          obtain ⟨q1, q2, q3, q4, q5, q6⟩ := id k5
          rw [q1]
          rcases move_f (N := n0 + acc.1 + D.1) (by omega) (hDx f p) (hDy f p) (hQ f p).1 (hQ f p).2.1 (hQ f p).2.2.1 (hQ f p).2.2.2 D.1 (n0 + acc.1) fuel t_xs t_ys (by omega) (by unfold fuel; omega) with ⟨xs2, ys2, v1, v2, v3⟩ | ⟨⟨i, i1, i2, i3⟩, xs2, ys2, v1⟩
          · have v1 : P_Sh_move (nI (n0 + acc.1 + D.1)) t_xs t_ys (hDx f p) (hDy f p) (hQ f p).1 (hQ f p).2.1 (hQ f p).2.2.1 (hQ f p).2.2.2 (nI (n0 + acc.1)) = _ := v1
            rw [v1, some_bind]
            simp only [unp]
            rw [if_neg n10]
            have hC : ptC f p acc D := by
              refine ⟨by omega, Nat.max_le.mpr ⟨hd, by omega⟩, by omega, by omega, fun k hk => ?_⟩
              obtain ⟨w1, w2, _, _⟩ := v2 (n0 + acc.1 + k) (by omega) (by omega)
              obtain ⟨r1, r2, _⟩ := q3 k hk
              rw [r1, r2] at w1 w2
              exact ⟨w1, w2⟩
            have hS2 : ShR (ptV f p acc D) n0 c0 (nI (n0 + acc.1 + D.1)) t_con xs0 ys0 on0 la0 xs2 ys2 t_on t_la := ShR.join wa wD hS (by rw [q1] at k5; exact k5) (fun i a1 a2 => ⟨(v2 i a1 (by omega)).2.2.1, (v2 i a1 (by omega)).2.2.2⟩) (fun i a1 => v3 i (Or.inl a1))
            have hF2 : Fit (ptV f p acc D) n0 c0 p0 := ⟨by show n0 + (acc.1 + D.1) ≤ 256; omega, by show c0 + (acc.2.1 + D.2.1) ≤ 32; omega, by show p0 + (acc.2.2.1 + (1 + D.2.2.1)) ≤ 40; omega⟩
            have ec := cmS_of (ch := sp f bg G 4) (m := m) hO k1 hC
            have k6 : t_prt = nI (p0 + acc.2.2.1 + 1 + D.2.2.1) := k4.2.1
            rw [k6, show p0 + acc.2.2.1 + 1 + D.2.2.1 = p0 + (ptV f p acc D).2.2.1 from (by show p0 + acc.2.2.1 + 1 + D.2.2.1 = p0 + (acc.2.2.1 + (1 + D.2.2.1)); omega)]
            by_cases c32 : hF f p &&& (32 : Int32) = 0
            · rw [if_pos c32] at ec ⊢
              obtain ⟨M, rfl⟩ := suc_of (d := 0) (m := M) (by omega)
              rw [e_Sh_addParts_L0_17]
              unfold P_Sh_addParts_L0_17b
              rw [if_neg n10, zb1]
              exact Or.inl ⟨_, ec, hF2, _, rfl, rfl, rfl, hS2⟩
            · rw [if_neg c32] at ec ⊢
              rw [ec]
              exact ih (p + hL (hF f p)) M (ptV f p acc D) (nI (n0 + acc.1 + D.1)) t_con xs2 ys2 t_on t_la t_fl _ _ _ _ _ _ _ _ _ _ _ _ _ _ _ _ _ _ _ _ _ _ _ _ _ _ _ _ _ _ _ _ _ _ _ _ _ _ _ _ _ _ _ _ _ _ _ _ (by omega) cL (ptV_wf wa wD hC) hC.2.1 (by show 41 ≤ acc.2.2.1 + (1 + D.2.2.1) + m; omega) hC.1 hF2 hS2
          · have v1 : P_Sh_move (nI (n0 + acc.1 + D.1)) t_xs t_ys (hDx f p) (hDy f p) (hQ f p).1 (hQ f p).2.1 (hQ f p).2.2.1 (hQ f p).2.2.2 (nI (n0 + acc.1)) = _ := v1
            rw [v1, some_bind]
            simp only [unp, if_true]
            refine Or.inr ⟨fun R hR _ => ?_, _, rfl, rfl⟩
            obtain ⟨_, D2, w1, w2, _⟩ := cmS_some hR
            rw [k1] at w1
            cases w1
            obtain ⟨z1, z2⟩ := w2.2.2.2.2 (i - (n0 + acc.1)) (by omega)
            obtain ⟨r1, r2, _⟩ := q3 (i - (n0 + acc.1)) (by omega)
            rw [show n0 + acc.1 + (i - (n0 + acc.1)) = i by omega] at r1 r2
            rw [r1, r2] at i3
            exact i3 ⟨z1, z2⟩
        · obtain ⟨t_r, t_pts, t_con, t_prt, t_xs, t_ys, t_on, t_la, t_fl, tr1b, tr1p, tr1l, tr1w, tr2b, tr2p, tr2l, tr2w, tr3b, tr3p, tr3l, tr3w, tr4b, tr4p, tr4l, tr4w, tm1g, tm1l, tm1x, tm1y, tm1a, tm1b, tm1c, tm1d, tm2g, tm2l, tm2x, tm2y, tm2a, tm2b, tm2c, tm2d, tm3g, tm3l, tm3x, tm3y, tm3a, tm3b, tm3c, tm3d⟩ := u
          have e_r : t_r = 0 := k4
          subst e_r
          rw [k3, some_bind]
          simp only [unp, if_true]
          refine Or.inr ⟨fun R hR hRF => ?_, _, rfl, rfl⟩
          obtain ⟨_, D2, w1, w2, w3⟩ := cmS_some hR
          refine k1 D2 w1 ?_
          obtain ⟨r1, r2, r3⟩ := hRF
          have b1 : (ptV f p acc D2).1 = acc.1 + D2.1 := rfl
          have b2 : (ptV f p acc D2).2.1 = acc.2.1 + D2.2.1 := rfl
          have b3 : (ptV f p acc D2).2.2.1 = acc.2.2.1 + (1 + D2.2.2.1) := rfl
          split at w3
          · cases w3
            exact ⟨by omega, by omega, by omega⟩
          · have z1 := cmS_ge _ _ _ _ w3
            have z2 := cmS_dep _ _ _ _ w3
            exact ⟨by omega, by omega, by omega⟩
    · obtain ⟨u, r1, r2⟩ := pt_n (e := e) (G := G) (by omega) (by omega) f (show e < p + hL (hF f p) by omega) m0g m0l m0x m0y m0a m0b m0c m0d
      obtain ⟨t_r, t1, t2, t3, t4, t5, t6, t7, t8, t9, t10⟩ := u
      have r2 : t_r = 0 := r2
      subst r2
      rw [r1, some_bind]
      simp only [unp, if_true]
      refine Or.inr ⟨fun R hR _ => ?_, _, rfl, rfl⟩
      obtain ⟨⟨o1, _⟩, _⟩ := cmS_some hR
      exact cL o1
theorem glyph_f_0 {n G n0 c0 p0 g : Nat} {f gs : Nat → Int32} {bg : Nat → Nat} (H : FCtx n gs G bg) (hg : g < G) (h0 : n0 ≤ 256) (h1 : c0 ≤ 32) (h2 : p0 ≤ 40) (by_ : Nat) (xs ys on la fl : Nat → Int32) (r0b : Option Nat) (r0p : Int32) (r0l : Int32) (r0w : Int32) (r1b : Option Nat) (r1p : Int32) (r1l : Int32) (r1w : Int32) (r2b : Option Nat) (r2p : Int32) (r2l : Int32) (r2w : Int32) (r3b : Option Nat) (r3p : Int32) (r3l : Int32) (r3w : Int32) (r4b : Option Nat) (r4p : Int32) (r4l : Int32) (r4w : Int32) (m0g : Int32) (m0l : Int32) (m0x : Int32) (m0y : Int32) (m0a : Int32) (m0b : Int32) (m0c : Int32) (m0d : Int32) (m1g : Int32) (m1l : Int32) (m1x : Int32) (m1y : Int32) (m1a : Int32) (m1b : Int32) (m1c : Int32) (m1d : Int32) (m2g : Int32) (m2l : Int32) (m2x : Int32) (m2y : Int32) (m2a : Int32) (m2b : Int32) (m2c : Int32) (m2d : Int32) (m3g : Int32) (m3l : Int32) (m3x : Int32) (m3y : Int32) (m3a : Int32) (m3b : Int32) (m3c : Int32) (m3d : Int32) : (∃ D, sp f bg G 5 g = some D ∧ Fit D n0 c0 p0 ∧ ∃ u, P_Sh_addGlyph_L0 by_ (nI n0) (nI c0) (nI p0) xs ys on la fl r0b r0p r0l r0w r1b r1p r1l r1w r2b r2p r2l r2w r3b r3p r3l r3w r4b r4p r4l r4w m0g m0l m0x m0y m0a m0b m0c m0d m1g m1l m1x m1y m1a m1b m1c m1d m2g m2l m2x m2y m2a m2b m2c m2d m3g m3l m3x m3y m3a m3b m3c m3d (nI n) (nI G) f gs (nI g) = some u ∧ u.1 = 1 ∧ u.2.2.2.1 = nI (p0 + D.2.2.1) ∧ ShR D n0 c0 u.2.1 u.2.2.1 xs ys on la u.2.2.2.2.1 u.2.2.2.2.2.1 u.2.2.2.2.2.2.1 u.2.2.2.2.2.2.2.1) ∨ ((∀ D, sp f bg G 5 g = some D → ¬ Fit D n0 c0 p0) ∧ ∃ u, P_Sh_addGlyph_L0 by_ (nI n0) (nI c0) (nI p0) xs ys on la fl r0b r0p r0l r0w r1b r1p r1l r1w r2b r2p r2l r2w r3b r3p r3l r3w r4b r4p r4l r4w m0g m0l m0x m0y m0a m0b m0c m0d m1g m1l m1x m1y m1a m1b m1c m1d m2g m2l m2x m2y m2a m2b m2c m2d m3g m3l m3x m3y m3a m3b m3c m3d (nI n) (nI G) f gs (nI g) = some u ∧ u.1 = 0) := by
  obtain ⟨hn, hG, hgs, hmo, hle⟩ := id H
  have m1 := hmo g hg
  have m2 := hle (g + 1) (by omega)
  unfold P_Sh_addGlyph_L0
  rw [nI_1, bdI (by omega) (by omega), bdI (by omega) (by omega), nI_clamp (by omega), nI_clamp (by omega), hgs g (by omega), hgs (g + 1) (by omega)]
  by_cases c1 : bg g = bg (g + 1)
  · rw [if_pos (by rw [c1])]
    refine Or.inl ⟨D0, ?_, ⟨h0, h1, h2⟩, _, rfl, rfl, rfl, ShR.d0⟩
    show spG f bg G _ g = _
    unfold spG
    rw [if_pos c1]
  rw [if_neg (fun q => c1 ((nI_eq (by omega) (by omega)).mp q)), pk_sub m1, show (10 : Int32) = nI 10 from rfl]
  by_cases c2 : bg (g + 1) < bg g + 10
  · rw [if_pos (nI_lt (by omega) (by omega))]
    refine Or.inr ⟨fun D hD _ => ?_, _, rfl, rfl⟩
    have hD : spG f bg G _ g = some D := hD
    unfold spG at hD
    rw [if_neg c1, if_pos c2] at hD
    cases hD
  · rw [if_neg (nI_nlt (by omega) (by omega)), opn (by omega) m2 hn, some_bind]
    simp only [unp]
    rw [rd2 (by omega) (by omega), some_bind]
    simp only [unp]
    rw [show (8 : Int32) = nI 8 from rfl, skp (by omega) (by omega) (by omega), if_pos (by omega), some_bind]
    simp only [unp]
    rw [show bg g + 2 + 8 = bg g + 10 by omega, show (nI (W2 f (bg g))).toInt16.toInt32 = s16 (W2 f (bg g)) from rfl]
    have spx : ∀ ch, spG f bg G ch g = if s16 (W2 f (bg g)) = -1 then cmS f (bg (g + 1)) G ch 41 (bg g + 10) D0 else if s16 (W2 f (bg g)) < 0 then none else if (s16 (W2 f (bg g))).toNatClampNeg ≤ 16 then smD f (bg g + 10) (bg (g + 1)) (s16 (W2 f (bg g))).toNatClampNeg else none := by
      intro ch
      show (if _ then _ else _) = _
      rw [if_neg c1, if_neg c2]
    generalize hv : s16 (W2 f (bg g)) = v at *
    by_cases c3 : v = -1
    · rw [if_pos c3]
      rcases parts_f_0 H (hle (g + 1) (by omega)) h0 h1 h2 by_ xs ys on la 41 (bg g + 10) fuel D0 (nI n0) (nI c0) xs ys on la fl r1b r1p r1l r1w r2b r2p r2l r2w r3b r3p r3l r3w r4b r4p r4l r4w m0g m0l m0x m0y m0a m0b m0c m0d m1g m1l m1x m1y m1a m1b m1c m1d m2g m2l m2x m2y m2a m2b m2c m2d m3g m3l m3x m3y m3a m3b m3c m3d (by unfold fuel; omega) (by omega) D0_wf (by decide) (by decide) (by decide) ⟨h0, h1, h2⟩ ShR.d0 with ⟨R, q1, q2, u, q3, q4⟩ | ⟨q1, u, q3, q4⟩
      · obtain ⟨t_r, u0, u1, u2, u3, u4, u5, u6, u7, u8, u9, u10, u11, u12, u13, u14, u15, u16, u17, u18, u19, u20, u21, u22, u23, u24, u25, u26, u27, u28, u29, u30, u31, u32, u33, u34, u35, u36, u37, u38, u39, u40, u41, u42, u43, u44, u45, u46, u47, u48, u49, u50, u51, u52, u53, u54, u55, u56, u57⟩ := u
        have q3 : P_Sh_addParts_L0 by_ (nI n0) (nI c0) (nI p0) xs ys on la fl (nI (bg g + 10)) (nI (bg (g + 1))) 1 r1b r1p r1l r1w r2b r2p r2l r2w r3b r3p r3l r3w r4b r4p r4l r4w m0g m0l m0x m0y m0a m0b m0c m0d m1g m1l m1x m1y m1a m1b m1c m1d m2g m2l m2x m2y m2a m2b m2c m2d m3g m3l m3x m3y m3a m3b m3c m3d (nI n) (nI G) f gs = _ := q3
        have e_r : t_r = 1 := q4.1
        subst e_r
        rw [q3, some_bind]
        simp only [unp]
        rw [zb1]
        refine Or.inl ⟨R, ?_, q2, _, rfl, rfl, q4.2.1, q4.2.2⟩
        show spG f bg G (sp f bg G 4) g = some R
        rw [spx, if_pos c3]
        exact q1
      · obtain ⟨t_r, u0, u1, u2, u3, u4, u5, u6, u7, u8, u9, u10, u11, u12, u13, u14, u15, u16, u17, u18, u19, u20, u21, u22, u23, u24, u25, u26, u27, u28, u29, u30, u31, u32, u33, u34, u35, u36, u37, u38, u39, u40, u41, u42, u43, u44, u45, u46, u47, u48, u49, u50, u51, u52, u53, u54, u55, u56, u57⟩ := u
        have q3 : P_Sh_addParts_L0 by_ (nI n0) (nI c0) (nI p0) xs ys on la fl (nI (bg g + 10)) (nI (bg (g + 1))) 1 r1b r1p r1l r1w r2b r2p r2l r2w r3b r3p r3l r3w r4b r4p r4l r4w m0g m0l m0x m0y m0a m0b m0c m0d m1g m1l m1x m1y m1a m1b m1c m1d m2g m2l m2x m2y m2a m2b m2c m2d m3g m3l m3x m3y m3a m3b m3c m3d (nI n) (nI G) f gs = _ := q3
        have e_r : t_r = 0 := q4
        subst e_r
        rw [q3, some_bind]
        simp only [unp]
        rw [zb0]
        refine Or.inr ⟨fun D hD => ?_, _, rfl, rfl⟩
        have hD : spG f bg G (sp f bg G 4) g = some D := hD
        rw [spx, if_pos c3] at hD
        exact q1 D hD
    · rw [if_neg c3]
      by_cases c4 : v < 0
      · rw [if_pos c4]
        refine Or.inr ⟨fun D hD _ => ?_, _, rfl, rfl⟩
        have hD : spG f bg G _ g = some D := hD
        rw [spx, if_neg c3, if_pos c4] at hD
        cases hD
      · rw [if_neg c4]
        obtain ⟨k, hk, ek⟩ : ∃ k, k < 65536 ∧ v = nI k := by
          have := s16_of (v := W2 f (bg g)) (by rw [hv]; exact c4)
          rw [hv] at this
          exact this
        have spy : ∀ ch, spG f bg G ch g = if k ≤ 16 then smD f (bg g + 10) (bg (g + 1)) k else none := by
          intro ch
          rw [spx, if_neg c3, if_neg c4, ek, nI_clamp (by omega)]
        rw [ek]
        rcases simple_f (e := bg (g + 1)) (p := bg g + 10) h0 h1 (by omega) (by omega) hk f xs ys on la fl with ⟨D, d1, d2, d3, d4, xs', ys', on', la', F', q', a1, a2, a3, a4, a5⟩ | ⟨d1, u, a1, a2⟩
        · obtain ⟨e1, e2, e3, e4, e5, _⟩ := smD_E d2
          rw [a1, some_bind]
          simp only [unp]
          rw [if_neg n10]
          refine Or.inl ⟨D, ?_, ⟨d3, by rw [e2]; exact d4, by rw [e3]; exact h2⟩, _, rfl, rfl, by rw [e3]; rfl, ⟨rfl, by rw [e2], a2, fun i hi => ?_, a4, a5⟩⟩
          · show spG f bg G _ g = _
            rw [spy, if_pos d1]; exact d2
          · rw [e5]
            exact a3 i (by rw [← e2]; exact hi)
        · obtain ⟨t_r, u1, u2, u3, u4, u5, u6, u7, u8, u9⟩ := u
          have e_r : t_r = 0 := a2
          subst e_r
          rw [a1, some_bind]
          simp only [unp, if_true]
          refine Or.inr ⟨fun D hD hFt => d1 ?_, _, rfl, rfl⟩
          have hD : spG f bg G _ g = some D := hD
          rw [spy] at hD
          by_cases c5 : k ≤ 16
          · rw [if_pos c5] at hD
            obtain ⟨e1, e2, e3, e4, e5, _⟩ := smD_E hD
            have := hFt.2.1
            rw [e2] at this
            exact ⟨c5, this, D, hD, hFt.1⟩
          · rw [if_neg c5] at hD; cases hD
