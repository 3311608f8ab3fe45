/-! PURE ROWS: takesShape, look, point with a font (printed by wip/whole/gen/lookpt.py) -/
def AllD (f : Nat → Int32) (bg : Nat → Nat) (G : Nat) (S : MSt) : Prop := ∀ j, j < G → ∃ D, sp f bg G 5 j = some D ∧ MemS D j S
theorem i1_0 : ¬ (1 : Int32) = 0 := by decide
theorem is_0 {G : Nat} {a : Int32} (h : a < 0 ∨ nI G ≤ a) : P_Mo_is (nI G) a = some 0 := by
  unfold P_Mo_is
  by_cases q : a < 0
  · exact if_pos q
  · rw [if_neg q, if_pos (h.resolve_left q)]
theorem is_1 {G g : Nat} (h : g < G) (hG : G ≤ 64) : P_Mo_is (nI G) (nI g) = some 1 := by
  unfold P_Mo_is
  rw [if_neg (nI_pos (by omega)), if_neg (nI_ge h (by omega))]
theorem takes_f {n G : Nat} {f gs : Nat → Int32} {bg : Nat → Nat} {S : MSt} (H : FCtx n gs G bg) (hS : AllD f bg G S) (by_ : Nat) (pts : Int32) (con : Int32) (prt : Int32) (xs : Nat → Int32) (ys : Nat → Int32) (on : Nat → Int32) (la : Nat → Int32) (fl : Nat → Int32) (r0b : Option Nat) (r0p : Int32) (r0l : Int32) (r0w : Int32) (r1b : Option Nat) (r1p : Int32) (r1l : Int32) (r1w : Int32) (r2b : Option Nat) (r2p : Int32) (r2l : Int32) (r2w : Int32) (r3b : Option Nat) (r3p : Int32) (r3l : Int32) (r3w : Int32) (r4b : Option Nat) (r4p : Int32) (r4l : Int32) (r4w : Int32) (m0g : Int32) (m0l : Int32) (m0x : Int32) (m0y : Int32) (m0a : Int32) (m0b : Int32) (m0c : Int32) (m0d : Int32) (m1g : Int32) (m1l : Int32) (m1x : Int32) (m1y : Int32) (m1a : Int32) (m1b : Int32) (m1c : Int32) (m1d : Int32) (m2g : Int32) (m2l : Int32) (m2x : Int32) (m2y : Int32) (m2a : Int32) (m2b : Int32) (m2c : Int32) (m2d : Int32) (m3g : Int32) (m3l : Int32) (m3x : Int32) (m3y : Int32) (m3a : Int32) (m3b : Int32) (m3c : Int32) (m3d : Int32) (a1 : Int32) : (∃ u, P_Gp_takesShape by_ (nI n) (nI G) f gs pts con prt xs ys on la fl r0b r0p r0l r0w r1b r1p r1l r1w r2b r2p r2l r2w r3b r3p r3l r3w r4b r4p r4l r4w m0g m0l m0x m0y m0a m0b m0c m0d m1g m1l m1x m1y m1a m1b m1c m1d m2g m2l m2x m2y m2a m2b m2c m2d m3g m3l m3x m3y m3a m3b m3c m3d a1 = some u ∧ u.1 = 0 ∧ (a1 < 0 ∨ nI G ≤ a1)) ∨ (∃ g, g < G ∧ a1 = nI g ∧ ∃ u D, P_Gp_takesShape by_ (nI n) (nI G) f gs pts con prt xs ys on la fl r0b r0p r0l r0w r1b r1p r1l r1w r2b r2p r2l r2w r3b r3p r3l r3w r4b r4p r4l r4w m0g m0l m0x m0y m0a m0b m0c m0d m1g m1l m1x m1y m1a m1b m1c m1d m2g m2l m2x m2y m2a m2b m2c m2d m3g m3l m3x m3y m3a m3b m3c m3d a1 = some u ∧ u.1 = 1 ∧ sp f bg G 5 g = some D ∧ MemS D g S ∧ ShU D (u.2.1, u.2.2.1, u.2.2.2.2.1, u.2.2.2.2.2.1, u.2.2.2.2.2.2.1, u.2.2.2.2.2.2.2.1)) := by
  have hG := H.2.1
  unfold P_Gp_takesShape
  by_cases q1 : a1 < 0
  · rw [if_pos q1]; exact Or.inl ⟨_, rfl, rfl, Or.inl q1⟩
  rw [if_neg q1]
  by_cases q2 : nI G ≤ a1
  · rw [if_pos q2]; exact Or.inl ⟨_, rfl, rfl, Or.inr q2⟩
  rw [if_neg q2]
  obtain ⟨g, hg, rfl⟩ := nI_of q1
  have hgG : g < G := by
    rcases Nat.lt_or_ge g G with w | w
    · exact w
    · exact absurd (nI_le w hg) q2
  obtain ⟨D, k0, km⟩ := hS g hgG
  rcases asm_f (f := f) H hgG by_ pts con prt xs ys on la fl r0b r0p r0l r0w r1b r1p r1l r1w r2b r2p r2l r2w r3b r3p r3l r3w r4b r4p r4l r4w m0g m0l m0x m0y m0a m0b m0c m0d m1g m1l m1x m1y m1a m1b m1c m1d m2g m2l m2x m2y m2a m2b m2c m2d m3g m3l m3x m3y m3a m3b m3c m3d with ⟨D', k1, u, k3, k4, k5⟩ | ⟨k1, _⟩
  · rw [k0] at k1
    cases k1
    obtain ⟨t_r, tpts, tcon, tprt, txs, tys, ton, tla, tfl, tr0b, tr0p, tr0l, tr0w, tr1b, tr1p, tr1l, tr1w, tr2b, tr2p, tr2l, tr2w, tr3b, tr3p, tr3l, tr3w, tr4b, tr4p, tr4l, tr4w, tm0g, tm0l, tm0x, tm0y, tm0a, tm0b, tm0c, tm0d, tm1g, tm1l, tm1x, tm1y, tm1a, tm1b, tm1c, tm1d, tm2g, tm2l, tm2x, tm2y, tm2a, tm2b, tm2c, tm2d, tm3g, tm3l, tm3x, tm3y, tm3a, tm3b, tm3c, tm3d⟩ := u
    have e_r : t_r = 1 := k4
    subst e_r
    rw [k3, some_bind]
    simp only [unp]
    rw [if_neg i1_0]
    exact Or.inr ⟨g, hgG, rfl, _, D, rfl, rfl, k0, km, k5⟩
  · rw [k0] at k1; cases k1
theorem co_f {D : Dat} (hW : WfD D) {la : Nat → Int32} (hl : ∀ i, i < D.2.1 → la i = nI (D.2.2.2.2.2.2.2 i)) {k : Nat} (hk : k < D.1) : ∀ (d i m : Nat), i + d = D.2.1 → d < m → (1 ≤ i → D.2.2.2.2.2.2.2 (i - 1) < k) → ∃ c, lp (L_Sh_contourOf_2 (nI D.2.1) la) m (nI k, nI i) = some (nI c) ∧ c < D.2.1 ∧ (1 ≤ c → D.2.2.2.2.2.2.2 (c - 1) < k) ∧ k ≤ D.2.2.2.2.2.2.2 c := by
  obtain ⟨w1, w2, _, w4, w5, w6⟩ := hW
  intro d
  induction d with
  | zero =>
    intro i m hi hm h1
    exfalso
    rcases Nat.eq_zero_or_pos D.2.1 with z | z
    · have := w5 z; omega
    · have := w6 z
      have := h1 (by omega)
      rw [show i = D.2.1 by omega] at this
      omega
  | succ d ih =>
    intro i m hi hm h1
    obtain ⟨m, rfl⟩ := suc_of hm
    have hi' : i < D.2.1 := by omega
    have hlt := (w4 i hi').1
    rw [e_Sh_contourOf_2]
    unfold P_Sh_contourOf_2b
    rw [if_neg (nI_ge hi' (by omega)), bdI (show i < 32 by omega) (by omega), nI_clamp (by omega), hl i hi']
    by_cases q : D.2.2.2.2.2.2.2 i < k
    · rw [if_pos (nI_lt q (by omega)), nI_1]
      exact ih (i + 1) m (by omega) (by omega) (fun _ => q)
    · rw [if_neg (nI_nlt (by omega) (by omega))]
      exact ⟨i, rfl, hi', h1, by omega⟩
theorem look_f {n G M s4 z4 : Nat} {f gs g a st : Nat → Int32} {bg : Nat → Nat} {S : MSt} (hn : n ≤ 4096) (hg : Agr n f g) (H : FCtx n gs G bg) (hS : AllD f bg G S) (hM : 1 ≤ M ∧ M ≤ G) (e4 : st 4 = nI s4) (e4' : a 4 = nI s4) (hz : s4 + z4 ≤ n) (h4 : 4 * M ≤ z4) (by_ : Nat) (pts : Int32) (con : Int32) (prt : Int32) (xs : Nat → Int32) (ys : Nat → Int32) (on : Nat → Int32) (la : Nat → Int32) (fl : Nat → Int32) (r0b : Option Nat) (r0p : Int32) (r0l : Int32) (r0w : Int32) (r1b : Option Nat) (r1p : Int32) (r1l : Int32) (r1w : Int32) (r2b : Option Nat) (r2p : Int32) (r2l : Int32) (r2w : Int32) (r3b : Option Nat) (r3p : Int32) (r3l : Int32) (r3w : Int32) (r4b : Option Nat) (r4p : Int32) (r4l : Int32) (r4w : Int32) (m0g : Int32) (m0l : Int32) (m0x : Int32) (m0y : Int32) (m0a : Int32) (m0b : Int32) (m0c : Int32) (m0d : Int32) (m1g : Int32) (m1l : Int32) (m1x : Int32) (m1y : Int32) (m1a : Int32) (m1b : Int32) (m1c : Int32) (m1d : Int32) (m2g : Int32) (m2l : Int32) (m2x : Int32) (m2y : Int32) (m2a : Int32) (m2b : Int32) (m2c : Int32) (m2d : Int32) (m3g : Int32) (m3l : Int32) (m3x : Int32) (m3y : Int32) (m3a : Int32) (m3b : Int32) (m3c : Int32) (m3d : Int32) (a1 a2 : Int32) : ∃ u, P_Gp_look by_ (nI n) (nI G) (nI M) f st gs pts con prt xs ys on la fl r0b r0p r0l r0w r1b r1p r1l r1w r2b r2p r2l r2w r3b r3p r3l r3w r4b r4p r4l r4w m0g m0l m0x m0y m0a m0b m0c m0d m1g m1l m1x m1y m1a m1b m1c m1d m2g m2l m2x m2y m2a m2b m2c m2d m3g m3l m3x m3y m3a m3b m3c m3d a1 a2 = some u ∧ P_Mo_look (nI G) (nI M) g a S.2.2.1 S.2.2.2.1 a1 a2 = some u.1 := by
  have hG := H.2.1
  unfold P_Gp_look P_Mo_look
  by_cases q1 : a2 < 0
  · rw [if_pos q1, if_pos q1]; exact ⟨_, rfl, rfl⟩
  rw [if_neg q1, if_neg q1]
  by_cases q2 : a2 ≤ (2 : Int32)
  · rw [if_pos q2, if_pos q2]
    rcases takes_f H hS by_ pts con prt xs ys on la fl r0b r0p r0l r0w r1b r1p r1l r1w r2b r2p r2l r2w r3b r3p r3l r3w r4b r4p r4l r4w m0g m0l m0x m0y m0a m0b m0c m0d m1g m1l m1x m1y m1a m1b m1c m1d m2g m2l m2x m2y m2a m2b m2c m2d m3g m3l m3x m3y m3a m3b m3c m3d a1 with ⟨u, k1, k2, k3⟩ | ⟨j, hj, rfl, u, D, k1, k2, k3, k4, k5⟩
    · obtain ⟨t_r, tpts, tcon, tprt, txs, tys, ton, tla, tfl, tr0b, tr0p, tr0l, tr0w, tr1b, tr1p, tr1l, tr1w, tr2b, tr2p, tr2l, tr2w, tr3b, tr3p, tr3l, tr3w, tr4b, tr4p, tr4l, tr4w, tm0g, tm0l, tm0x, tm0y, tm0a, tm0b, tm0c, tm0d, tm1g, tm1l, tm1x, tm1y, tm1a, tm1b, tm1c, tm1d, tm2g, tm2l, tm2x, tm2y, tm2a, tm2b, tm2c, tm2d, tm3g, tm3l, tm3x, tm3y, tm3a, tm3b, tm3c, tm3d⟩ := u
      have e_r : t_r = 0 := k2
      subst e_r
      rw [k1, some_bind, is_0 k3, some_bind]
      simp only [unp]
      rw [if_pos trivial, if_pos trivial]
      exact ⟨_, rfl, rfl⟩
    · obtain ⟨t_r, tpts, tcon, tprt, txs, tys, ton, tla, tfl, tr0b, tr0p, tr0l, tr0w, tr1b, tr1p, tr1l, tr1w, tr2b, tr2p, tr2l, tr2w, tr3b, tr3p, tr3l, tr3w, tr4b, tr4p, tr4l, tr4w, tm0g, tm0l, tm0x, tm0y, tm0a, tm0b, tm0c, tm0d, tm1g, tm1l, tm1x, tm1y, tm1a, tm1b, tm1c, tm1d, tm2g, tm2l, tm2x, tm2y, tm2a, tm2b, tm2c, tm2d, tm3g, tm3l, tm3x, tm3y, tm3a, tm3b, tm3c, tm3d⟩ := u
      have e_r : t_r = 1 := k2
      subst e_r
      rw [k1, some_bind, is_1 hj hG, some_bind]
      simp only [unp]
      rw [if_neg i1_0, if_neg i1_0]
      by_cases q3 : a2 = 0
      · rw [if_pos q3, if_pos q3, adv_f hn f e4 (by omega) ⟨hM.1, by omega⟩ (show j < 2 ^ 20 by omega), adv_m hn hg e4' hz ⟨hM.1, by omega⟩ h4 (show j < 2 ^ 20 by omega), some_bind, some_bind]
        exact ⟨_, rfl, rfl⟩
      rw [if_neg q3, if_neg q3]
      rw [bdI (show j < 64 by omega) (by omega), bdI (show j < 64 by omega) (by omega), nI_clamp (by omega)]
      by_cases q4 : a2 = (1 : Int32)
      · rw [if_pos q4, if_pos q4]
        exact ⟨_, rfl, congrArg some (k4.1.1.trans (show nI D.2.1 = tcon from k5.2.1.symm))⟩
      · rw [if_neg q4, if_neg q4]
        exact ⟨_, rfl, congrArg some (k4.1.2.1.trans (show nI D.1 = tpts from k5.1.symm))⟩
  · rw [if_neg q2, if_neg q2]; exact ⟨_, rfl, rfl⟩
theorem point_f {n G : Nat} {f gs : Nat → Int32} {bg : Nat → Nat} {S : MSt} (H : FCtx n gs G bg) (hS : AllD f bg G S) (by_ : Nat) (pts : Int32) (con : Int32) (prt : Int32) (xs : Nat → Int32) (ys : Nat → Int32) (on : Nat → Int32) (la : Nat → Int32) (fl : Nat → Int32) (r0b : Option Nat) (r0p : Int32) (r0l : Int32) (r0w : Int32) (r1b : Option Nat) (r1p : Int32) (r1l : Int32) (r1w : Int32) (r2b : Option Nat) (r2p : Int32) (r2l : Int32) (r2w : Int32) (r3b : Option Nat) (r3p : Int32) (r3l : Int32) (r3w : Int32) (r4b : Option Nat) (r4p : Int32) (r4l : Int32) (r4w : Int32) (m0g : Int32) (m0l : Int32) (m0x : Int32) (m0y : Int32) (m0a : Int32) (m0b : Int32) (m0c : Int32) (m0d : Int32) (m1g : Int32) (m1l : Int32) (m1x : Int32) (m1y : Int32) (m1a : Int32) (m1b : Int32) (m1c : Int32) (m1d : Int32) (m2g : Int32) (m2l : Int32) (m2x : Int32) (m2y : Int32) (m2a : Int32) (m2b : Int32) (m2c : Int32) (m2d : Int32) (m3g : Int32) (m3l : Int32) (m3x : Int32) (m3y : Int32) (m3a : Int32) (m3b : Int32) (m3c : Int32) (m3d : Int32) (a1 a2 a3 : Int32) : ∃ u, P_Gp_point by_ (nI n) (nI G) f gs pts con prt xs ys on la fl r0b r0p r0l r0w r1b r1p r1l r1w r2b r2p r2l r2w r3b r3p r3l r3w r4b r4p r4l r4w m0g m0l m0x m0y m0a m0b m0c m0d m1g m1l m1x m1y m1a m1b m1c m1d m2g m2l m2x m2y m2a m2b m2c m2d m3g m3l m3x m3y m3a m3b m3c m3d a1 a2 a3 = some u ∧ P_Mo_point (nI G) S.2.2.2.1 S.2.2.2.2.1 S.2.2.2.2.2.1 S.2.2.2.2.2.2.1 S.2.2.2.2.2.2.2 a1 a2 a3 = some u.1 := by
  have hG := H.2.1
  unfold P_Gp_point P_Mo_point
  by_cases q1 : a3 < 0
  · rw [if_pos q1, if_pos q1]; exact ⟨_, rfl, rfl⟩
  rw [if_neg q1, if_neg q1]
  by_cases q2 : a3 ≤ (3 : Int32)
  · rw [if_pos q2, if_pos q2]
    rcases takes_f H hS by_ pts con prt xs ys on la fl r0b r0p r0l r0w r1b r1p r1l r1w r2b r2p r2l r2w r3b r3p r3l r3w r4b r4p r4l r4w m0g m0l m0x m0y m0a m0b m0c m0d m1g m1l m1x m1y m1a m1b m1c m1d m2g m2l m2x m2y m2a m2b m2c m2d m3g m3l m3x m3y m3a m3b m3c m3d a1 with ⟨u, k1, k2, k3⟩ | ⟨j, hj, rfl, u, D, k1, k2, k3, k4, k5⟩
    · obtain ⟨t_r, tpts, tcon, tprt, txs, tys, ton, tla, tfl, tr0b, tr0p, tr0l, tr0w, tr1b, tr1p, tr1l, tr1w, tr2b, tr2p, tr2l, tr2w, tr3b, tr3p, tr3l, tr3w, tr4b, tr4p, tr4l, tr4w, tm0g, tm0l, tm0x, tm0y, tm0a, tm0b, tm0c, tm0d, tm1g, tm1l, tm1x, tm1y, tm1a, tm1b, tm1c, tm1d, tm2g, tm2l, tm2x, tm2y, tm2a, tm2b, tm2c, tm2d, tm3g, tm3l, tm3x, tm3y, tm3a, tm3b, tm3c, tm3d⟩ := u
      have e_r : t_r = 0 := k2
      subst e_r
      rw [k1, some_bind, is_0 k3, some_bind]
      simp only [unp]
      rw [if_pos trivial, if_pos trivial]
      exact ⟨_, rfl, rfl⟩
    · obtain ⟨t_r, tpts, tcon, tprt, txs, tys, ton, tla, tfl, tr0b, tr0p, tr0l, tr0w, tr1b, tr1p, tr1l, tr1w, tr2b, tr2p, tr2l, tr2w, tr3b, tr3p, tr3l, tr3w, tr4b, tr4p, tr4l, tr4w, tm0g, tm0l, tm0x, tm0y, tm0a, tm0b, tm0c, tm0d, tm1g, tm1l, tm1x, tm1y, tm1a, tm1b, tm1c, tm1d, tm2g, tm2l, tm2x, tm2y, tm2a, tm2b, tm2c, tm2d, tm3g, tm3l, tm3x, tm3y, tm3a, tm3b, tm3c, tm3d⟩ := u
      have e_r : t_r = 1 := k2
      subst e_r
      rw [k1, some_bind, is_1 hj hG, some_bind]
      simp only [unp]
      rw [if_neg i1_0, if_neg i1_0]
      by_cases q3 : a2 < 0
      · rw [if_pos q3, if_pos q3]; exact ⟨_, rfl, rfl⟩
      rw [if_neg q3, if_neg q3, bdI (show j < 64 by omega) (by omega), nI_clamp (show j < 2 ^ 31 by omega), k4.1.2.1]
      have kp : tpts = nI D.1 := k5.1
      have kc : tcon = nI D.2.1 := k5.2.1
      have kl : ∀ i, i < D.2.1 → tla i = nI (D.2.2.2.2.2.2.2 i) := k5.2.2.2
      rw [kp]
      by_cases q4 : ¬ (a2 < nI D.1)
      · rw [if_neg q4, if_neg q4]; exact ⟨_, rfl, rfl⟩
      replace q4 := Decidable.of_not_not q4
      rw [if_pos q4, if_pos q4]
      obtain ⟨k, hk, rfl⟩ := nI_of q3
      have hW := sp_wf _ _ _ k3
      have hkD : k < D.1 := (nI_ltI hk (by have := hW.1; omega)).mp q4
      have hD := hW.1
      rw [show (256 : Int32) * nI j = nI (256 * j) from pk_mul 256 j, nI_add]
      simp only [bdI (show k < 256 by omega) (show 256 < 2 ^ 31 by omega), bdI (show 256 * j + k < 16384 by omega) (show 16384 < 2 ^ 31 by omega), nI_clamp hk, nI_clamp (show 256 * j + k < 2 ^ 31 by omega)]
      obtain ⟨v1, v2, v3⟩ := k4.1.2.2.1 k hkD
      obtain ⟨y1, y2, y3⟩ := k5.2.2.1 k hkD
      rw [Nat.zero_add] at y1 y2 y3
      have y1 : txs k = _ := y1
      have y2 : tys k = _ := y2
      have y3 : ton k = _ := y3
      by_cases q5 : a3 = 0
      · rw [if_pos q5, if_pos q5]
        exact ⟨_, rfl, congrArg some (v1.trans y1.symm)⟩
      rw [if_neg q5, if_neg q5]
      by_cases q6 : a3 = (1 : Int32)
      · rw [if_pos q6, if_pos q6]
        exact ⟨_, rfl, congrArg some (v2.trans y2.symm)⟩
      rw [if_neg q6, if_neg q6]
      by_cases q7 : a3 = (2 : Int32)
      · rw [if_pos q7, if_pos q7, v3, y3]
        by_cases q8 : D.2.2.2.2.2.2.1 k = 0
        · rw [if_pos q8, if_pos q8]; exact ⟨_, rfl, rfl⟩
        · rw [if_neg q8, if_neg q8]; exact ⟨_, rfl, rfl⟩
      rw [if_neg q7, if_neg q7]
      obtain ⟨c, c1, c2, c3, c4⟩ := co_f hW kl hkD D.2.1 0 fuel (by omega) (by unfold fuel; have := hW.2.1; omega) (fun q => absurd q (by omega))
      have e : P_Sh_contourOf tcon tla (nI k) = some (nI c) := by rw [kc]; exact c1
      rw [e, some_bind]
      refine ⟨_, rfl, congrArg some ?_⟩
      have := k4.1.2.2.2 c c2 k c3 c4
      rw [Nat.zero_add] at this
      exact this
  · rw [if_neg q2, if_neg q2]; exact ⟨_, rfl, rfl⟩
theorem stepF_look (X : LInv) : StepF_look X InvF := by
  intro j iv jv av lw ov nv ad a1 a2 a3 a4 a5 hj hI
  obtain ⟨n, en, U, G, F, M, C, B, D, s4, z4, s5, s1, ⟨hn, hg⟩, _, ⟨g1, g2, g3, g4⟩, _, _, ⟨m1, m2, m3, m4⟩, _, ⟨⟨t5, t1, t2, t3, t4⟩, h4, _⟩, _, hF, hS⟩ := hI.2.2.2.2
  obtain ⟨u, p1, p2⟩ := look_f hn hg hF hS ⟨m1, m2⟩ t1 t3 t5 h4 (ad 43) (iv 4) (iv 5) (iv 6) (av 1) (av 2) (av 3) (av 4) (av 5) (ov 0) (iv 7) (iv 8) (iv 9) (ov 1) (iv 10) (iv 11) (iv 12) (ov 2) (iv 13) (iv 14) (iv 15) (ov 3) (iv 16) (iv 17) (iv 18) (ov 4) (iv 19) (iv 20) (iv 21) (iv 22) (iv 23) (iv 24) (iv 25) (iv 26) (iv 27) (iv 28) (iv 29) (iv 30) (iv 31) (iv 32) (iv 33) (iv 34) (iv 35) (iv 36) (iv 37) (iv 38) (iv 39) (iv 40) (iv 41) (iv 42) (iv 43) (iv 44) (iv 45) (iv 46) (iv 47) (iv 48) (iv 49) (iv 50) (iv 51) (iv 52) (iv 53) a1 a2
  obtain ⟨r, tpts, tcon, tprt, txs, tys, ton, tla, tfl, tr0b, tr0p, tr0l, tr0w, tr1b, tr1p, tr1l, tr1w, tr2b, tr2p, tr2l, tr2w, tr3b, tr3p, tr3l, tr3w, tr4b, tr4p, tr4l, tr4w, tm0g, tm0l, tm0x, tm0y, tm0a, tm0b, tm0c, tm0d, tm1g, tm1l, tm1x, tm1y, tm1a, tm1b, tm1c, tm1d, tm2g, tm2l, tm2x, tm2y, tm2a, tm2b, tm2c, tm2d, tm3g, tm3l, tm3x, tm3y, tm3a, tm3b, tm3c, tm3d⟩ := u
  refine ⟨r, tpts, tcon, tprt, txs, tys, ton, tla, tfl, tr0b, tr0p, tr0l, tr0w, tr1b, tr1p, tr1l, tr1w, tr2b, tr2p, tr2l, tr2w, tr3b, tr3p, tr3l, tr3w, tr4b, tr4p, tr4l, tr4w, tm0g, tm0l, tm0x, tm0y, tm0a, tm0b, tm0c, tm0d, tm1g, tm1l, tm1x, tm1y, tm1a, tm1b, tm1c, tm1d, tm2g, tm2l, tm2x, tm2y, tm2a, tm2b, tm2c, tm2d, tm3g, tm3l, tm3x, tm3y, tm3a, tm3b, tm3c, tm3d, ?_, ?_, hI⟩
  · rw [en, g3, m3]; exact p1
  · rw [g4, m4]; exact p2
theorem stepF_point (X : LInv) : StepF_point X InvF := by
  intro j iv jv av lw ov nv ad a1 a2 a3 a4 a5 hj hI
  obtain ⟨n, en, U, G, F, M, C, B, D, s4, z4, s5, s1, ⟨hn, hg⟩, _, ⟨g1, g2, g3, g4⟩, _, _, _, _, _, _, hF, hS⟩ := hI.2.2.2.2
  obtain ⟨u, p1, p2⟩ := point_f hF hS (ad 43) (iv 4) (iv 5) (iv 6) (av 1) (av 2) (av 3) (av 4) (av 5) (ov 0) (iv 7) (iv 8) (iv 9) (ov 1) (iv 10) (iv 11) (iv 12) (ov 2) (iv 13) (iv 14) (iv 15) (ov 3) (iv 16) (iv 17) (iv 18) (ov 4) (iv 19) (iv 20) (iv 21) (iv 22) (iv 23) (iv 24) (iv 25) (iv 26) (iv 27) (iv 28) (iv 29) (iv 30) (iv 31) (iv 32) (iv 33) (iv 34) (iv 35) (iv 36) (iv 37) (iv 38) (iv 39) (iv 40) (iv 41) (iv 42) (iv 43) (iv 44) (iv 45) (iv 46) (iv 47) (iv 48) (iv 49) (iv 50) (iv 51) (iv 52) (iv 53) a1 a2 a3
  obtain ⟨r, tpts, tcon, tprt, txs, tys, ton, tla, tfl, tr0b, tr0p, tr0l, tr0w, tr1b, tr1p, tr1l, tr1w, tr2b, tr2p, tr2l, tr2w, tr3b, tr3p, tr3l, tr3w, tr4b, tr4p, tr4l, tr4w, tm0g, tm0l, tm0x, tm0y, tm0a, tm0b, tm0c, tm0d, tm1g, tm1l, tm1x, tm1y, tm1a, tm1b, tm1c, tm1d, tm2g, tm2l, tm2x, tm2y, tm2a, tm2b, tm2c, tm2d, tm3g, tm3l, tm3x, tm3y, tm3a, tm3b, tm3c, tm3d⟩ := u
  refine ⟨r, tpts, tcon, tprt, txs, tys, ton, tla, tfl, tr0b, tr0p, tr0l, tr0w, tr1b, tr1p, tr1l, tr1w, tr2b, tr2p, tr2l, tr2w, tr3b, tr3p, tr3l, tr3w, tr4b, tr4p, tr4l, tr4w, tm0g, tm0l, tm0x, tm0y, tm0a, tm0b, tm0c, tm0d, tm1g, tm1l, tm1x, tm1y, tm1a, tm1b, tm1c, tm1d, tm2g, tm2l, tm2x, tm2y, tm2a, tm2b, tm2c, tm2d, tm3g, tm3l, tm3x, tm3y, tm3a, tm3b, tm3c, tm3d, ?_, ?_, hI⟩
  · rw [en, g3]; exact p1
  · rw [g4]; exact p2
