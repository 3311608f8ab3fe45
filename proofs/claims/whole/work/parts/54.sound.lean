/-! PURE ROWS: a glyph put together, rule 8 in the class (printed by wip/whole/gen/glyfs.py) -/
def ShU (D : Dat) (u : Int32 × Int32 × (Nat → Int32) × (Nat → Int32) × (Nat → Int32) × (Nat → Int32)) : Prop := u.1 = nI D.1 ∧ u.2.1 = nI D.2.1 ∧ ShD D 0 u.2.2.1 u.2.2.2.1 u.2.2.2.2.1 ∧ ∀ i, i < D.2.1 → u.2.2.2.2.2 i = nI (D.2.2.2.2.2.2.2 i)
theorem asm_f {n G g : Nat} {f gs : Nat → Int32} {bg : Nat → Nat} (H : FCtx n gs G bg) (hg : g < G) (by_ : Nat) (pts : Int32) (con : Int32) (prt : Int32) (xs : Nat → Int32) (ys : Nat → Int32) (on : Nat → Int32) (la : Nat → Int32) (fl : Nat → Int32) (r0b : Option Nat) (r0p : Int32) (r0l : Int32) (r0w : Int32) (r1b : Option Nat) (r1p : Int32) (r1l : Int32) (r1w : Int32) (r2b : Option Nat) (r2p : Int32) (r2l : Int32) (r2w : Int32) (r3b : Option Nat) (r3p : Int32) (r3l : Int32) (r3w : Int32) (r4b : Option Nat) (r4p : Int32) (r4l : Int32) (r4w : Int32) (m0g : Int32) (m0l : Int32) (m0x : Int32) (m0y : Int32) (m0a : Int32) (m0b : Int32) (m0c : Int32) (m0d : Int32) (m1g : Int32) (m1l : Int32) (m1x : Int32) (m1y : Int32) (m1a : Int32) (m1b : Int32) (m1c : Int32) (m1d : Int32) (m2g : Int32) (m2l : Int32) (m2x : Int32) (m2y : Int32) (m2a : Int32) (m2b : Int32) (m2c : Int32) (m2d : Int32) (m3g : Int32) (m3l : Int32) (m3x : Int32) (m3y : Int32) (m3a : Int32) (m3b : Int32) (m3c : Int32) (m3d : Int32) : (∃ D, sp f bg G 5 g = some D ∧ ∃ u, P_Sh_assemble by_ pts con prt xs ys on la fl r0b r0p r0l r0w r1b r1p r1l r1w r2b r2p r2l r2w r3b r3p r3l r3w r4b r4p r4l r4w m0g m0l m0x m0y m0a m0b m0c m0d m1g m1l m1x m1y m1a m1b m1c m1d m2g m2l m2x m2y m2a m2b m2c m2d m3g m3l m3x m3y m3a m3b m3c m3d (nI n) (nI G) f gs (nI g) = some u ∧ u.1 = 1 ∧ ShU D (u.2.1, u.2.2.1, u.2.2.2.2.1, u.2.2.2.2.2.1, u.2.2.2.2.2.2.1, u.2.2.2.2.2.2.2.1)) ∨ (sp f bg G 5 g = none ∧ ∃ u, P_Sh_assemble by_ pts con prt xs ys on la fl r0b r0p r0l r0w r1b r1p r1l r1w r2b r2p r2l r2w r3b r3p r3l r3w r4b r4p r4l r4w m0g m0l m0x m0y m0a m0b m0c m0d m1g m1l m1x m1y m1a m1b m1c m1d m2g m2l m2x m2y m2a m2b m2c m2d m3g m3l m3x m3y m3a m3b m3c m3d (nI n) (nI G) f gs (nI g) = some u ∧ u.1 = 0) := by
  unfold P_Sh_assemble
  rcases glyph_f_0 (n0 := 0) (c0 := 0) (p0 := 0) H hg (by omega) (by omega) (by omega) by_ xs ys on la fl r0b r0p r0l r0w r1b r1p r1l r1w r2b r2p r2l r2w r3b r3p r3l r3w r4b r4p r4l r4w m0g m0l m0x m0y m0a m0b m0c m0d m1g m1l m1x m1y m1a m1b m1c m1d m2g m2l m2x m2y m2a m2b m2c m2d m3g m3l m3x m3y m3a m3b m3c m3d with ⟨D, k1, k2, u, k3, k4⟩ | ⟨k1, u, k3, k4⟩
  · obtain ⟨t_r, tpts, tcon, tprt, txs, tys, ton, tla, tfl, tr0b, tr0p, tr0l, tr0w, tr1b, tr1p, tr1l, tr1w, tr2b, tr2p, tr2l, tr2w, tr3b, tr3p, tr3l, tr3w, tr4b, tr4p, tr4l, tr4w, tm0g, tm0l, tm0x, tm0y, tm0a, tm0b, tm0c, tm0d, tm1g, tm1l, tm1x, tm1y, tm1a, tm1b, tm1c, tm1d, tm2g, tm2l, tm2x, tm2y, tm2a, tm2b, tm2c, tm2d, tm3g, tm3l, tm3x, tm3y, tm3a, tm3b, tm3c, tm3d⟩ := u
    have e_r : t_r = 1 := k4.1
    subst e_r
    have k3 : P_Sh_addGlyph_L0 by_ (0 : Int32) (0 : Int32) (0 : Int32) xs ys on la fl r0b r0p r0l r0w r1b r1p r1l r1w r2b r2p r2l r2w r3b r3p r3l r3w r4b r4p r4l r4w m0g m0l m0x m0y m0a m0b m0c m0d m1g m1l m1x m1y m1a m1b m1c m1d m2g m2l m2x m2y m2a m2b m2c m2d m3g m3l m3x m3y m3a m3b m3c m3d (nI n) (nI G) f gs (nI g) = _ := k3
    rw [k3, some_bind]
    simp only [unp]
    rw [zb1]
    obtain ⟨_, _, q1, q2, q3, q4, _, _⟩ := k4
    refine Or.inl ⟨D, k1, _, rfl, rfl, ?_, ?_, q3, fun i hi => ?_⟩
    · have q1 : tpts = nI (0 + D.1) := q1
      rw [Nat.zero_add] at q1
      exact q1
    · have q2 : tcon = nI (0 + D.2.1) := q2
      rw [Nat.zero_add] at q2
      exact q2
    · have := q4 i hi
      rw [Nat.zero_add, Nat.zero_add] at this
      exact this
  · obtain ⟨t_r, tpts, tcon, tprt, txs, tys, ton, tla, tfl, tr0b, tr0p, tr0l, tr0w, tr1b, tr1p, tr1l, tr1w, tr2b, tr2p, tr2l, tr2w, tr3b, tr3p, tr3l, tr3w, tr4b, tr4p, tr4l, tr4w, tm0g, tm0l, tm0x, tm0y, tm0a, tm0b, tm0c, tm0d, tm1g, tm1l, tm1x, tm1y, tm1a, tm1b, tm1c, tm1d, tm2g, tm2l, tm2x, tm2y, tm2a, tm2b, tm2c, tm2d, tm3g, tm3l, tm3x, tm3y, tm3a, tm3b, tm3c, tm3d⟩ := u
    have e_r : t_r = 0 := k4
    subst e_r
    have k3 : P_Sh_addGlyph_L0 by_ (0 : Int32) (0 : Int32) (0 : Int32) xs ys on la fl r0b r0p r0l r0w r1b r1p r1l r1w r2b r2p r2l r2w r3b r3p r3l r3w r4b r4p r4l r4w m0g m0l m0x m0y m0a m0b m0c m0d m1g m1l m1x m1y m1a m1b m1c m1d m2g m2l m2x m2y m2a m2b m2c m2d m3g m3l m3x m3y m3a m3b m3c m3d (nI n) (nI G) f gs (nI g) = _ := k3
    rw [k3, some_bind]
    simp only [unp]
    rw [zb0]
    refine Or.inr ⟨?_, _, rfl, rfl⟩
    cases h : sp f bg G 5 g with
    | none => rfl
    | some D =>
      have w := sp_wf _ _ _ h
      have b := sp_dep _ _ _ h
      exact absurd ⟨by have := w.1; omega, by have := w.2.1; omega, by have := b.2.1; omega⟩ (k1 D h)
theorem sound_i {n G : Nat} {f gs : Nat → Int32} {bg : Nat → Nat} (H : FCtx n gs G bg) (by_ : Nat) : ∀ (d k m : Nat) (pts : Int32) (con : Int32) (prt : Int32) (xs : Nat → Int32) (ys : Nat → Int32) (on : Nat → Int32) (la : Nat → Int32) (fl : Nat → Int32) (r0b : Option Nat) (r0p : Int32) (r0l : Int32) (r0w : Int32) (r1b : Option Nat) (r1p : Int32) (r1l : Int32) (r1w : Int32) (r2b : Option Nat) (r2p : Int32) (r2l : Int32) (r2w : Int32) (r3b : Option Nat) (r3p : Int32) (r3l : Int32) (r3w : Int32) (r4b : Option Nat) (r4p : Int32) (r4l : Int32) (r4w : Int32) (m0g : Int32) (m0l : Int32) (m0x : Int32) (m0y : Int32) (m0a : Int32) (m0b : Int32) (m0c : Int32) (m0d : Int32) (m1g : Int32) (m1l : Int32) (m1x : Int32) (m1y : Int32) (m1a : Int32) (m1b : Int32) (m1c : Int32) (m1d : Int32) (m2g : Int32) (m2l : Int32) (m2x : Int32) (m2y : Int32) (m2a : Int32) (m2b : Int32) (m2c : Int32) (m2d : Int32) (m3g : Int32) (m3l : Int32) (m3x : Int32) (m3y : Int32) (m3a : Int32) (m3b : Int32) (m3c : Int32) (m3d : Int32), k + d = G → d < m → (∀ j, j < k → ∃ D, sp f bg G 5 j = some D) → ∃ u, lp (L_Ff_glyfIsSound_2 by_ (nI n) (nI G) f gs) m (nI k, pts, con, prt, xs, ys, on, la, fl, r0b, r0p, r0l, r0w, r1b, r1p, r1l, r1w, r2b, r2p, r2l, r2w, r3b, r3p, r3l, r3w, r4b, r4p, r4l, r4w, m0g, m0l, m0x, m0y, m0a, m0b, m0c, m0d, m1g, m1l, m1x, m1y, m1a, m1b, m1c, m1d, m2g, m2l, m2x, m2y, m2a, m2b, m2c, m2d, m3g, m3l, m3x, m3y, m3a, m3b, m3c, m3d) = some u ∧ ((u.1 = 1 ∧ ∀ j, j < G → ∃ D, sp f bg G 5 j = some D) ∨ (u.1 = 0 ∧ ∃ j, j < G ∧ sp f bg G 5 j = none)) := by
  intro d
  induction d with
  | zero =>
    intro k m pts con prt xs ys on la fl r0b r0p r0l r0w r1b r1p r1l r1w r2b r2p r2l r2w r3b r3p r3l r3w r4b r4p r4l r4w m0g m0l m0x m0y m0a m0b m0c m0d m1g m1l m1x m1y m1a m1b m1c m1d m2g m2l m2x m2y m2a m2b m2c m2d m3g m3l m3x m3y m3a m3b m3c m3d hk hm hd
    obtain ⟨m, rfl⟩ := suc_of hm
    have hG := H.2.1
    rw [e_Ff_glyfIsSound_2]
    unfold P_Ff_glyfIsSound_2b
    rw [if_pos (nI_le (by omega) (by omega))]
    exact ⟨_, rfl, Or.inl ⟨rfl, fun j hj => hd j (by omega)⟩⟩
  | succ d ih =>
    intro k m pts con prt xs ys on la fl r0b r0p r0l r0w r1b r1p r1l r1w r2b r2p r2l r2w r3b r3p r3l r3w r4b r4p r4l r4w m0g m0l m0x m0y m0a m0b m0c m0d m1g m1l m1x m1y m1a m1b m1c m1d m2g m2l m2x m2y m2a m2b m2c m2d m3g m3l m3x m3y m3a m3b m3c m3d hk hm hd
    obtain ⟨m, rfl⟩ := suc_of hm
    have hG := H.2.1
    rw [e_Ff_glyfIsSound_2]
    unfold P_Ff_glyfIsSound_2b
    rw [if_neg (nI_ge (by omega) (by omega))]
    rcases asm_f (f := f) H (show k < G by omega) by_ pts con prt xs ys on la fl r0b r0p r0l r0w r1b r1p r1l r1w r2b r2p r2l r2w r3b r3p r3l r3w r4b r4p r4l r4w m0g m0l m0x m0y m0a m0b m0c m0d m1g m1l m1x m1y m1a m1b m1c m1d m2g m2l m2x m2y m2a m2b m2c m2d m3g m3l m3x m3y m3a m3b m3c m3d with ⟨D, k1, u, k2, k3, _⟩ | ⟨k1, u, k2, k3⟩
    · obtain ⟨t_r, tpts, tcon, tprt, txs, tys, ton, tla, tfl, tr0b, tr0p, tr0l, tr0w, tr1b, tr1p, tr1l, tr1w, tr2b, tr2p, tr2l, tr2w, tr3b, tr3p, tr3l, tr3w, tr4b, tr4p, tr4l, tr4w, tm0g, tm0l, tm0x, tm0y, tm0a, tm0b, tm0c, tm0d, tm1g, tm1l, tm1x, tm1y, tm1a, tm1b, tm1c, tm1d, tm2g, tm2l, tm2x, tm2y, tm2a, tm2b, tm2c, tm2d, tm3g, tm3l, tm3x, tm3y, tm3a, tm3b, tm3c, tm3d⟩ := u
      have e_r : t_r = 1 := k3
      subst e_r
      rw [k2, some_bind]
      simp only [unp]
      rw [if_neg n10, nI_1]
      exact ih (k + 1) m tpts tcon tprt txs tys ton tla tfl tr0b tr0p tr0l tr0w tr1b tr1p tr1l tr1w tr2b tr2p tr2l tr2w tr3b tr3p tr3l tr3w tr4b tr4p tr4l tr4w tm0g tm0l tm0x tm0y tm0a tm0b tm0c tm0d tm1g tm1l tm1x tm1y tm1a tm1b tm1c tm1d tm2g tm2l tm2x tm2y tm2a tm2b tm2c tm2d tm3g tm3l tm3x tm3y tm3a tm3b tm3c tm3d (by omega) (by omega) (fun j hj => by
        by_cases w : j = k
        · rw [w]; exact ⟨D, k1⟩
        · exact hd j (by omega))
    · obtain ⟨t_r, tpts, tcon, tprt, txs, tys, ton, tla, tfl, tr0b, tr0p, tr0l, tr0w, tr1b, tr1p, tr1l, tr1w, tr2b, tr2p, tr2l, tr2w, tr3b, tr3p, tr3l, tr3w, tr4b, tr4p, tr4l, tr4w, tm0g, tm0l, tm0x, tm0y, tm0a, tm0b, tm0c, tm0d, tm1g, tm1l, tm1x, tm1y, tm1a, tm1b, tm1c, tm1d, tm2g, tm2l, tm2x, tm2y, tm2a, tm2b, tm2c, tm2d, tm3g, tm3l, tm3x, tm3y, tm3a, tm3b, tm3c, tm3d⟩ := u
      have e_r : t_r = 0 := k3
      subst e_r
      rw [k2, some_bind]
      simp only [unp, if_true]
      exact ⟨_, rfl, Or.inr ⟨rfl, k, by omega, k1⟩⟩
/-- rule 8 in the class -/
theorem sound_f {n G : Nat} {f gs : Nat → Int32} {bg : Nat → Nat} (H : FCtx n gs G bg) (by_ : Nat) (pts : Int32) (con : Int32) (prt : Int32) (xs : Nat → Int32) (ys : Nat → Int32) (on : Nat → Int32) (la : Nat → Int32) (fl : Nat → Int32) (r0b : Option Nat) (r0p : Int32) (r0l : Int32) (r0w : Int32) (r1b : Option Nat) (r1p : Int32) (r1l : Int32) (r1w : Int32) (r2b : Option Nat) (r2p : Int32) (r2l : Int32) (r2w : Int32) (r3b : Option Nat) (r3p : Int32) (r3l : Int32) (r3w : Int32) (r4b : Option Nat) (r4p : Int32) (r4l : Int32) (r4w : Int32) (m0g : Int32) (m0l : Int32) (m0x : Int32) (m0y : Int32) (m0a : Int32) (m0b : Int32) (m0c : Int32) (m0d : Int32) (m1g : Int32) (m1l : Int32) (m1x : Int32) (m1y : Int32) (m1a : Int32) (m1b : Int32) (m1c : Int32) (m1d : Int32) (m2g : Int32) (m2l : Int32) (m2x : Int32) (m2y : Int32) (m2a : Int32) (m2b : Int32) (m2c : Int32) (m2d : Int32) (m3g : Int32) (m3l : Int32) (m3x : Int32) (m3y : Int32) (m3a : Int32) (m3b : Int32) (m3c : Int32) (m3d : Int32) : ∃ u, P_Ff_glyfIsSound by_ (nI n) (nI G) f gs pts con prt xs ys on la fl r0b r0p r0l r0w r1b r1p r1l r1w r2b r2p r2l r2w r3b r3p r3l r3w r4b r4p r4l r4w m0g m0l m0x m0y m0a m0b m0c m0d m1g m1l m1x m1y m1a m1b m1c m1d m2g m2l m2x m2y m2a m2b m2c m2d m3g m3l m3x m3y m3a m3b m3c m3d = some u ∧ ((u.1 = 1 ∧ ∀ j, j < G → ∃ D, sp f bg G 5 j = some D) ∨ (u.1 = 0 ∧ ∃ j, j < G ∧ sp f bg G 5 j = none)) :=
  sound_i H by_ G 0 fuel pts con prt xs ys on la fl r0b r0p r0l r0w r1b r1p r1l r1w r2b r2p r2l r2w r3b r3p r3l r3w r4b r4p r4l r4w m0g m0l m0x m0y m0a m0b m0c m0d m1g m1l m1x m1y m1a m1b m1c m1d m2g m2l m2x m2y m2a m2b m2c m2d m3g m3l m3x m3y m3a m3b m3c m3d (by omega) (by have := H.2.1; unfold fuel; omega) (fun j hj => absurd hj (by omega))
