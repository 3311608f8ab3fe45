/-! PURE ROWS: stamp with a font (printed by wip/whole/gen/stamp.py) -/
def PgE (W H : Nat) (r p : Nat → Int64) : Prop := ∀ k, k < H → r k = p k ∧ jN (r k) < 2 ^ W
theorem pg_ext {L : List Pc} {W H : Nat} {r p r' p' : Nat → Int64} {a b : Int32} (hW : W ≤ 64) (h : PgE W H r p) (h1 : FillR L W H r r' a) (h2 : FillR L W H p p' b) : PgE W H r' p' ∧ a = b := by
  refine ⟨fun k hk => ⟨tb_ext (fun i hi => ?_), tb_ltI (fun i hi h64 => ?_)⟩, ?_⟩
  · rw [h1.1 k hk, h2.1 k hk, (h k hk).1]
  · rw [h1.1 k hk]
    rintro (w | w)
    · exact tb_lt (h k hk).2 hi w
    · omega
  · rw [h1.2, h2.2]
    congr 1
    exact smz_c H (fun k hk => by rw [(h k hk).1])
theorem ink_v {z U W H g G : Nat} {D : Dat} {S : MSt} (hz : z ≤ 64) (hU : 16 ≤ U ∧ U ≤ 16384) (hW : 1 ≤ W ∧ W ≤ 64) (hH : H ≤ 64) (hWf : WfD D) (hM : MemS D g S) (hg : g < G) (hG : G ≤ 64) {pts con : Int32} {xs ys on la : Nat → Int32} (hSh : ShU D (pts, con, xs, ys, on, la)) (a b : Int32) {rows page : Nat → Int64} (hr : PgE W H rows page) (cnt : Int32) (sx : Nat → Int32) (sy : Nat → Int32) (le : Nat → Int32) (ri : Nat → Int32) (tp : Nat → Int32) (bo : Nat → Int32) (lx : Nat → Int32) (ly : Nat → Int32) (qx : Nat → Int32) (qy : Nat → Int32) (px py : Nat → Int32) (t : Int64) (tu : Nat → Int32) (t0 v0 : Int32) (mx my f1 f2 : Nat → Int64) : ∃ r c' w1 w2 w3 w4 w5 w6 w7 w8 w9 w10 px' py' t' rows' tu' mt mv mpx mpy f1' f2' page', P_Gp_ink (nI z) (nI U) pts con xs ys on la cnt sx sy le ri tp bo lx ly qx qy px py (nI W) (nI H) t H rows (W + 1) tu a b = some (r, c', w1, w2, w3, w4, w5, w6, w7, w8, w9, w10, px', py', t', rows', tu') ∧ P_Mo_stamp (nI W) (nI H) (nI z) t0 v0 mx my f1 f2 (nI U) (nI G) S.2.2.2.1 S.2.2.2.2.2.2.1 S.2.2.2.2.2.2.2 S.2.2.2.2.1 S.2.2.2.2.2.1 page (nI g) a b = some (r, mt, mv, mpx, mpy, f1', f2', page') ∧ PgE W H rows' page' := by
  have hF := fst_D hWf
  obtain ⟨⟨e1, e2, e3⟩, hs, hp, hm, ho, hct⟩ := shp_f hWf hM hSh
  unfold P_Gp_ink P_Mo_stamp
  rw [is_1 hg hG, some_bind, if_neg i1_0]
  obtain ⟨r2, c1, c2, _⟩ := near_v a
  obtain ⟨r3, d1, d2, _⟩ := near_v b
  rw [c1, some_bind, d1, some_bind, e1, e2]
  rcases place_v (X := a.toInt) (Y := b.toInt) hz hU hWf.1 (show g < 64 by omega) hp hm hs rfl rfl mx my with ⟨mx', my', m1, n1, n2, m2⟩ | ⟨mx', my', m1, m2⟩
  · rw [if_neg (fun w => (c2.mp w) n1), if_neg (fun w => (d2.mp w) n2)]
    rcases tra_v (X := a.toInt) (Y := b.toInt) (on := on) hz hU hWf.1 hs rfl rfl n1 n2 hWf.2.1 e3 hF.1 cnt sx sy le ri tp bo lx ly qx qy px py with ⟨w1, w2, w3, w4, w5, w6, w7, w8, w9, w10, px', py', l1, l2, l3⟩ | ⟨c, w1, w2, w3, w4, w5, w6, w7, w8, w9, w10, px', py', l1, j, j1, j2⟩
    · have hlen := tl_le (plx z U a.toInt xs) (ply z U b.toInt ys) on D.2.2.2.2.2.2.2 D.2.1 (fun i hi => (hF.1 i hi).1)
      rw [hF.2] at hlen
      obtain ⟨s', t', rows', tu', k1, k2⟩ := fil_v (by have := hWf.1; omega) l2 (fun Y => tl_0 _ _ on _ (psi Y) D.2.1 (fun i hi => (hF.1 i hi).1)) hW hH t rows tu
      rw [m1, some_bind, l1, some_bind]
      simp only [unp]
      rw [if_neg i1_0, if_neg i1_0, k1, some_bind]
      simp only [unp]
      rw [bdI (show g < 64 by omega) (by omega), nI_clamp (show g < 2 ^ 31 by omega), hp]
      unfold P_Mo_stamp_56
      obtain ⟨r, t'', v'', f1', f2', pg', o1, o2⟩ := st_box (W := W) (H := H) (sc := nI z) (un := nI U) (gl := nI G) (mx := S.2.2.2.2.1) (my := S.2.2.2.2.2.1) m2 hWf.1 hWf.2.1 (show g < 64 by omega) hp ho hct hF.1 hF.2 hW.2 hH page t0 v0 f1 f2 D.1 0 fuel 1099511627776 (-1099511627776) 1099511627776 (-1099511627776) (by omega) (by have := hWf.1; unfold fuel; omega) (fun i hi => absurd hi (by omega)) (fun i hi => absurd hi (by omega)) (fun i hi => absurd hi (by omega)) (fun i hi => absurd hi (by omega))
      obtain ⟨q1, q2⟩ := pg_ext hW.2 hr k2 o2
      subst q2
      exact ⟨_, _, _, _, _, _, _, _, _, _, _, _, _, _, _, _, _, _, _, _, _, _, _, _, rfl, o1, q1⟩
    · exact absurd (m2 j j1).2.2 j2
  · rw [m1, some_bind]
    simp only [unp]
    rw [if_pos trivial]
    by_cases n1 : n20 a.toInt
    · rw [if_neg (fun w => (c2.mp w) n1)]
      by_cases n2 : n20 b.toInt
      · rw [if_neg (fun w => (d2.mp w) n2)]
        rcases tra_v (X := a.toInt) (Y := b.toInt) (on := on) hz hU hWf.1 hs rfl rfl n1 n2 hWf.2.1 e3 hF.1 cnt sx sy le ri tp bo lx ly qx qy px py with ⟨w1, w2, w3, w4, w5, w6, w7, w8, w9, w10, px', py', l1, l2, l3⟩ | ⟨c, w1, w2, w3, w4, w5, w6, w7, w8, w9, w10, px', py', l1, j, j1, j2⟩
        · rcases m2 with m2 | m2 | ⟨j, j1, j2⟩
          · exact absurd n1 m2
          · exact absurd n2 m2
          · exact absurd (l3 j j1) j2
        · rw [l1, some_bind]
          simp only [unp]
          rw [if_pos trivial]
          exact ⟨_, _, _, _, _, _, _, _, _, _, _, _, _, _, _, _, _, _, _, _, _, _, _, _, rfl, rfl, hr⟩
      · rw [if_pos (d2.mpr n2)]
        exact ⟨_, _, _, _, _, _, _, _, _, _, _, _, _, _, _, _, _, _, _, _, _, _, _, _, rfl, rfl, hr⟩
    · rw [if_pos (c2.mpr n1)]
      exact ⟨_, _, _, _, _, _, _, _, _, _, _, _, _, _, _, _, _, _, _, _, _, _, _, _, rfl, rfl, hr⟩
set_option maxRecDepth 10000 in
theorem stamp_f {n G U z W H : Nat} {f gs : Nat → Int32} {bg : Nat → Nat} {S : MSt} (hz : z ≤ 64) (hU : 16 ≤ U ∧ U ≤ 16384) (hW : 1 ≤ W ∧ W ≤ 64) (hH : H ≤ 64) (Hc : FCtx n gs G bg) (hS : AllD f bg G S) {rows page : Nat → Int64} (hr : PgE W H rows page) (by_ : Nat) (pts : Int32) (con : Int32) (prt : Int32) (xs : Nat → Int32) (ys : Nat → Int32) (on : Nat → Int32) (la : Nat → Int32) (fl : Nat → Int32) (r0b : Option Nat) (r0p : Int32) (r0l : Int32) (r0w : Int32) (r1b : Option Nat) (r1p : Int32) (r1l : Int32) (r1w : Int32) (r2b : Option Nat) (r2p : Int32) (r2l : Int32) (r2w : Int32) (r3b : Option Nat) (r3p : Int32) (r3l : Int32) (r3w : Int32) (r4b : Option Nat) (r4p : Int32) (r4l : Int32) (r4w : Int32) (m0g : Int32) (m0l : Int32) (m0x : Int32) (m0y : Int32) (m0a : Int32) (m0b : Int32) (m0c : Int32) (m0d : Int32) (m1g : Int32) (m1l : Int32) (m1x : Int32) (m1y : Int32) (m1a : Int32) (m1b : Int32) (m1c : Int32) (m1d : Int32) (m2g : Int32) (m2l : Int32) (m2x : Int32) (m2y : Int32) (m2a : Int32) (m2b : Int32) (m2c : Int32) (m2d : Int32) (m3g : Int32) (m3l : Int32) (m3x : Int32) (m3y : Int32) (m3a : Int32) (m3b : Int32) (m3c : Int32) (m3d : Int32) (cnt : Int32) (sx : Nat → Int32) (sy : Nat → Int32) (le : Nat → Int32) (ri : Nat → Int32) (tp : Nat → Int32) (bo : Nat → Int32) (lx : Nat → Int32) (ly : Nat → Int32) (qx : Nat → Int32) (qy : Nat → Int32) (px py : Nat → Int32) (tc : Int64) (tu : Nat → Int32) (t v : Int32) (mx my f1 f2 : Nat → Int64) (a1 a2 a3 : Int32) : ∃ r tpts tcon tprt txs tys ton tla tfl tr0b tr0p tr0l tr0w tr1b tr1p tr1l tr1w tr2b tr2p tr2l tr2w tr3b tr3p tr3l tr3w tr4b tr4p tr4l tr4w tm0g tm0l tm0x tm0y tm0a tm0b tm0c tm0d tm1g tm1l tm1x tm1y tm1a tm1b tm1c tm1d tm2g tm2l tm2x tm2y tm2a tm2b tm2c tm2d tm3g tm3l tm3x tm3y tm3a tm3b tm3c tm3d c0 w1 w2 w3 w4 w5 w6 w7 w8 w9 w10 px' py' t' rows' tu' mt mv mpx mpy f1' f2' page', P_Gp_stamp by_ (nI z) (nI n) (nI U) (nI G) f gs pts con prt xs ys on la fl r0b r0p r0l r0w r1b r1p r1l r1w r2b r2p r2l r2w r3b r3p r3l r3w r4b r4p r4l r4w m0g m0l m0x m0y m0a m0b m0c m0d m1g m1l m1x m1y m1a m1b m1c m1d m2g m2l m2x m2y m2a m2b m2c m2d m3g m3l m3x m3y m3a m3b m3c m3d cnt sx sy le ri tp bo lx ly qx qy px py (nI W) (nI H) tc H rows (W + 1) tu a1 a2 a3 = some (r, tpts, tcon, tprt, txs, tys, ton, tla, tfl, tr0b, tr0p, tr0l, tr0w, tr1b, tr1p, tr1l, tr1w, tr2b, tr2p, tr2l, tr2w, tr3b, tr3p, tr3l, tr3w, tr4b, tr4p, tr4l, tr4w, tm0g, tm0l, tm0x, tm0y, tm0a, tm0b, tm0c, tm0d, tm1g, tm1l, tm1x, tm1y, tm1a, tm1b, tm1c, tm1d, tm2g, tm2l, tm2x, tm2y, tm2a, tm2b, tm2c, tm2d, tm3g, tm3l, tm3x, tm3y, tm3a, tm3b, tm3c, tm3d, c0, w1, w2, w3, w4, w5, w6, w7, w8, w9, w10, px', py', t', rows', tu') ∧ P_Mo_stamp (nI W) (nI H) (nI z) t v mx my f1 f2 (nI U) (nI G) S.2.2.2.1 S.2.2.2.2.2.2.1 S.2.2.2.2.2.2.2 S.2.2.2.2.1 S.2.2.2.2.2.1 page a1 a2 a3 = some (r, mt, mv, mpx, mpy, f1', f2', page') ∧ PgE W H rows' page' := by
  have hG := Hc.2.1
  unfold P_Gp_stamp
  rcases takes_f Hc hS by_ pts con prt xs ys on la fl r0b r0p r0l r0w r1b r1p r1l r1w r2b r2p r2l r2w r3b r3p r3l r3w r4b r4p r4l r4w m0g m0l m0x m0y m0a m0b m0c m0d m1g m1l m1x m1y m1a m1b m1c m1d m2g m2l m2x m2y m2a m2b m2c m2d m3g m3l m3x m3y m3a m3b m3c m3d a1 with ⟨u, k1, k2, k3⟩ | ⟨g, hg, rfl, u, D, k1, k2, k3, k4, k5⟩
  · obtain ⟨t_r, tpts, tcon, tprt, txs, tys, ton, tla, tfl, tr0b, tr0p, tr0l, tr0w, tr1b, tr1p, tr1l, tr1w, tr2b, tr2p, tr2l, tr2w, tr3b, tr3p, tr3l, tr3w, tr4b, tr4p, tr4l, tr4w, tm0g, tm0l, tm0x, tm0y, tm0a, tm0b, tm0c, tm0d, tm1g, tm1l, tm1x, tm1y, tm1a, tm1b, tm1c, tm1d, tm2g, tm2l, tm2x, tm2y, tm2a, tm2b, tm2c, tm2d, tm3g, tm3l, tm3x, tm3y, tm3a, tm3b, tm3c, tm3d⟩ := u
    have e_r : t_r = 0 := k2
    subst e_r
    unfold P_Mo_stamp
    rw [k1, some_bind, is_0 k3, some_bind]
    simp only [unp]
    rw [if_pos trivial, if_pos trivial]
    exact ⟨_, _, _, _, _, _, _, _, _, _, _, _, _, _, _, _, _, _, _, _, _, _, _, _, _, _, _, _, _, _, _, _, _, _, _, _, _, _, _, _, _, _, _, _, _, _, _, _, _, _, _, _, _, _, _, _, _, _, _, _, _, _, _, _, _, _, _, _, _, _, _, _, _, _, _, _, _, _, _, _, _, _, _, _, rfl, rfl, hr⟩
  · obtain ⟨t_r, tpts, tcon, tprt, txs, tys, ton, tla, tfl, tr0b, tr0p, tr0l, tr0w, tr1b, tr1p, tr1l, tr1w, tr2b, tr2p, tr2l, tr2w, tr3b, tr3p, tr3l, tr3w, tr4b, tr4p, tr4l, tr4w, tm0g, tm0l, tm0x, tm0y, tm0a, tm0b, tm0c, tm0d, tm1g, tm1l, tm1x, tm1y, tm1a, tm1b, tm1c, tm1d, tm2g, tm2l, tm2x, tm2y, tm2a, tm2b, tm2c, tm2d, tm3g, tm3l, tm3x, tm3y, tm3a, tm3b, tm3c, tm3d⟩ := u
    have e_r : t_r = 1 := k2
    subst e_r
    rw [k1, some_bind]
    simp only [unp]
    rw [if_neg i1_0]
    obtain ⟨r, c0, w1, w2, w3, w4, w5, w6, w7, w8, w9, w10, px', py', t', rows', tu', mt, mv, mpx, mpy, f1', f2', page', p1, p2, p3⟩ := ink_v hz hU hW hH (sp_wf _ _ _ k3) k4 hg hG (show ShU D (tpts, tcon, txs, tys, ton, tla) from k5) a2 a3 hr cnt sx sy le ri tp bo lx ly qx qy px py tc tu t v mx my f1 f2
    rw [p1, some_bind]
    simp only [unp]
    exact ⟨_, _, _, _, _, _, _, _, _, _, _, _, _, _, _, _, _, _, _, _, _, _, _, _, _, _, _, _, _, _, _, _, _, _, _, _, _, _, _, _, _, _, _, _, _, _, _, _, _, _, _, _, _, _, _, _, _, _, _, _, _, _, _, _, _, _, _, _, _, _, _, _, _, _, _, _, _, _, _, _, _, _, _, _, rfl, p2, p3⟩
theorem stepF_stamp (X : LInv) : StepF_stamp X InvF := by
  intro j iv jv av lw ov nv ad a1 a2 a3 a4 a5 hj hI
  obtain ⟨n, en, U, G, F, M, C, B, D, s4, z4, s5, s1, ⟨hn, hg⟩, ⟨u1, u2, u3, u4⟩, ⟨g1, g2, g3, g4⟩, _, _, _, _, _, _, hF, hS⟩ := hI.2.2.2.2
  obtain ⟨⟨z, z1, z2, z3⟩, z4'⟩ := hI.2.1
  obtain ⟨w, h, ⟨w1, w2, h1, h2⟩, ew1, eh1, ew2, eh2, en0, en1, hp⟩ := hI.2.2.1
  obtain ⟨r, tpts, tcon, tprt, txs, tys, ton, tla, tfl, tr0b, tr0p, tr0l, tr0w, tr1b, tr1p, tr1l, tr1w, tr2b, tr2p, tr2l, tr2w, tr3b, tr3p, tr3l, tr3w, tr4b, tr4p, tr4l, tr4w, tm0g, tm0l, tm0x, tm0y, tm0a, tm0b, tm0c, tm0d, tm1g, tm1l, tm1x, tm1y, tm1a, tm1b, tm1c, tm1d, tm2g, tm2l, tm2x, tm2y, tm2a, tm2b, tm2c, tm2d, tm3g, tm3l, tm3x, tm3y, tm3a, tm3b, tm3c, tm3d, c0, v1, v2, v3, v4, v5, v6, v7, v8, v9, v10, px', py', t', rows', tu', mt, mv, mpx, mpy, f1', f2', page', p1, p2, p3⟩ := stamp_f (z := z) (U := U) z2 ⟨u1, u2⟩ ⟨w1, w2⟩ h2 hF hS (show PgE w h (lw 0) (lw 1) from hp) (ad 43) (iv 4) (iv 5) (iv 6) (av 1) (av 2) (av 3) (av 4) (av 5) (ov 0) (iv 7) (iv 8) (iv 9) (ov 1) (iv 10) (iv 11) (iv 12) (ov 2) (iv 13) (iv 14) (iv 15) (ov 3) (iv 16) (iv 17) (iv 18) (ov 4) (iv 19) (iv 20) (iv 21) (iv 22) (iv 23) (iv 24) (iv 25) (iv 26) (iv 27) (iv 28) (iv 29) (iv 30) (iv 31) (iv 32) (iv 33) (iv 34) (iv 35) (iv 36) (iv 37) (iv 38) (iv 39) (iv 40) (iv 41) (iv 42) (iv 43) (iv 44) (iv 45) (iv 46) (iv 47) (iv 48) (iv 49) (iv 50) (iv 51) (iv 52) (iv 53) (iv 62) (av 6) (av 7) (av 8) (av 9) (av 10) (av 11) (av 12) (av 13) (av 14) (av 15) (av 16) (av 17) (jv 0) (av 0) (iv 84) (iv 85) (lw 2) (lw 3) (lw 4) (lw 5) a1 a2 a3
  refine ⟨r, tpts, tcon, tprt, txs, tys, ton, tla, tfl, tr0b, tr0p, tr0l, tr0w, tr1b, tr1p, tr1l, tr1w, tr2b, tr2p, tr2l, tr2w, tr3b, tr3p, tr3l, tr3w, tr4b, tr4p, tr4l, tr4w, tm0g, tm0l, tm0x, tm0y, tm0a, tm0b, tm0c, tm0d, tm1g, tm1l, tm1x, tm1y, tm1a, tm1b, tm1c, tm1d, tm2g, tm2l, tm2x, tm2y, tm2a, tm2b, tm2c, tm2d, tm3g, tm3l, tm3x, tm3y, tm3a, tm3b, tm3c, tm3d, c0, v1, v2, v3, v4, v5, v6, v7, v8, v9, v10, px', py', t', rows', tu', ?_, mt, mv, mpx, mpy, f1', f2', page', ?_, ?_⟩
  · rw [z3, en, u3, g3, ew1, eh1, en0, en1]; exact p1
  · rw [z4', z3, u4, g4, ew2, eh2]; exact p2
  · exact ⟨hI.1, hI.2.1, ⟨w, h, ⟨w1, w2, h1, h2⟩, ew1, eh1, ew2, eh2, en0, en1, p3⟩, hI.2.2.2.1, hI.2.2.2.2⟩
