/-! PURE ROWS: winding with a font (printed by wip/whole/gen/wind.py) -/
theorem shp_f {D : Dat} {g : Nat} {S : MSt} (hW : WfD D) (k4 : MemS D g S) {pts con : Int32} {xs ys on la : Nat → Int32} (k5 : ShU D (pts, con, xs, ys, on, la)) : (pts = nI D.1 ∧ con = nI D.2.1 ∧ ∀ i, i < D.2.1 → la i = nI (D.2.2.2.2.2.2.2 i)) ∧ (∀ k, k < D.1 → sml (xs k) ∧ sml (ys k)) ∧ S.2.2.2.1 g = nI D.1 ∧ (∀ k, k < D.1 → S.2.2.2.2.1 (256 * g + k) = xs k ∧ S.2.2.2.2.2.1 (256 * g + k) = ys k) ∧ (∀ k, k < D.1 → S.2.2.2.2.2.2.1 (256 * g + k) = on k) ∧ CtI D.2.2.2.2.2.2.2 D.2.1 S.2.2.2.2.2.2.2 (256 * g) 0 := by
  have hk : ∀ k, k < D.1 → xs k = D.2.2.2.2.1 k ∧ ys k = D.2.2.2.2.2.1 k ∧ on k = D.2.2.2.2.2.2.1 k := fun k hk => by
    have := k5.2.2.1 k hk
    rw [Nat.zero_add] at this
    exact this
  refine ⟨⟨k5.1, k5.2.1, k5.2.2.2⟩, fun k h => ?_, k4.1.2.1, fun k h => ?_, fun k h => ?_, k4.1.2.2.2⟩
  · rw [(hk k h).1, (hk k h).2.1]; exact ⟨(hW.2.2.1 k h).1, (hW.2.2.1 k h).2.1⟩
  · rw [(hk k h).1, (hk k h).2.1]; exact ⟨(k4.1.2.2.1 k h).1, (k4.1.2.2.1 k h).2.1⟩
  · rw [(hk k h).2.2]; exact (k4.1.2.2.1 k h).2.2
theorem n20_0 : n20 0 := ⟨by decide, by decide⟩
theorem wind_f {n G U z : Nat} {f gs : Nat → Int32} {bg : Nat → Nat} {S : MSt} (hz : z ≤ 64) (hU : 16 ≤ U ∧ U ≤ 16384) (H : FCtx n gs G bg) (hS : AllD f bg G S) (by_ : Nat) (pts : Int32) (con : Int32) (prt : Int32) (xs : Nat → Int32) (ys : Nat → Int32) (on : Nat → Int32) (la : Nat → Int32) (fl : Nat → Int32) (r0b : Option Nat) (r0p : Int32) (r0l : Int32) (r0w : Int32) (r1b : Option Nat) (r1p : Int32) (r1l : Int32) (r1w : Int32) (r2b : Option Nat) (r2p : Int32) (r2l : Int32) (r2w : Int32) (r3b : Option Nat) (r3p : Int32) (r3l : Int32) (r3w : Int32) (r4b : Option Nat) (r4p : Int32) (r4l : Int32) (r4w : Int32) (m0g : Int32) (m0l : Int32) (m0x : Int32) (m0y : Int32) (m0a : Int32) (m0b : Int32) (m0c : Int32) (m0d : Int32) (m1g : Int32) (m1l : Int32) (m1x : Int32) (m1y : Int32) (m1a : Int32) (m1b : Int32) (m1c : Int32) (m1d : Int32) (m2g : Int32) (m2l : Int32) (m2x : Int32) (m2y : Int32) (m2a : Int32) (m2b : Int32) (m2c : Int32) (m2d : Int32) (m3g : Int32) (m3l : Int32) (m3x : Int32) (m3y : Int32) (m3a : Int32) (m3b : Int32) (m3c : Int32) (m3d : Int32) (cnt : Int32) (sx : Nat → Int32) (sy : Nat → Int32) (le : Nat → Int32) (ri : Nat → Int32) (tp : Nat → Int32) (bo : Nat → Int32) (lx : Nat → Int32) (ly : Nat → Int32) (qx : Nat → Int32) (qy : Nat → Int32) (px py : Nat → Int32) (t v : Int32) (mx my f1 f2 : Nat → Int64) (a1 a2 a3 : Int32) : ∃ u w, P_Gp_winding by_ (nI z) (nI n) (nI U) (nI G) f gs pts con prt xs ys on la fl r0b r0p r0l r0w r1b r1p r1l r1w r2b r2p r2l r2w r3b r3p r3l r3w r4b r4p r4l r4w m0g m0l m0x m0y m0a m0b m0c m0d m1g m1l m1x m1y m1a m1b m1c m1d m2g m2l m2x m2y m2a m2b m2c m2d m3g m3l m3x m3y m3a m3b m3c m3d cnt sx sy le ri tp bo lx ly qx qy px py a1 a2 a3 = some u ∧ P_Mo_winding (nI z) t v mx my f1 f2 (nI U) (nI G) S.2.2.2.1 S.2.2.2.2.2.2.1 S.2.2.2.2.2.2.2 S.2.2.2.2.1 S.2.2.2.2.2.1 a1 a2 a3 = some w ∧ w.1 = u.1 := by
  have hG := H.2.1
  unfold P_Gp_winding P_Mo_winding
  rcases takes_f H hS by_ pts con prt xs ys on la fl r0b r0p r0l r0w r1b r1p r1l r1w r2b r2p r2l r2w r3b r3p r3l r3w r4b r4p r4l r4w m0g m0l m0x m0y m0a m0b m0c m0d m1g m1l m1x m1y m1a m1b m1c m1d m2g m2l m2x m2y m2a m2b m2c m2d m3g m3l m3x m3y m3a m3b m3c m3d a1 with ⟨u, k1, k2, k3⟩ | ⟨g, hg, rfl, u, D, k1, k2, k3, k4, k5⟩
  · obtain ⟨t_r, tpts, tcon, tprt, txs, tys, ton, tla, tfl, tr0b, tr0p, tr0l, tr0w, tr1b, tr1p, tr1l, tr1w, tr2b, tr2p, tr2l, tr2w, tr3b, tr3p, tr3l, tr3w, tr4b, tr4p, tr4l, tr4w, tm0g, tm0l, tm0x, tm0y, tm0a, tm0b, tm0c, tm0d, tm1g, tm1l, tm1x, tm1y, tm1a, tm1b, tm1c, tm1d, tm2g, tm2l, tm2x, tm2y, tm2a, tm2b, tm2c, tm2d, tm3g, tm3l, tm3x, tm3y, tm3a, tm3b, tm3c, tm3d⟩ := u
    have e_r : t_r = 0 := k2
    subst e_r
    rw [k1, some_bind, is_0 k3, some_bind]
    simp only [unp]
    rw [if_pos trivial, if_pos trivial]
    exact ⟨_, _, rfl, rfl, rfl⟩
  obtain ⟨t_r, tpts, tcon, tprt, txs, tys, ton, tla, tfl, tr0b, tr0p, tr0l, tr0w, tr1b, tr1p, tr1l, tr1w, tr2b, tr2p, tr2l, tr2w, tr3b, tr3p, tr3l, tr3w, tr4b, tr4p, tr4l, tr4w, tm0g, tm0l, tm0x, tm0y, tm0a, tm0b, tm0c, tm0d, tm1g, tm1l, tm1x, tm1y, tm1a, tm1b, tm1c, tm1d, tm2g, tm2l, tm2x, tm2y, tm2a, tm2b, tm2c, tm2d, tm3g, tm3l, tm3x, tm3y, tm3a, tm3b, tm3c, tm3d⟩ := u
  have e_r : t_r = 1 := k2
  subst e_r
  rw [k1, some_bind, is_1 hg hG, some_bind]
  simp only [unp]
  rw [if_neg i1_0, if_neg i1_0]
  have hW := sp_wf _ _ _ k3
  have hF := fst_D hW
  obtain ⟨⟨e1, e2, e3⟩, hs, hp, hm, ho, hct⟩ := shp_f hW k4 (show ShU D (tpts, tcon, txs, tys, ton, tla) from k5)
  obtain ⟨r2, c1, c2, _⟩ := near_v a2
  obtain ⟨r3, d1, d2, _⟩ := near_v a3
  rw [c1, some_bind, d1, some_bind]
  by_cases q2 : n20 a2.toInt
  · have q2' := q2
    unfold n20 at q2'
    rw [if_neg (fun w => (c2.mp w) q2), if_neg (show ¬ a2 < (-20000 : Int32) from fun w => by rw [Int32.lt_iff_toInt_lt, im20] at w; omega), if_neg (show ¬ (20000 : Int32) < a2 from fun w => by rw [Int32.lt_iff_toInt_lt, i20] at w; omega)]
    by_cases q3 : n20 a3.toInt
    · have q3' := q3
      unfold n20 at q3'
      rw [if_neg (fun w => (d2.mp w) q3), if_neg (show ¬ a3 < (-20000 : Int32) from fun w => by rw [Int32.lt_iff_toInt_lt, im20] at w; omega), if_neg (show ¬ (20000 : Int32) < a3 from fun w => by rw [Int32.lt_iff_toInt_lt, i20] at w; omega)]
      rw [e1, e2]
      rcases place_v (X := 0) (Y := 0) hz hU hW.1 (show g < 64 by omega) hp hm hs (a := 0) (b := 0) rfl rfl mx my with ⟨mx', my', m1, _, _, m2⟩ | ⟨mx', my', m1, m2⟩
      · rcases tra_v (X := 0) (Y := 0) (on := ton) hz hU hW.1 hs (a := 0) (b := 0) rfl rfl n20_0 n20_0 hW.2.1 e3 hF.1 cnt sx sy le ri tp bo lx ly qx qy px py with ⟨w1, w2, w3, w4, w5, w6, w7, w8, w9, w10, px', py', l1, l2, l3⟩ | ⟨c, w1, w2, w3, w4, w5, w6, w7, w8, w9, w10, px', py', l1, j, j1, j2⟩
        · rw [m1, some_bind, l1, some_bind]
          simp only [unp]
          rw [if_neg i1_0, if_neg i1_0]
          have hlen := tl_le (plx z U 0 txs) (ply z U 0 tys) ton D.2.2.2.2.2.2.2 D.2.1 (fun i hi => (hF.1 i hi).1)
          rw [hF.2] at hlen
          have xb : n40 (2 * a2.toInt) := ⟨by omega, by omega⟩
          have yb : n40 (2 * a3.toInt) := ⟨by omega, by omega⟩
          obtain ⟨w1, w2⟩ := win_v (L := tl (plx z U 0 txs) (ply z U 0 tys) ton D.2.2.2.2.2.2.2 D.2.1) (by have := hW.1; omega) (i2_mul (v := a2) rfl (by omega)) (i2_mul (v := a3) rfl (by omega)) xb yb (AtA_K l2)
          have jx : J 40000 ((2 : Int64) * a2.toInt64) (2 * a2.toInt) := J_mul (a := 2) (b := 20000) J2 (J_i rfl q2) (by decide)
          have jy : J 40000 ((2 : Int64) * a3.toInt64) (2 * a3.toInt) := J_mul (a := 2) (b := 20000) J2 (J_i rfl q3) (by decide)
          obtain ⟨t', v', g1, g2, o1, o2, _, o4⟩ := go_v m2 hW.1 hW.2.1 (show g < 64 by omega) hp ho hct hF.1 hF.2 jx jy t v f1 f2
          rw [o1, some_bind]
          simp only [unp]
          obtain ⟨o5, o6⟩ := o4 rfl
          rcases o2 with q | q
          · obtain ⟨o7, o8⟩ := o5 q
            rw [w2 o7, some_bind, if_pos q]
            refine ⟨_, _, rfl, rfl, ?_⟩
            show v' = _
            rw [o8, Int.zero_add]
          · rw [w1 (o6 q), some_bind, if_neg (by rw [q]; decide)]
            exact ⟨_, _, rfl, rfl, rfl⟩
        · exact absurd (m2 j j1).2.2 j2
      · rcases tra_v (X := 0) (Y := 0) (on := ton) hz hU hW.1 hs (a := 0) (b := 0) rfl rfl n20_0 n20_0 hW.2.1 e3 hF.1 cnt sx sy le ri tp bo lx ly qx qy px py with ⟨w1, w2, w3, w4, w5, w6, w7, w8, w9, w10, px', py', l1, l2, l3⟩ | ⟨c, w1, w2, w3, w4, w5, w6, w7, w8, w9, w10, px', py', l1, j, j1, j2⟩
        · rcases m2 with m2 | m2 | ⟨j, j1, j2⟩
          · exact absurd n20_0 m2
          · exact absurd n20_0 m2
          · exact absurd (l3 j j1) j2
        · rw [m1, some_bind, l1, some_bind]
          simp only [unp]
          rw [if_pos trivial, if_pos trivial]
          exact ⟨_, _, rfl, rfl, rfl⟩
    · have q3' := q3
      unfold n20 at q3'
      rw [if_pos (d2.mpr q3)]
      by_cases z1 : a3 < (-20000 : Int32)
      · rw [if_pos z1]; exact ⟨_, _, rfl, rfl, rfl⟩
      · rw [if_neg z1, if_pos (show (20000 : Int32) < a3 from by
          rw [Int32.lt_iff_toInt_lt, im20] at z1
          rw [Int32.lt_iff_toInt_lt, i20]
          omega)]
        exact ⟨_, _, rfl, rfl, rfl⟩
  · have q2' := q2
    unfold n20 at q2'
    rw [if_pos (c2.mpr q2)]
    by_cases z1 : a2 < (-20000 : Int32)
    · rw [if_pos z1]; exact ⟨_, _, rfl, rfl, rfl⟩
    · rw [if_neg z1, if_pos (show (20000 : Int32) < a2 from by
        rw [Int32.lt_iff_toInt_lt, im20] at z1
        rw [Int32.lt_iff_toInt_lt, i20]
        omega)]
      exact ⟨_, _, rfl, rfl, rfl⟩
theorem stepF_winding (X : LInv) : StepF_winding X InvF := by
  intro j iv jv av lw ov nv ad a1 a2 a3 a4 a5 hj hI
  obtain ⟨n, en, U, G, F, M, C, B, D, s4, z4, s5, s1, ⟨hn, hg⟩, ⟨u1, u2, u3, u4⟩, ⟨g1, g2, g3, g4⟩, _, _, _, _, _, _, hF, hS⟩ := hI.2.2.2.2
  obtain ⟨⟨z, z1, z2, z3⟩, z4'⟩ := hI.2.1
  obtain ⟨u, w, p1, p2, p3⟩ := wind_f (z := z) (U := U) z2 ⟨u1, u2⟩ hF hS (ad 43) (iv 4) (iv 5) (iv 6) (av 1) (av 2) (av 3) (av 4) (av 5) (ov 0) (iv 7) (iv 8) (iv 9) (ov 1) (iv 10) (iv 11) (iv 12) (ov 2) (iv 13) (iv 14) (iv 15) (ov 3) (iv 16) (iv 17) (iv 18) (ov 4) (iv 19) (iv 20) (iv 21) (iv 22) (iv 23) (iv 24) (iv 25) (iv 26) (iv 27) (iv 28) (iv 29) (iv 30) (iv 31) (iv 32) (iv 33) (iv 34) (iv 35) (iv 36) (iv 37) (iv 38) (iv 39) (iv 40) (iv 41) (iv 42) (iv 43) (iv 44) (iv 45) (iv 46) (iv 47) (iv 48) (iv 49) (iv 50) (iv 51) (iv 52) (iv 53) (iv 62) (av 6) (av 7) (av 8) (av 9) (av 10) (av 11) (av 12) (av 13) (av 14) (av 15) (av 16) (av 17) (iv 84) (iv 85) (lw 2) (lw 3) (lw 4) (lw 5) a1 a2 a3
  obtain ⟨r, tpts, tcon, tprt, txs, tys, ton, tla, tfl, tr0b, tr0p, tr0l, tr0w, tr1b, tr1p, tr1l, tr1w, tr2b, tr2p, tr2l, tr2w, tr3b, tr3p, tr3l, tr3w, tr4b, tr4p, tr4l, tr4w, tm0g, tm0l, tm0x, tm0y, tm0a, tm0b, tm0c, tm0d, tm1g, tm1l, tm1x, tm1y, tm1a, tm1b, tm1c, tm1d, tm2g, tm2l, tm2x, tm2y, tm2a, tm2b, tm2c, tm2d, tm3g, tm3l, tm3x, tm3y, tm3a, tm3b, tm3c, tm3d, c0, c1, c2, c3, c4, c5, c6, c7, c8, c9, c10, c11, c12⟩ := u
  obtain ⟨r', m1, m2, m3, m4, m5, m6⟩ := w
  have p3 : r' = r := p3
  subst p3
  refine ⟨r', tpts, tcon, tprt, txs, tys, ton, tla, tfl, tr0b, tr0p, tr0l, tr0w, tr1b, tr1p, tr1l, tr1w, tr2b, tr2p, tr2l, tr2w, tr3b, tr3p, tr3l, tr3w, tr4b, tr4p, tr4l, tr4w, tm0g, tm0l, tm0x, tm0y, tm0a, tm0b, tm0c, tm0d, tm1g, tm1l, tm1x, tm1y, tm1a, tm1b, tm1c, tm1d, tm2g, tm2l, tm2x, tm2y, tm2a, tm2b, tm2c, tm2d, tm3g, tm3l, tm3x, tm3y, tm3a, tm3b, tm3c, tm3d, c0, c1, c2, c3, c4, c5, c6, c7, c8, c9, c10, c11, c12, ?_, m1, m2, m3, m4, m5, m6, ?_, hI⟩
  · rw [z3, en, u3, g3]; exact p1
  · rw [z4', z3, u4, g4]; exact p2
