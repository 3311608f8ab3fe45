/-! PURE ROWS: a file judged (printed by wip/whole/gen/judge.py) -/
def FaceR (n : Nat) (f g : Nat → Int32) (cu cG cas cds cgp cF cM cC cB cS cP : Int32) (st sz gs : Nat → Int32) (mu mF mG mas mds mgp mM mC mB mS : Int32) (a l : Nat → Int32) (S : MSt) : Prop := ∃ U G F M C B D s4 z4 s5 s1 : Nat, (n ≤ 4096 ∧ Agr n f g) ∧ (16 ≤ U ∧ U ≤ 16384 ∧ cu = nI U ∧ mu = nI U) ∧ (1 ≤ G ∧ G ≤ 64 ∧ cG = nI G ∧ mG = nI G) ∧ (F ≤ 1 ∧ cF = nI F ∧ mF = nI F) ∧ (mas = cas ∧ mds = cds ∧ mgp = cgp ∧ modest U cas ∧ modest U cds ∧ modest U cgp) ∧ (1 ≤ M ∧ M ≤ G ∧ cM = nI M ∧ mM = nI M) ∧ (cC = nI C ∧ cB = nI B ∧ cS = nI D ∧ mC = nI C ∧ mB = nI B ∧ mS = nI D ∧ 1 ≤ D ∧ 16 + 8 * D ≤ B ∧ C + B ≤ n) ∧ (Tt n st sz a l 4 s4 z4 ∧ 4 * M ≤ z4 ∧ hmC n f s4 U M) ∧ Krn n f st sz a l U cP ∧ FCtx n gs G (bgF n f s5 F s1) ∧ ∀ j, j < G → ∃ D, sp f (bgF n f s5 F s1) G 5 j = some D ∧ MemS D j S
/-- how the reference comes to its answer r -/
def JM (nn : Int32) (g a l : Nat → Int32) (u0 f0 g0 as0 ds0 gp0 mt0 mp0 ml0 sg0 at0 e0 gd0 : Int32) (fl done dep prt cs ps x y on ct : Nat → Int32) (r : Int32) (ok : Int32 → Int32 → Int32 → Int32 → Int32 → Int32 → Int32 → Int32 → Int32 → Int32 → (Nat → Int32) → (Nat → Int32) → MSt → Prop) : Prop :=
  ∃ (r1 : Int32) (a1 l1 : Nat → Int32), P_Mo_directory nn g a l = some (r1, a1, l1) ∧ (r1 = 0 ∧ r = 1 ∨ r1 = 1 ∧
  ∃ r2 u1 f1, P_Mo_head u0 f0 g a1 l1 = some (r2, u1, f1) ∧ (r2 = 0 ∧ r = 2 ∨ r2 = 1 ∧
  ∃ r3 g1, P_Mo_maxp g0 g a1 l1 = some (r3, g1) ∧ (r3 = 0 ∧ r = 3 ∨ r3 = 1 ∧
  ∃ r4 as1 ds1 gp1 mt1, P_Mo_hhea u1 g1 as0 ds0 gp0 mt0 g a1 l1 = some (r4, as1, ds1, gp1, mt1) ∧ (r4 = 0 ∧ r = 4 ∨ r4 = 1 ∧
  ∃ r5, P_Mo_hmtx u1 g1 mt1 g a1 l1 = some r5 ∧ (r5 = 0 ∧ r = 5 ∨ r5 = 1 ∧
  ∃ r6, P_Mo_loca f1 g1 g a1 l1 = some r6 ∧ (r6 = 0 ∧ r = 6 ∨ r6 = 1 ∧
  ∃ r7 mp1 ml1 sg1, P_Mo_cmap mp0 ml0 sg0 g a1 l1 = some (r7, mp1, ml1, sg1) ∧ (r7 = 0 ∧ r = 7 ∨ r7 = 1 ∧
  ∃ r8 at1 e1 gd1 fl1 done1 dep1 prt1 cs1 ps1 x1 y1 on1 ct1, P_Mo_glyf at0 e0 gd0 fl f1 g1 g a1 done dep prt cs ps x y on ct = some (r8, at1, e1, gd1, fl1, done1, dep1, prt1, cs1, ps1, x1, y1, on1, ct1) ∧ (r8 = 0 ∧ r = 8 ∨ r8 = 1 ∧
  ∃ r9, P_Mo_kern_fZ u1 g a1 l1 = some r9 ∧ (r9 = 0 ∧ r = 9 ∨ r9 = 1 ∧ r = 0 ∧ ok u1 f1 g1 as1 ds1 gp1 mt1 mp1 ml1 sg1 a1 l1 (dep1, prt1, cs1, ps1, x1, y1, on1, ct1))))))))))
theorem n0i (k : Nat) (h : 1 ≤ k ∧ k < 100) : ¬ nI k = 0 := nI_ne0 (by omega) (by omega)
theorem judge {n : Nat} (hn : n ≤ 4096) {f g : Nat → Int32} (hg : Agr n f g) (by_ : Nat) (sz0 : Nat → Int32) (hz : ∀ t, t < 8 → sz0 t = -1) (pts : Int32) (con : Int32) (prt : Int32) (xs : Nat → Int32) (ys : Nat → Int32) (on : Nat → Int32) (la : Nat → Int32) (fl : Nat → Int32) (r0b : Option Nat) (r0p : Int32) (r0l : Int32) (r0w : Int32) (r1b : Option Nat) (r1p : Int32) (r1l : Int32) (r1w : Int32) (r2b : Option Nat) (r2p : Int32) (r2l : Int32) (r2w : Int32) (r3b : Option Nat) (r3p : Int32) (r3l : Int32) (r3w : Int32) (r4b : Option Nat) (r4p : Int32) (r4l : Int32) (r4w : Int32) (m0g : Int32) (m0l : Int32) (m0x : Int32) (m0y : Int32) (m0a : Int32) (m0b : Int32) (m0c : Int32) (m0d : Int32) (m1g : Int32) (m1l : Int32) (m1x : Int32) (m1y : Int32) (m1a : Int32) (m1b : Int32) (m1c : Int32) (m1d : Int32) (m2g : Int32) (m2l : Int32) (m2x : Int32) (m2y : Int32) (m2a : Int32) (m2b : Int32) (m2c : Int32) (m2d : Int32) (m3g : Int32) (m3l : Int32) (m3x : Int32) (m3y : Int32) (m3a : Int32) (m3b : Int32) (m3c : Int32) (m3d : Int32) (a l : Nat → Int32) (u0 f0 g0 as0 ds0 gp0 mt0 mp0 ml0 sg0 at0 e0 gd0 : Int32) (fl0 done dep mprt cs ps x y on0 ct : Nat → Int32) : ∃ u, P_Ff_fault by_ (nI n) (16 : Int32) (0 : Int32) (0 : Int32) (0 : Int32) (0 : Int32) (0 : Int32) (1 : Int32) (0 : Int32) (0 : Int32) (0 : Int32) (0 : Int32) f (fun _ => 0) sz0 (fun _ => 0) pts con prt xs ys on la fl r0b r0p r0l r0w r1b r1p r1l r1w r2b r2p r2l r2w r3b r3p r3l r3w r4b r4p r4l r4w m0g m0l m0x m0y m0a m0b m0c m0d m1g m1l m1x m1y m1a m1b m1c m1d m2g m2l m2x m2y m2a m2b m2c m2d m3g m3l m3x m3y m3a m3b m3c m3d = some u ∧ JM (nI n) g a l u0 f0 g0 as0 ds0 gp0 mt0 mp0 ml0 sg0 at0 e0 gd0 fl0 done dep mprt cs ps x y on0 ct u.1 (fun u1 f1 g1 as1 ds1 gp1 mt1 mp1 ml1 sg1 a1 l1 S => FaceR n f g u.2.1 u.2.2.1 u.2.2.2.1 u.2.2.2.2.1 u.2.2.2.2.2.1 u.2.2.2.2.2.2.1 u.2.2.2.2.2.2.2.1 u.2.2.2.2.2.2.2.2.1 u.2.2.2.2.2.2.2.2.2.1 u.2.2.2.2.2.2.2.2.2.2.1 u.2.2.2.2.2.2.2.2.2.2.2.1 u.2.2.2.2.2.2.2.2.2.2.2.2.1 u.2.2.2.2.2.2.2.2.2.2.2.2.2.1 u.2.2.2.2.2.2.2.2.2.2.2.2.2.2.1 u1 f1 g1 as1 ds1 gp1 mt1 mp1 ml1 sg1 a1 l1 S) := by
  unfold P_Ff_fault
  obtain ⟨r1, st, sz, a1, l1, p1, q1, h1⟩ := dir_b hn hg (fun _ => 0) sz0 a l hz
  rw [p1, some_bind]
  simp only [unp]
  rcases h1 with rfl | ⟨rfl, hT, hsz⟩
  · rw [if_pos rfl]
    exact ⟨_, rfl, 0, a1, l1, q1, Or.inl ⟨rfl, rfl⟩⟩
  rw [if_neg n10]
  obtain ⟨s2, z2, t2⟩ := hT.get hn (show 2 < 8 by omega) (hsz 2 (by omega))
  obtain ⟨r2, v, w, v', w', p2, q2, h2⟩ := head_b hn hg t2 16 0 u0 f0
  rw [p2, some_bind]
  simp only [unp]
  rcases h2 with rfl | ⟨rfl, U, F, hU1, hU2, hF, rfl, rfl, rfl, rfl⟩
  · rw [if_pos rfl]
    exact ⟨_, rfl, 1, a1, l1, q1, Or.inr ⟨rfl, 0, _, _, q2, Or.inl ⟨rfl, rfl⟩⟩⟩
  rw [if_neg n10]
  obtain ⟨s6, z6, t6⟩ := hT.get hn (show 6 < 8 by omega) (hsz 6 (by omega))
  obtain ⟨r3, v, v', p3, q3, h3⟩ := maxp_b hn hg t6 0 g0
  rw [p3, some_bind]
  simp only [unp]
  rcases h3 with rfl | ⟨rfl, G, hG1, hG2, rfl, rfl⟩
  · rw [if_pos rfl]
    exact ⟨_, rfl, 1, a1, l1, q1, Or.inr ⟨rfl, 1, _, _, q2, Or.inr ⟨rfl, 0, _, q3, Or.inl ⟨rfl, rfl⟩⟩⟩⟩
  rw [if_neg n10]
  obtain ⟨s3, z3, t3⟩ := hT.get hn (show 3 < 8 by omega) (hsz 3 (by omega))
  obtain ⟨r4, b1, b2, b3, b4, d1, d2, d3, d4, p4, q4, h4⟩ := hhea_b hn hg t3 hU2 hG2 0 0 0 1 as0 ds0 gp0 mt0
  rw [p4, some_bind]
  simp only [unp]
  rcases h4 with rfl | ⟨rfl, rfl, rfl, rfl, rfl, m1, m2, m3, M, hM1, hM2, eM⟩
  · rw [if_pos rfl]
    exact ⟨_, rfl, 1, a1, l1, q1, Or.inr ⟨rfl, 1, _, _, q2, Or.inr ⟨rfl, 1, _, q3, Or.inr ⟨rfl, 0, _, _, _, _, q4, Or.inl ⟨rfl, rfl⟩⟩⟩⟩⟩
  subst eM
  rw [if_neg n10]
  obtain ⟨s4, z4, t4⟩ := hT.get hn (show 4 < 8 by omega) (hsz 4 (by omega))
  obtain ⟨r5, p5, q5, h5⟩ := hmtx_b hn hg t4 hU2 hG2 ⟨hM1, hM2⟩
  rw [p5, some_bind]
  rcases h5 with rfl | ⟨rfl, hz4, hmc⟩
  · rw [if_pos rfl]
    exact ⟨_, rfl, 1, a1, l1, q1, Or.inr ⟨rfl, 1, _, _, q2, Or.inr ⟨rfl, 1, _, q3, Or.inr ⟨rfl, 1, _, _, _, _, q4, Or.inr ⟨rfl, 0, q5, Or.inl ⟨rfl, rfl⟩⟩⟩⟩⟩⟩
  rw [if_neg n10]
  obtain ⟨s5, z5, t5⟩ := hT.get hn (show 5 < 8 by omega) (hsz 5 (by omega))
  obtain ⟨s1, z1, t1⟩ := hT.get hn (show 1 < 8 by omega) (hsz 1 (by omega))
  obtain ⟨r6, gs, p6, q6, h6⟩ := loca_b hn hg t5 t1 hG2 hF (fun _ => 0)
  rw [p6, some_bind]
  simp only [unp]
  rcases h6 with rfl | ⟨rfl, hz5, hgs, hmo, hlo⟩
  · rw [if_pos rfl]
    exact ⟨_, rfl, 1, a1, l1, q1, Or.inr ⟨rfl, 1, _, _, q2, Or.inr ⟨rfl, 1, _, q3, Or.inr ⟨rfl, 1, _, _, _, _, q4, Or.inr ⟨rfl, 1, q5, Or.inr ⟨rfl, 0, q6, Or.inl ⟨rfl, rfl⟩⟩⟩⟩⟩⟩⟩
  rw [if_neg n10]
  obtain ⟨s0, z0, t0⟩ := hT.get hn (show 0 < 8 by omega) (hsz 0 (by omega))
  obtain ⟨r7, c1, c2, c3, e1, e2, e3, p7, q7, h7⟩ := cmap_b hn hg t0 0 0 0 mp0 ml0 sg0
  rw [p7, some_bind]
  simp only [unp]
  rcases h7 with rfl | ⟨rfl, rfl, rfl, rfl, C, B, D, rfl, rfl, rfl, hD1, hD2, hD3⟩
  · rw [if_pos rfl]
    exact ⟨_, rfl, 1, a1, l1, q1, Or.inr ⟨rfl, 1, _, _, q2, Or.inr ⟨rfl, 1, _, q3, Or.inr ⟨rfl, 1, _, _, _, _, q4, Or.inr ⟨rfl, 1, q5, Or.inr ⟨rfl, 1, q6, Or.inr ⟨rfl, 0, _, _, _, q7, Or.inl ⟨rfl, rfl⟩⟩⟩⟩⟩⟩⟩⟩
  rw [if_neg n10]
  have GC : GCtx n f g a1 F G s5 z5 s1 := ⟨hn, hg, t1.2.2.2.1, t5.2.2.2.1, t5.1, hF, hG2, hz5, hmo, by have := t1.1; omega⟩
  have FC : FCtx n gs G (bgF n f s5 F s1) := ⟨hn, hG2, fun j hj => hgs j hj, fun j hj => GC.mo hj, fun j hj => GC.le hj⟩
  obtain ⟨r8, at1, e8, gd8, fl8, done8, dep8, prt8, cs8, ps8, x8, y8, on8, ct8, q8, h8⟩ := glyf_m GC at0 e0 gd0 fl0 done dep mprt cs ps x y on0 ct
  obtain ⟨u, p8, h8'⟩ := sound_f (f := f) FC by_ pts con prt xs ys on la fl r0b r0p r0l r0w r1b r1p r1l r1w r2b r2p r2l r2w r3b r3p r3l r3w r4b r4p r4l r4w m0g m0l m0x m0y m0a m0b m0c m0d m1g m1l m1x m1y m1a m1b m1c m1d m2g m2l m2x m2y m2a m2b m2c m2d m3g m3l m3x m3y m3a m3b m3c m3d
  obtain ⟨t_r, tpts, tcon, tprt, txs, tys, ton, tla, tfl, tr0b, tr0p, tr0l, tr0w, tr1b, tr1p, tr1l, tr1w, tr2b, tr2p, tr2l, tr2w, tr3b, tr3p, tr3l, tr3w, tr4b, tr4p, tr4l, tr4w, tm0g, tm0l, tm0x, tm0y, tm0a, tm0b, tm0c, tm0d, tm1g, tm1l, tm1x, tm1y, tm1a, tm1b, tm1c, tm1d, tm2g, tm2l, tm2x, tm2y, tm2a, tm2b, tm2c, tm2d, tm3g, tm3l, tm3x, tm3y, tm3a, tm3b, tm3c, tm3d⟩ := u
  rw [p8, some_bind]
  simp only [unp]
  rcases h8 with ⟨rfl, j, j1, j2⟩ | ⟨rfl, hall⟩
  · have e_r : t_r = 0 := by
      rcases h8' with ⟨_, k⟩ | ⟨k, _⟩
      · obtain ⟨D', k'⟩ := k j j1
        rw [j2] at k'; cases k'
      · exact k
    subst e_r
    rw [if_pos rfl]
    exact ⟨_, rfl, 1, a1, l1, q1, Or.inr ⟨rfl, 1, _, _, q2, Or.inr ⟨rfl, 1, _, q3, Or.inr ⟨rfl, 1, _, _, _, _, q4, Or.inr ⟨rfl, 1, q5, Or.inr ⟨rfl, 1, q6, Or.inr ⟨rfl, 1, _, _, _, q7, Or.inr ⟨rfl, 0, _, _, _, _, _, _, _, _, _, _, _, _, _, q8, Or.inl ⟨rfl, rfl⟩⟩⟩⟩⟩⟩⟩⟩⟩
  have e_r : t_r = 1 := by
    rcases h8' with ⟨k, _⟩ | ⟨_, j, j1, j2⟩
    · exact k
    · obtain ⟨D', k', _⟩ := hall j j1
      rw [j2] at k'; cases k'
  subst e_r
  rw [if_neg n10]
  obtain ⟨r9, pp, p9, q9, h9⟩ := kern_b hn hg hT hU2
  rw [p9, some_bind]
  simp only [unp]
  rcases h9 with rfl | ⟨rfl, hK⟩
  · rw [if_pos rfl]
    exact ⟨_, rfl, 1, a1, l1, q1, Or.inr ⟨rfl, 1, _, _, q2, Or.inr ⟨rfl, 1, _, q3, Or.inr ⟨rfl, 1, _, _, _, _, q4, Or.inr ⟨rfl, 1, q5, Or.inr ⟨rfl, 1, q6, Or.inr ⟨rfl, 1, _, _, _, q7, Or.inr ⟨rfl, 1, _, _, _, _, _, _, _, _, _, _, _, _, _, q8, Or.inr ⟨rfl, 0, q9, Or.inl ⟨rfl, rfl⟩⟩⟩⟩⟩⟩⟩⟩⟩⟩
  · rw [if_neg n10]
    exact ⟨_, rfl, 1, a1, l1, q1, Or.inr ⟨rfl, 1, _, _, q2, Or.inr ⟨rfl, 1, _, q3, Or.inr ⟨rfl, 1, _, _, _, _, q4, Or.inr ⟨rfl, 1, q5, Or.inr ⟨rfl, 1, q6, Or.inr ⟨rfl, 1, _, _, _, q7, Or.inr ⟨rfl, 1, _, _, _, _, _, _, _, _, _, _, _, _, _, q8, Or.inr ⟨rfl, 1, q9, Or.inr ⟨rfl, rfl, U, G, F, M, C, B, D, s4, z4, s5, s1, ⟨hn, hg⟩, ⟨hU1, hU2, rfl, rfl⟩, ⟨hG1, hG2, rfl, rfl⟩, ⟨hF, rfl, rfl⟩, ⟨rfl, rfl, rfl, m1, m2, m3⟩, ⟨hM1, hM2, rfl, rfl⟩, ⟨rfl, rfl, rfl, rfl, rfl, rfl, hD1, hD2, hD3⟩, ⟨t4, hz4, hmc⟩, hK, FC, hall⟩⟩⟩⟩⟩⟩⟩⟩⟩⟩
