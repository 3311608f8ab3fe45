/-! PURE ROWS: font(), over a judged file (printed by wip/whole/gen/fontv.py) -/
theorem copy_badN {n : Nat} (hn : n ≤ 4096) (tp : Nat → Int32) (at0 e0 gd0 : Int32) (fl : Nat → Int32) (sz u0 f0 g0 as0 ds0 gp0 mt0 mp0 ml0 sg0 : Int32) (a l done dep prt cs ps x y on ct : Nat → Int32) : ∀ (d k m : Nat) (file : Nat → Int32), k + d = n → d < m → (∀ j, j < k → file j = vp_nar .byte (tp j)) → ∃ file' m', lp (L_Mo_font_badN_15 tp) m (nI k, nI n, at0, e0, gd0, fl, sz, u0, f0, g0, as0, ds0, gp0, mt0, mp0, ml0, sg0, file, a, l, done, dep, prt, cs, ps, x, y, on, ct) = P_Mo_font_badN_15b tp (lp (L_Mo_font_badN_15 tp) m') (nI n) (nI n) at0 e0 gd0 fl sz u0 f0 g0 as0 ds0 gp0 mt0 mp0 ml0 sg0 file' a l done dep prt cs ps x y on ct ∧ ∀ j, j < n → file' j = vp_nar .byte (tp j) := by
  intro d
  induction d with
  | zero =>
    intro k m file hk hm hf
    obtain ⟨m, rfl⟩ := suc_of hm
    have : k = n := by omega
    subst this
    exact ⟨file, m, e_Mo_font_badN_15 _ _ _ _ _ _ _ _ _ _ _ _ _ _ _ _ _ _ _ _ _ _ _ _ _ _ _ _ _ _ _, hf⟩
  | succ d ih =>
    intro k m file hk hm hf
    obtain ⟨m, rfl⟩ := suc_of hm
    obtain ⟨file', m', e1, e2⟩ := ih (k + 1) m (upd file k (vp_nar .byte (tp k))) (by omega) (by omega) (fun j hj => by
      by_cases w : j = k
      · rw [w, pk_us]
      · rw [pk_un w]; exact hf j (by omega))
    refine ⟨file', m', ?_, e2⟩
    rw [e_Mo_font_badN_15]
    rw [show P_Mo_font_badN_15b tp (lp (L_Mo_font_badN_15 tp) m) (nI k) (nI n) at0 e0 gd0 fl sz u0 f0 g0 as0 ds0 gp0 mt0 mp0 ml0 sg0 file a l done dep prt cs ps x y on ct = (if nI n ≤ nI k then _ else _) from rfl, if_neg (nI_ge (by omega) (by omega)), bdI (by omega) (by omega), bdI (by omega) (by omega), nI_clamp (by omega), nI_1]
    exact e1
theorem mfont_badN {n : Nat} (hn : n ≤ 4096) (tp : Nat → Int32) (at0 e0 gd0 : Int32) (fl : Nat → Int32) (sz u0 f0 g0 as0 ds0 gp0 mt0 mp0 ml0 sg0 : Int32) (file a l done dep prt cs ps x y on ct : Nat → Int32) : ∃ file1 : Nat → Int32, (∀ j, j < n → file1 j = vp_nar .byte (tp j)) ∧ ∀ (r : Int32) (ok : Int32 → Int32 → Int32 → Int32 → Int32 → Int32 → Int32 → Int32 → Int32 → Int32 → (Nat → Int32) → (Nat → Int32) → MSt → Prop), JM (nI n) file1 a l u0 f0 g0 as0 ds0 gp0 mt0 mp0 ml0 sg0 at0 e0 gd0 fl done dep prt cs ps x y on ct r ok → ∃ (at1 e1 gd1 u1 f1 g1 as1 ds1 gp1 mt1 mp1 ml1 sg1 : Int32) (fl1 a1 l1 done1 dep1 prt1 cs1 ps1 x1 y1 on1 ct1 : Nat → Int32), P_Mo_font_badN (nI n) at0 e0 gd0 tp fl sz u0 f0 g0 as0 ds0 gp0 mt0 mp0 ml0 sg0 file a l done dep prt cs ps x y on ct = some (r, 0, at1, e1, gd1, fl1, nI n, u1, f1, g1, as1, ds1, gp1, mt1, mp1, ml1, sg1, file1, a1, l1, done1, dep1, prt1, cs1, ps1, x1, y1, on1, ct1) ∧ (r = 0 → ok u1 f1 g1 as1 ds1 gp1 mt1 mp1 ml1 sg1 a1 l1 (dep1, prt1, cs1, ps1, x1, y1, on1, ct1)) := by
  obtain ⟨file1, m', e1, e2⟩ := copy_badN hn tp at0 e0 gd0 fl (nI n) u0 f0 g0 as0 ds0 gp0 mt0 mp0 ml0 sg0 a l done dep prt cs ps x y on ct n 0 fuel file (by omega) (by unfold fuel; omega) (fun j hj => absurd hj (by omega))
  refine ⟨file1, e2, fun r ok h => ?_⟩
  have e1 : P_Mo_font_badN (nI n) at0 e0 gd0 tp fl sz u0 f0 g0 as0 ds0 gp0 mt0 mp0 ml0 sg0 file a l done dep prt cs ps x y on ct = _ := e1
  rw [e1]
  unfold P_Mo_font_badN_15b
  rw [if_pos (nI_le (by omega) (by omega))]
  obtain ⟨r1, a1, l1, q1, h⟩ := h
  rw [q1, some_bind]
  simp only [unp]
  rcases h with ⟨rfl, rfl⟩ | ⟨rfl, r2, u1, f1, q2, h⟩
  · rw [if_pos rfl]
    exact ⟨_, _, _, _, _, _, _, _, _, _, _, _, _, _, _, _, _, _, _, _, _, _, _, _, _, rfl, fun q => absurd q (by decide)⟩
  rw [if_neg n10, q2, some_bind]
  simp only [unp]
  rcases h with ⟨rfl, rfl⟩ | ⟨rfl, r3, g1, q3, h⟩
  · rw [if_pos rfl]
    exact ⟨_, _, _, _, _, _, _, _, _, _, _, _, _, _, _, _, _, _, _, _, _, _, _, _, _, rfl, fun q => absurd q (by decide)⟩
  rw [if_neg n10, q3, some_bind]
  simp only [unp]
  rcases h with ⟨rfl, rfl⟩ | ⟨rfl, r4, as1, ds1, gp1, mt1, q4, h⟩
  · rw [if_pos rfl]
    exact ⟨_, _, _, _, _, _, _, _, _, _, _, _, _, _, _, _, _, _, _, _, _, _, _, _, _, rfl, fun q => absurd q (by decide)⟩
  rw [if_neg n10, q4, some_bind]
  simp only [unp]
  rcases h with ⟨rfl, rfl⟩ | ⟨rfl, r5, q5, h⟩
  · rw [if_pos rfl]
    exact ⟨_, _, _, _, _, _, _, _, _, _, _, _, _, _, _, _, _, _, _, _, _, _, _, _, _, rfl, fun q => absurd q (by decide)⟩
  rw [if_neg n10, q5, some_bind]
  rcases h with ⟨rfl, rfl⟩ | ⟨rfl, r6, q6, h⟩
  · rw [if_pos rfl]
    exact ⟨_, _, _, _, _, _, _, _, _, _, _, _, _, _, _, _, _, _, _, _, _, _, _, _, _, rfl, fun q => absurd q (by decide)⟩
  rw [if_neg n10, q6, some_bind]
  rcases h with ⟨rfl, rfl⟩ | ⟨rfl, r7, mp1, ml1, sg1, q7, h⟩
  · rw [if_pos rfl]
    exact ⟨_, _, _, _, _, _, _, _, _, _, _, _, _, _, _, _, _, _, _, _, _, _, _, _, _, rfl, fun q => absurd q (by decide)⟩
  rw [if_neg n10, q7, some_bind]
  simp only [unp]
  rcases h with ⟨rfl, rfl⟩ | ⟨rfl, r8, at1, e8, gd1, fl1, done1, dep1, prt1, cs1, ps1, x1, y1, on1, ct1, q8, h⟩
  · rw [if_pos rfl]
    exact ⟨_, _, _, _, _, _, _, _, _, _, _, _, _, _, _, _, _, _, _, _, _, _, _, _, _, rfl, fun q => absurd q (by decide)⟩
  rw [if_neg n10, q8, some_bind]
  simp only [unp]
  rcases h with ⟨rfl, rfl⟩ | ⟨rfl, r9, q9, h⟩
  · rw [if_pos rfl]
    exact ⟨_, _, _, _, _, _, _, _, _, _, _, _, _, _, _, _, _, _, _, _, _, _, _, _, _, rfl, fun q => absurd q (by decide)⟩
  rw [if_neg n10, q9, some_bind]
  rcases h with ⟨rfl, rfl⟩ | ⟨rfl, rfl, h⟩
  · rw [if_pos rfl]
    exact ⟨_, _, _, _, _, _, _, _, _, _, _, _, _, _, _, _, _, _, _, _, _, _, _, _, _, rfl, fun q => absurd q (by decide)⟩
  rw [if_neg n10]
  exact ⟨_, _, _, _, _, _, _, _, _, _, _, _, _, _, _, _, _, _, _, _, _, _, _, _, _, rfl, fun _ => h⟩
theorem copy_okN {n : Nat} (hn : n ≤ 4096) (tp : Nat → Int32) (at0 e0 gd0 : Int32) (fl : Nat → Int32) (sz u0 f0 g0 as0 ds0 gp0 mt0 mp0 ml0 sg0 : Int32) (a l done dep prt cs ps x y on ct : Nat → Int32) : ∀ (d k m : Nat) (file : Nat → Int32), k + d = n → d < m → (∀ j, j < k → file j = vp_nar .byte (tp j)) → ∃ file' m', lp (L_Mo_font_okN_15 tp) m (nI k, nI n, at0, e0, gd0, fl, sz, u0, f0, g0, as0, ds0, gp0, mt0, mp0, ml0, sg0, file, a, l, done, dep, prt, cs, ps, x, y, on, ct) = P_Mo_font_okN_15b tp (lp (L_Mo_font_okN_15 tp) m') (nI n) (nI n) at0 e0 gd0 fl sz u0 f0 g0 as0 ds0 gp0 mt0 mp0 ml0 sg0 file' a l done dep prt cs ps x y on ct ∧ ∀ j, j < n → file' j = vp_nar .byte (tp j) := by
  intro d
  induction d with
  | zero =>
    intro k m file hk hm hf
    obtain ⟨m, rfl⟩ := suc_of hm
    have : k = n := by omega
    subst this
    exact ⟨file, m, e_Mo_font_okN_15 _ _ _ _ _ _ _ _ _ _ _ _ _ _ _ _ _ _ _ _ _ _ _ _ _ _ _ _ _ _ _, hf⟩
  | succ d ih =>
    intro k m file hk hm hf
    obtain ⟨m, rfl⟩ := suc_of hm
    obtain ⟨file', m', e1, e2⟩ := ih (k + 1) m (upd file k (vp_nar .byte (tp k))) (by omega) (by omega) (fun j hj => by
      by_cases w : j = k
      · rw [w, pk_us]
      · rw [pk_un w]; exact hf j (by omega))
    refine ⟨file', m', ?_, e2⟩
    rw [e_Mo_font_okN_15]
    rw [show P_Mo_font_okN_15b tp (lp (L_Mo_font_okN_15 tp) m) (nI k) (nI n) at0 e0 gd0 fl sz u0 f0 g0 as0 ds0 gp0 mt0 mp0 ml0 sg0 file a l done dep prt cs ps x y on ct = (if nI n ≤ nI k then _ else _) from rfl, if_neg (nI_ge (by omega) (by omega)), bdI (by omega) (by omega), bdI (by omega) (by omega), nI_clamp (by omega), nI_1]
    exact e1
theorem mfont_okN {n : Nat} (hn : n ≤ 4096) (tp : Nat → Int32) (at0 e0 gd0 : Int32) (fl : Nat → Int32) (sz u0 f0 g0 as0 ds0 gp0 mt0 mp0 ml0 sg0 : Int32) (file a l done dep prt cs ps x y on ct : Nat → Int32) : ∃ file1 : Nat → Int32, (∀ j, j < n → file1 j = vp_nar .byte (tp j)) ∧ ∀ (r : Int32) (ok : Int32 → Int32 → Int32 → Int32 → Int32 → Int32 → Int32 → Int32 → Int32 → Int32 → (Nat → Int32) → (Nat → Int32) → MSt → Prop), JM (nI n) file1 a l u0 f0 g0 as0 ds0 gp0 mt0 mp0 ml0 sg0 at0 e0 gd0 fl done dep prt cs ps x y on ct r ok → ∃ (at1 e1 gd1 u1 f1 g1 as1 ds1 gp1 mt1 mp1 ml1 sg1 : Int32) (fl1 a1 l1 done1 dep1 prt1 cs1 ps1 x1 y1 on1 ct1 : Nat → Int32), P_Mo_font_okN (nI n) at0 e0 gd0 tp fl sz u0 f0 g0 as0 ds0 gp0 mt0 mp0 ml0 sg0 file a l done dep prt cs ps x y on ct = some (r, 0, at1, e1, gd1, fl1, nI n, u1, f1, g1, as1, ds1, gp1, mt1, mp1, ml1, sg1, file1, a1, l1, done1, dep1, prt1, cs1, ps1, x1, y1, on1, ct1) ∧ (r = 0 → ok u1 f1 g1 as1 ds1 gp1 mt1 mp1 ml1 sg1 a1 l1 (dep1, prt1, cs1, ps1, x1, y1, on1, ct1)) := by
  obtain ⟨file1, m', e1, e2⟩ := copy_okN hn tp at0 e0 gd0 fl (nI n) u0 f0 g0 as0 ds0 gp0 mt0 mp0 ml0 sg0 a l done dep prt cs ps x y on ct n 0 fuel file (by omega) (by unfold fuel; omega) (fun j hj => absurd hj (by omega))
  refine ⟨file1, e2, fun r ok h => ?_⟩
  have e1 : P_Mo_font_okN (nI n) at0 e0 gd0 tp fl sz u0 f0 g0 as0 ds0 gp0 mt0 mp0 ml0 sg0 file a l done dep prt cs ps x y on ct = _ := e1
  rw [e1]
  unfold P_Mo_font_okN_15b
  rw [if_pos (nI_le (by omega) (by omega))]
  obtain ⟨r1, a1, l1, q1, h⟩ := h
  rw [q1, some_bind]
  simp only [unp]
  rcases h with ⟨rfl, rfl⟩ | ⟨rfl, r2, u1, f1, q2, h⟩
  · rw [if_pos rfl]
    exact ⟨_, _, _, _, _, _, _, _, _, _, _, _, _, _, _, _, _, _, _, _, _, _, _, _, _, rfl, fun q => absurd q (by decide)⟩
  rw [if_neg n10, q2, some_bind]
  simp only [unp]
  rcases h with ⟨rfl, rfl⟩ | ⟨rfl, r3, g1, q3, h⟩
  · rw [if_pos rfl]
    exact ⟨_, _, _, _, _, _, _, _, _, _, _, _, _, _, _, _, _, _, _, _, _, _, _, _, _, rfl, fun q => absurd q (by decide)⟩
  rw [if_neg n10, q3, some_bind]
  simp only [unp]
  rcases h with ⟨rfl, rfl⟩ | ⟨rfl, r4, as1, ds1, gp1, mt1, q4, h⟩
  · rw [if_pos rfl]
    exact ⟨_, _, _, _, _, _, _, _, _, _, _, _, _, _, _, _, _, _, _, _, _, _, _, _, _, rfl, fun q => absurd q (by decide)⟩
  rw [if_neg n10, q4, some_bind]
  simp only [unp]
  rcases h with ⟨rfl, rfl⟩ | ⟨rfl, r5, q5, h⟩
  · rw [if_pos rfl]
    exact ⟨_, _, _, _, _, _, _, _, _, _, _, _, _, _, _, _, _, _, _, _, _, _, _, _, _, rfl, fun q => absurd q (by decide)⟩
  rw [if_neg n10, q5, some_bind]
  rcases h with ⟨rfl, rfl⟩ | ⟨rfl, r6, q6, h⟩
  · rw [if_pos rfl]
    exact ⟨_, _, _, _, _, _, _, _, _, _, _, _, _, _, _, _, _, _, _, _, _, _, _, _, _, rfl, fun q => absurd q (by decide)⟩
  rw [if_neg n10, q6, some_bind]
  rcases h with ⟨rfl, rfl⟩ | ⟨rfl, r7, mp1, ml1, sg1, q7, h⟩
  · rw [if_pos rfl]
    exact ⟨_, _, _, _, _, _, _, _, _, _, _, _, _, _, _, _, _, _, _, _, _, _, _, _, _, rfl, fun q => absurd q (by decide)⟩
  rw [if_neg n10, q7, some_bind]
  simp only [unp]
  rcases h with ⟨rfl, rfl⟩ | ⟨rfl, r8, at1, e8, gd1, fl1, done1, dep1, prt1, cs1, ps1, x1, y1, on1, ct1, q8, h⟩
  · rw [if_pos rfl]
    exact ⟨_, _, _, _, _, _, _, _, _, _, _, _, _, _, _, _, _, _, _, _, _, _, _, _, _, rfl, fun q => absurd q (by decide)⟩
  rw [if_neg n10, q8, some_bind]
  simp only [unp]
  rcases h with ⟨rfl, rfl⟩ | ⟨rfl, r9, q9, h⟩
  · rw [if_pos rfl]
    exact ⟨_, _, _, _, _, _, _, _, _, _, _, _, _, _, _, _, _, _, _, _, _, _, _, _, _, rfl, fun q => absurd q (by decide)⟩
  rw [if_neg n10, q9, some_bind]
  rcases h with ⟨rfl, rfl⟩ | ⟨rfl, rfl, h⟩
  · rw [if_pos rfl]
    exact ⟨_, _, _, _, _, _, _, _, _, _, _, _, _, _, _, _, _, _, _, _, _, _, _, _, _, rfl, fun q => absurd q (by decide)⟩
  rw [if_neg n10]
  exact ⟨_, _, _, _, _, _, _, _, _, _, _, _, _, _, _, _, _, _, _, _, _, _, _, _, _, rfl, fun _ => h⟩
theorem copy_badF {n : Nat} (hn : n ≤ 4096) (tp : Nat → Int32) (at0 e0 gd0 : Int32) (fl : Nat → Int32) (sz u0 f0 g0 as0 ds0 gp0 mt0 mp0 ml0 sg0 : Int32) (a l done dep prt cs ps x y on ct : Nat → Int32) : ∀ (d k m : Nat) (file : Nat → Int32), k + d = n → d < m → (∀ j, j < k → file j = vp_nar .byte (tp j)) → ∃ file' m', lp (L_Mo_font_badF_15 tp) m (nI k, nI n, at0, e0, gd0, fl, sz, u0, f0, g0, as0, ds0, gp0, mt0, mp0, ml0, sg0, file, a, l, done, dep, prt, cs, ps, x, y, on, ct) = P_Mo_font_badF_15b tp (lp (L_Mo_font_badF_15 tp) m') (nI n) (nI n) at0 e0 gd0 fl sz u0 f0 g0 as0 ds0 gp0 mt0 mp0 ml0 sg0 file' a l done dep prt cs ps x y on ct ∧ ∀ j, j < n → file' j = vp_nar .byte (tp j) := by
  intro d
  induction d with
  | zero =>
    intro k m file hk hm hf
    obtain ⟨m, rfl⟩ := suc_of hm
    have : k = n := by omega
    subst this
    exact ⟨file, m, e_Mo_font_badF_15 _ _ _ _ _ _ _ _ _ _ _ _ _ _ _ _ _ _ _ _ _ _ _ _ _ _ _ _ _ _ _, hf⟩
  | succ d ih =>
    intro k m file hk hm hf
    obtain ⟨m, rfl⟩ := suc_of hm
    obtain ⟨file', m', e1, e2⟩ := ih (k + 1) m (upd file k (vp_nar .byte (tp k))) (by omega) (by omega) (fun j hj => by
      by_cases w : j = k
      · rw [w, pk_us]
      · rw [pk_un w]; exact hf j (by omega))
    refine ⟨file', m', ?_, e2⟩
    rw [e_Mo_font_badF_15]
    rw [show P_Mo_font_badF_15b tp (lp (L_Mo_font_badF_15 tp) m) (nI k) (nI n) at0 e0 gd0 fl sz u0 f0 g0 as0 ds0 gp0 mt0 mp0 ml0 sg0 file a l done dep prt cs ps x y on ct = (if nI n ≤ nI k then _ else _) from rfl, if_neg (nI_ge (by omega) (by omega)), bdI (by omega) (by omega), bdI (by omega) (by omega), nI_clamp (by omega), nI_1]
    exact e1
theorem mfont_badF {n : Nat} (hn : n ≤ 4096) (tp : Nat → Int32) (at0 e0 gd0 : Int32) (fl : Nat → Int32) (sz u0 f0 g0 as0 ds0 gp0 mt0 mp0 ml0 sg0 : Int32) (file a l done dep prt cs ps x y on ct : Nat → Int32) : ∃ file1 : Nat → Int32, (∀ j, j < n → file1 j = vp_nar .byte (tp j)) ∧ ∀ (r : Int32) (ok : Int32 → Int32 → Int32 → Int32 → Int32 → Int32 → Int32 → Int32 → Int32 → Int32 → (Nat → Int32) → (Nat → Int32) → MSt → Prop), JM (nI n) file1 a l u0 f0 g0 as0 ds0 gp0 mt0 mp0 ml0 sg0 at0 e0 gd0 fl done dep prt cs ps x y on ct r ok → ∃ (at1 e1 gd1 u1 f1 g1 as1 ds1 gp1 mt1 mp1 ml1 sg1 : Int32) (fl1 a1 l1 done1 dep1 prt1 cs1 ps1 x1 y1 on1 ct1 : Nat → Int32), P_Mo_font_badF (nI n) at0 e0 gd0 tp fl sz u0 f0 g0 as0 ds0 gp0 mt0 mp0 ml0 sg0 file a l done dep prt cs ps x y on ct = some (r, 0, at1, e1, gd1, fl1, nI n, u1, f1, g1, as1, ds1, gp1, mt1, mp1, ml1, sg1, file1, a1, l1, done1, dep1, prt1, cs1, ps1, x1, y1, on1, ct1) ∧ (r = 0 → ok u1 f1 g1 as1 ds1 gp1 mt1 mp1 ml1 sg1 a1 l1 (dep1, prt1, cs1, ps1, x1, y1, on1, ct1)) := by
  obtain ⟨file1, m', e1, e2⟩ := copy_badF hn tp at0 e0 gd0 fl (nI n) u0 f0 g0 as0 ds0 gp0 mt0 mp0 ml0 sg0 a l done dep prt cs ps x y on ct n 0 fuel file (by omega) (by unfold fuel; omega) (fun j hj => absurd hj (by omega))
  refine ⟨file1, e2, fun r ok h => ?_⟩
  have e1 : P_Mo_font_badF (nI n) at0 e0 gd0 tp fl sz u0 f0 g0 as0 ds0 gp0 mt0 mp0 ml0 sg0 file a l done dep prt cs ps x y on ct = _ := e1
  rw [e1]
  unfold P_Mo_font_badF_15b
  rw [if_pos (nI_le (by omega) (by omega))]
  obtain ⟨r1, a1, l1, q1, h⟩ := h
  rw [q1, some_bind]
  simp only [unp]
  rcases h with ⟨rfl, rfl⟩ | ⟨rfl, r2, u1, f1, q2, h⟩
  · rw [if_pos rfl]
    exact ⟨_, _, _, _, _, _, _, _, _, _, _, _, _, _, _, _, _, _, _, _, _, _, _, _, _, rfl, fun q => absurd q (by decide)⟩
  rw [if_neg n10, q2, some_bind]
  simp only [unp]
  rcases h with ⟨rfl, rfl⟩ | ⟨rfl, r3, g1, q3, h⟩
  · rw [if_pos rfl]
    exact ⟨_, _, _, _, _, _, _, _, _, _, _, _, _, _, _, _, _, _, _, _, _, _, _, _, _, rfl, fun q => absurd q (by decide)⟩
  rw [if_neg n10, q3, some_bind]
  simp only [unp]
  rcases h with ⟨rfl, rfl⟩ | ⟨rfl, r4, as1, ds1, gp1, mt1, q4, h⟩
  · rw [if_pos rfl]
    exact ⟨_, _, _, _, _, _, _, _, _, _, _, _, _, _, _, _, _, _, _, _, _, _, _, _, _, rfl, fun q => absurd q (by decide)⟩
  rw [if_neg n10, q4, some_bind]
  simp only [unp]
  rcases h with ⟨rfl, rfl⟩ | ⟨rfl, r5, q5, h⟩
  · rw [if_pos rfl]
    exact ⟨_, _, _, _, _, _, _, _, _, _, _, _, _, _, _, _, _, _, _, _, _, _, _, _, _, rfl, fun q => absurd q (by decide)⟩
  rw [if_neg n10, q5, some_bind]
  rcases h with ⟨rfl, rfl⟩ | ⟨rfl, r6, q6, h⟩
  · rw [if_pos rfl]
    exact ⟨_, _, _, _, _, _, _, _, _, _, _, _, _, _, _, _, _, _, _, _, _, _, _, _, _, rfl, fun q => absurd q (by decide)⟩
  rw [if_neg n10, q6, some_bind]
  rcases h with ⟨rfl, rfl⟩ | ⟨rfl, r7, mp1, ml1, sg1, q7, h⟩
  · rw [if_pos rfl]
    exact ⟨_, _, _, _, _, _, _, _, _, _, _, _, _, _, _, _, _, _, _, _, _, _, _, _, _, rfl, fun q => absurd q (by decide)⟩
  rw [if_neg n10, q7, some_bind]
  simp only [unp]
  rcases h with ⟨rfl, rfl⟩ | ⟨rfl, r8, at1, e8, gd1, fl1, done1, dep1, prt1, cs1, ps1, x1, y1, on1, ct1, q8, h⟩
  · rw [if_pos rfl]
    exact ⟨_, _, _, _, _, _, _, _, _, _, _, _, _, _, _, _, _, _, _, _, _, _, _, _, _, rfl, fun q => absurd q (by decide)⟩
  rw [if_neg n10, q8, some_bind]
  simp only [unp]
  rcases h with ⟨rfl, rfl⟩ | ⟨rfl, r9, q9, h⟩
  · rw [if_pos rfl]
    exact ⟨_, _, _, _, _, _, _, _, _, _, _, _, _, _, _, _, _, _, _, _, _, _, _, _, _, rfl, fun q => absurd q (by decide)⟩
  rw [if_neg n10, q9, some_bind]
  rcases h with ⟨rfl, rfl⟩ | ⟨rfl, rfl, h⟩
  · rw [if_pos rfl]
    exact ⟨_, _, _, _, _, _, _, _, _, _, _, _, _, _, _, _, _, _, _, _, _, _, _, _, _, rfl, fun q => absurd q (by decide)⟩
  rw [if_neg n10]
  exact ⟨_, _, _, _, _, _, _, _, _, _, _, _, _, _, _, _, _, _, _, _, _, _, _, _, _, rfl, fun _ => h⟩
theorem copy_okF {n : Nat} (hn : n ≤ 4096) (tp : Nat → Int32) (at0 e0 gd0 : Int32) (fl : Nat → Int32) (sz u0 f0 g0 as0 ds0 gp0 mt0 mp0 ml0 sg0 : Int32) (a l done dep prt cs ps x y on ct : Nat → Int32) : ∀ (d k m : Nat) (file : Nat → Int32), k + d = n → d < m → (∀ j, j < k → file j = vp_nar .byte (tp j)) → ∃ file' m', lp (L_Mo_font_okF_15 tp) m (nI k, nI n, at0, e0, gd0, fl, sz, u0, f0, g0, as0, ds0, gp0, mt0, mp0, ml0, sg0, file, a, l, done, dep, prt, cs, ps, x, y, on, ct) = P_Mo_font_okF_15b tp (lp (L_Mo_font_okF_15 tp) m') (nI n) (nI n) at0 e0 gd0 fl sz u0 f0 g0 as0 ds0 gp0 mt0 mp0 ml0 sg0 file' a l done dep prt cs ps x y on ct ∧ ∀ j, j < n → file' j = vp_nar .byte (tp j) := by
  intro d
  induction d with
  | zero =>
    intro k m file hk hm hf
    obtain ⟨m, rfl⟩ := suc_of hm
    have : k = n := by omega
    subst this
    exact ⟨file, m, e_Mo_font_okF_15 _ _ _ _ _ _ _ _ _ _ _ _ _ _ _ _ _ _ _ _ _ _ _ _ _ _ _ _ _ _ _, hf⟩
  | succ d ih =>
    intro k m file hk hm hf
    obtain ⟨m, rfl⟩ := suc_of hm
    obtain ⟨file', m', e1, e2⟩ := ih (k + 1) m (upd file k (vp_nar .byte (tp k))) (by omega) (by omega) (fun j hj => by
      by_cases w : j = k
      · rw [w, pk_us]
      · rw [pk_un w]; exact hf j (by omega))
    refine ⟨file', m', ?_, e2⟩
    rw [e_Mo_font_okF_15]
    rw [show P_Mo_font_okF_15b tp (lp (L_Mo_font_okF_15 tp) m) (nI k) (nI n) at0 e0 gd0 fl sz u0 f0 g0 as0 ds0 gp0 mt0 mp0 ml0 sg0 file a l done dep prt cs ps x y on ct = (if nI n ≤ nI k then _ else _) from rfl, if_neg (nI_ge (by omega) (by omega)), bdI (by omega) (by omega), bdI (by omega) (by omega), nI_clamp (by omega), nI_1]
    exact e1
theorem mfont_okF {n : Nat} (hn : n ≤ 4096) (tp : Nat → Int32) (at0 e0 gd0 : Int32) (fl : Nat → Int32) (sz u0 f0 g0 as0 ds0 gp0 mt0 mp0 ml0 sg0 : Int32) (file a l done dep prt cs ps x y on ct : Nat → Int32) : ∃ file1 : Nat → Int32, (∀ j, j < n → file1 j = vp_nar .byte (tp j)) ∧ ∀ (r : Int32) (ok : Int32 → Int32 → Int32 → Int32 → Int32 → Int32 → Int32 → Int32 → Int32 → Int32 → (Nat → Int32) → (Nat → Int32) → MSt → Prop), JM (nI n) file1 a l u0 f0 g0 as0 ds0 gp0 mt0 mp0 ml0 sg0 at0 e0 gd0 fl done dep prt cs ps x y on ct r ok → ∃ (at1 e1 gd1 u1 f1 g1 as1 ds1 gp1 mt1 mp1 ml1 sg1 : Int32) (fl1 a1 l1 done1 dep1 prt1 cs1 ps1 x1 y1 on1 ct1 : Nat → Int32), P_Mo_font_okF (nI n) at0 e0 gd0 tp fl sz u0 f0 g0 as0 ds0 gp0 mt0 mp0 ml0 sg0 file a l done dep prt cs ps x y on ct = some (r, 0, at1, e1, gd1, fl1, nI n, u1, f1, g1, as1, ds1, gp1, mt1, mp1, ml1, sg1, file1, a1, l1, done1, dep1, prt1, cs1, ps1, x1, y1, on1, ct1) ∧ (r = 0 → ok u1 f1 g1 as1 ds1 gp1 mt1 mp1 ml1 sg1 a1 l1 (dep1, prt1, cs1, ps1, x1, y1, on1, ct1)) := by
  obtain ⟨file1, m', e1, e2⟩ := copy_okF hn tp at0 e0 gd0 fl (nI n) u0 f0 g0 as0 ds0 gp0 mt0 mp0 ml0 sg0 a l done dep prt cs ps x y on ct n 0 fuel file (by omega) (by unfold fuel; omega) (fun j hj => absurd hj (by omega))
  refine ⟨file1, e2, fun r ok h => ?_⟩
  have e1 : P_Mo_font_okF (nI n) at0 e0 gd0 tp fl sz u0 f0 g0 as0 ds0 gp0 mt0 mp0 ml0 sg0 file a l done dep prt cs ps x y on ct = _ := e1
  rw [e1]
  unfold P_Mo_font_okF_15b
  rw [if_pos (nI_le (by omega) (by omega))]
  obtain ⟨r1, a1, l1, q1, h⟩ := h
  rw [q1, some_bind]
  simp only [unp]
  rcases h with ⟨rfl, rfl⟩ | ⟨rfl, r2, u1, f1, q2, h⟩
  · rw [if_pos rfl]
    exact ⟨_, _, _, _, _, _, _, _, _, _, _, _, _, _, _, _, _, _, _, _, _, _, _, _, _, rfl, fun q => absurd q (by decide)⟩
  rw [if_neg n10, q2, some_bind]
  simp only [unp]
  rcases h with ⟨rfl, rfl⟩ | ⟨rfl, r3, g1, q3, h⟩
  · rw [if_pos rfl]
    exact ⟨_, _, _, _, _, _, _, _, _, _, _, _, _, _, _, _, _, _, _, _, _, _, _, _, _, rfl, fun q => absurd q (by decide)⟩
  rw [if_neg n10, q3, some_bind]
  simp only [unp]
  rcases h with ⟨rfl, rfl⟩ | ⟨rfl, r4, as1, ds1, gp1, mt1, q4, h⟩
  · rw [if_pos rfl]
    exact ⟨_, _, _, _, _, _, _, _, _, _, _, _, _, _, _, _, _, _, _, _, _, _, _, _, _, rfl, fun q => absurd q (by decide)⟩
  rw [if_neg n10, q4, some_bind]
  simp only [unp]
  rcases h with ⟨rfl, rfl⟩ | ⟨rfl, r5, q5, h⟩
  · rw [if_pos rfl]
    exact ⟨_, _, _, _, _, _, _, _, _, _, _, _, _, _, _, _, _, _, _, _, _, _, _, _, _, rfl, fun q => absurd q (by decide)⟩
  rw [if_neg n10, q5, some_bind]
  rcases h with ⟨rfl, rfl⟩ | ⟨rfl, r6, q6, h⟩
  · rw [if_pos rfl]
    exact ⟨_, _, _, _, _, _, _, _, _, _, _, _, _, _, _, _, _, _, _, _, _, _, _, _, _, rfl, fun q => absurd q (by decide)⟩
  rw [if_neg n10, q6, some_bind]
  rcases h with ⟨rfl, rfl⟩ | ⟨rfl, r7, mp1, ml1, sg1, q7, h⟩
  · rw [if_pos rfl]
    exact ⟨_, _, _, _, _, _, _, _, _, _, _, _, _, _, _, _, _, _, _, _, _, _, _, _, _, rfl, fun q => absurd q (by decide)⟩
  rw [if_neg n10, q7, some_bind]
  simp only [unp]
  rcases h with ⟨rfl, rfl⟩ | ⟨rfl, r8, at1, e8, gd1, fl1, done1, dep1, prt1, cs1, ps1, x1, y1, on1, ct1, q8, h⟩
  · rw [if_pos rfl]
    exact ⟨_, _, _, _, _, _, _, _, _, _, _, _, _, _, _, _, _, _, _, _, _, _, _, _, _, rfl, fun q => absurd q (by decide)⟩
  rw [if_neg n10, q8, some_bind]
  simp only [unp]
  rcases h with ⟨rfl, rfl⟩ | ⟨rfl, r9, q9, h⟩
  · rw [if_pos rfl]
    exact ⟨_, _, _, _, _, _, _, _, _, _, _, _, _, _, _, _, _, _, _, _, _, _, _, _, _, rfl, fun q => absurd q (by decide)⟩
  rw [if_neg n10, q9, some_bind]
  rcases h with ⟨rfl, rfl⟩ | ⟨rfl, rfl, h⟩
  · rw [if_pos rfl]
    exact ⟨_, _, _, _, _, _, _, _, _, _, _, _, _, _, _, _, _, _, _, _, _, _, _, _, _, rfl, fun q => absurd q (by decide)⟩
  rw [if_neg n10]
  exact ⟨_, _, _, _, _, _, _, _, _, _, _, _, _, _, _, _, _, _, _, _, _, _, _, _, _, rfl, fun _ => h⟩
theorem gfont_b {n : Nat} (by_ : Nat) (f : Nat → Int32) {sz0 : Nat → Int32} (hi : P_Ff_init (nI n) = some (sz0, nI n)) (pts : Int32) (con : Int32) (prt : Int32) (xs : Nat → Int32) (ys : Nat → Int32) (on : Nat → Int32) (la : Nat → Int32) (fl : Nat → Int32) (r0b : Option Nat) (r0p : Int32) (r0l : Int32) (r0w : Int32) (r1b : Option Nat) (r1p : Int32) (r1l : Int32) (r1w : Int32) (r2b : Option Nat) (r2p : Int32) (r2l : Int32) (r2w : Int32) (r3b : Option Nat) (r3p : Int32) (r3l : Int32) (r3w : Int32) (r4b : Option Nat) (r4p : Int32) (r4l : Int32) (r4w : Int32) (m0g : Int32) (m0l : Int32) (m0x : Int32) (m0y : Int32) (m0a : Int32) (m0b : Int32) (m0c : Int32) (m0d : Int32) (m1g : Int32) (m1l : Int32) (m1x : Int32) (m1y : Int32) (m1a : Int32) (m1b : Int32) (m1c : Int32) (m1d : Int32) (m2g : Int32) (m2l : Int32) (m2x : Int32) (m2y : Int32) (m2a : Int32) (m2b : Int32) (m2c : Int32) (m2d : Int32) (m3g : Int32) (m3l : Int32) (m3x : Int32) (m3y : Int32) (m3a : Int32) (m3b : Int32) (m3c : Int32) (m3d : Int32) (r : Int32) (v1 v2 v3 v4 v5 v6 v7 v8 v9 v10 v11 : Int32) (v12 v13 v14 : Nat → Int32) (tpts : Int32) (tcon : Int32) (tprt : Int32) (txs : Nat → Int32) (tys : Nat → Int32) (ton : Nat → Int32) (tla : Nat → Int32) (tfl : Nat → Int32) (tr0b : Option Nat) (tr0p : Int32) (tr0l : Int32) (tr0w : Int32) (tr1b : Option Nat) (tr1p : Int32) (tr1l : Int32) (tr1w : Int32) (tr2b : Option Nat) (tr2p : Int32) (tr2l : Int32) (tr2w : Int32) (tr3b : Option Nat) (tr3p : Int32) (tr3l : Int32) (tr3w : Int32) (tr4b : Option Nat) (tr4p : Int32) (tr4l : Int32) (tr4w : Int32) (tm0g : Int32) (tm0l : Int32) (tm0x : Int32) (tm0y : Int32) (tm0a : Int32) (tm0b : Int32) (tm0c : Int32) (tm0d : Int32) (tm1g : Int32) (tm1l : Int32) (tm1x : Int32) (tm1y : Int32) (tm1a : Int32) (tm1b : Int32) (tm1c : Int32) (tm1d : Int32) (tm2g : Int32) (tm2l : Int32) (tm2x : Int32) (tm2y : Int32) (tm2a : Int32) (tm2b : Int32) (tm2c : Int32) (tm2d : Int32) (tm3g : Int32) (tm3l : Int32) (tm3x : Int32) (tm3y : Int32) (tm3a : Int32) (tm3b : Int32) (tm3c : Int32) (tm3d : Int32) (h : P_Ff_fault by_ (nI n) (16 : Int32) (0 : Int32) (0 : Int32) (0 : Int32) (0 : Int32) (0 : Int32) (1 : Int32) (0 : Int32) (0 : Int32) (0 : Int32) (0 : Int32) f (fun _ => 0) sz0 (fun _ => 0) pts con prt xs ys on la fl r0b r0p r0l r0w r1b r1p r1l r1w r2b r2p r2l r2w r3b r3p r3l r3w r4b r4p r4l r4w m0g m0l m0x m0y m0a m0b m0c m0d m1g m1l m1x m1y m1a m1b m1c m1d m2g m2l m2x m2y m2a m2b m2c m2d m3g m3l m3x m3y m3a m3b m3c m3d = some (r, v1, v2, v3, v4, v5, v6, v7, v8, v9, v10, v11, v12, v13, v14, tpts, tcon, tprt, txs, tys, ton, tla, tfl, tr0b, tr0p, tr0l, tr0w, tr1b, tr1p, tr1l, tr1w, tr2b, tr2p, tr2l, tr2w, tr3b, tr3p, tr3l, tr3w, tr4b, tr4p, tr4l, tr4w, tm0g, tm0l, tm0x, tm0y, tm0a, tm0b, tm0c, tm0d, tm1g, tm1l, tm1x, tm1y, tm1a, tm1b, tm1c, tm1d, tm2g, tm2l, tm2x, tm2y, tm2a, tm2b, tm2c, tm2d, tm3g, tm3l, tm3x, tm3y, tm3a, tm3b, tm3c, tm3d)) (hr : ¬ r = 0) : P_Gp_font_bad by_ (nI n) f pts con prt xs ys on la fl r0b r0p r0l r0w r1b r1p r1l r1w r2b r2p r2l r2w r3b r3p r3l r3w r4b r4p r4l r4w m0g m0l m0x m0y m0a m0b m0c m0d m1g m1l m1x m1y m1a m1b m1c m1d m2g m2l m2x m2y m2a m2b m2c m2d m3g m3l m3x m3y m3a m3b m3c m3d = some (r, 0, tpts, tcon, tprt, txs, tys, ton, tla, tfl, tr0b, tr0p, tr0l, tr0w, tr1b, tr1p, tr1l, tr1w, tr2b, tr2p, tr2l, tr2w, tr3b, tr3p, tr3l, tr3w, tr4b, tr4p, tr4l, tr4w, tm0g, tm0l, tm0x, tm0y, tm0a, tm0b, tm0c, tm0d, tm1g, tm1l, tm1x, tm1y, tm1a, tm1b, tm1c, tm1d, tm2g, tm2l, tm2x, tm2y, tm2a, tm2b, tm2c, tm2d, tm3g, tm3l, tm3x, tm3y, tm3a, tm3b, tm3c, tm3d) := by
  unfold P_Gp_font_bad
  rw [hi, some_bind]
  dsimp only [unp]
  rw [h, some_bind]
  dsimp only [unp]
  rw [if_neg hr]
theorem gfont_g {n : Nat} (by_ : Nat) (f : Nat → Int32) {sz0 : Nat → Int32} (hi : P_Ff_init (nI n) = some (sz0, nI n)) (pts : Int32) (con : Int32) (prt : Int32) (xs : Nat → Int32) (ys : Nat → Int32) (on : Nat → Int32) (la : Nat → Int32) (fl : Nat → Int32) (r0b : Option Nat) (r0p : Int32) (r0l : Int32) (r0w : Int32) (r1b : Option Nat) (r1p : Int32) (r1l : Int32) (r1w : Int32) (r2b : Option Nat) (r2p : Int32) (r2l : Int32) (r2w : Int32) (r3b : Option Nat) (r3p : Int32) (r3l : Int32) (r3w : Int32) (r4b : Option Nat) (r4p : Int32) (r4l : Int32) (r4w : Int32) (m0g : Int32) (m0l : Int32) (m0x : Int32) (m0y : Int32) (m0a : Int32) (m0b : Int32) (m0c : Int32) (m0d : Int32) (m1g : Int32) (m1l : Int32) (m1x : Int32) (m1y : Int32) (m1a : Int32) (m1b : Int32) (m1c : Int32) (m1d : Int32) (m2g : Int32) (m2l : Int32) (m2x : Int32) (m2y : Int32) (m2a : Int32) (m2b : Int32) (m2c : Int32) (m2d : Int32) (m3g : Int32) (m3l : Int32) (m3x : Int32) (m3y : Int32) (m3a : Int32) (m3b : Int32) (m3c : Int32) (m3d : Int32) (r : Int32) (v1 v2 v3 v4 v5 v6 v7 v8 v9 v10 v11 : Int32) (v12 v13 v14 : Nat → Int32) (tpts : Int32) (tcon : Int32) (tprt : Int32) (txs : Nat → Int32) (tys : Nat → Int32) (ton : Nat → Int32) (tla : Nat → Int32) (tfl : Nat → Int32) (tr0b : Option Nat) (tr0p : Int32) (tr0l : Int32) (tr0w : Int32) (tr1b : Option Nat) (tr1p : Int32) (tr1l : Int32) (tr1w : Int32) (tr2b : Option Nat) (tr2p : Int32) (tr2l : Int32) (tr2w : Int32) (tr3b : Option Nat) (tr3p : Int32) (tr3l : Int32) (tr3w : Int32) (tr4b : Option Nat) (tr4p : Int32) (tr4l : Int32) (tr4w : Int32) (tm0g : Int32) (tm0l : Int32) (tm0x : Int32) (tm0y : Int32) (tm0a : Int32) (tm0b : Int32) (tm0c : Int32) (tm0d : Int32) (tm1g : Int32) (tm1l : Int32) (tm1x : Int32) (tm1y : Int32) (tm1a : Int32) (tm1b : Int32) (tm1c : Int32) (tm1d : Int32) (tm2g : Int32) (tm2l : Int32) (tm2x : Int32) (tm2y : Int32) (tm2a : Int32) (tm2b : Int32) (tm2c : Int32) (tm2d : Int32) (tm3g : Int32) (tm3l : Int32) (tm3x : Int32) (tm3y : Int32) (tm3a : Int32) (tm3b : Int32) (tm3c : Int32) (tm3d : Int32) (h : P_Ff_fault by_ (nI n) (16 : Int32) (0 : Int32) (0 : Int32) (0 : Int32) (0 : Int32) (0 : Int32) (1 : Int32) (0 : Int32) (0 : Int32) (0 : Int32) (0 : Int32) f (fun _ => 0) sz0 (fun _ => 0) pts con prt xs ys on la fl r0b r0p r0l r0w r1b r1p r1l r1w r2b r2p r2l r2w r3b r3p r3l r3w r4b r4p r4l r4w m0g m0l m0x m0y m0a m0b m0c m0d m1g m1l m1x m1y m1a m1b m1c m1d m2g m2l m2x m2y m2a m2b m2c m2d m3g m3l m3x m3y m3a m3b m3c m3d = some (r, v1, v2, v3, v4, v5, v6, v7, v8, v9, v10, v11, v12, v13, v14, tpts, tcon, tprt, txs, tys, ton, tla, tfl, tr0b, tr0p, tr0l, tr0w, tr1b, tr1p, tr1l, tr1w, tr2b, tr2p, tr2l, tr2w, tr3b, tr3p, tr3l, tr3w, tr4b, tr4p, tr4l, tr4w, tm0g, tm0l, tm0x, tm0y, tm0a, tm0b, tm0c, tm0d, tm1g, tm1l, tm1x, tm1y, tm1a, tm1b, tm1c, tm1d, tm2g, tm2l, tm2x, tm2y, tm2a, tm2b, tm2c, tm2d, tm3g, tm3l, tm3x, tm3y, tm3a, tm3b, tm3c, tm3d)) (hr : r = 0) : P_Gp_font_ok by_ (nI n) f pts con prt xs ys on la fl r0b r0p r0l r0w r1b r1p r1l r1w r2b r2p r2l r2w r3b r3p r3l r3w r4b r4p r4l r4w m0g m0l m0x m0y m0a m0b m0c m0d m1g m1l m1x m1y m1a m1b m1c m1d m2g m2l m2x m2y m2a m2b m2c m2d m3g m3l m3x m3y m3a m3b m3c m3d = some (r, 0, tpts, tcon, tprt, txs, tys, ton, tla, tfl, tr0b, tr0p, tr0l, tr0w, tr1b, tr1p, tr1l, tr1w, tr2b, tr2p, tr2l, tr2w, tr3b, tr3p, tr3l, tr3w, tr4b, tr4p, tr4l, tr4w, tm0g, tm0l, tm0x, tm0y, tm0a, tm0b, tm0c, tm0d, tm1g, tm1l, tm1x, tm1y, tm1a, tm1b, tm1c, tm1d, tm2g, tm2l, tm2x, tm2y, tm2a, tm2b, tm2c, tm2d, tm3g, tm3l, tm3x, tm3y, tm3a, tm3b, tm3c, tm3d, nI n, v1, v2, v3, v4, v5, v6, v7, v8, v9, v10, v11, v12, v13, v14) := by
  unfold P_Gp_font_ok
  rw [hi, some_bind]
  dsimp only [unp]
  rw [h, some_bind]
  dsimp only [unp]
  rw [if_pos hr]
