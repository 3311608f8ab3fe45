/-! PURE ROWS: a simple glyph, as the class reads it: its contours -/
theorem smD_E {f : Nat → Int32} {p e n : Nat} {D : Dat} (h : smD f p e n = some D) : D.1 = cntOf f p n ∧ D.2.1 = n ∧ D.2.2.1 = 0 ∧ D.2.2.2.1 = 0 ∧ D.2.2.2.2.2.2.2 = (fun i => W2 f (p + 2 * i)) ∧ enC f p e n := by
  unfold smD at h
  by_cases c : enC f p e n ∧ skC f p e n
  · rw [if_pos c] at h
    obtain ⟨Fq, _, h2⟩ := Option.bind_eq_some_iff.mp h
    obtain ⟨vx, _, h3⟩ := Option.bind_eq_some_iff.mp h2
    obtain ⟨vy, _, h4⟩ := Option.bind_eq_some_iff.mp h3
    cases h4
    exact ⟨rfl, rfl, rfl, rfl, rfl, c.1⟩
  · rw [if_neg c] at h; cases h
theorem con_0 {n0 e n c0 : Nat} (h0 : n0 ≤ 256) (he : e ≤ 4096) (hn : n ≤ 16) (hcc : c0 + n ≤ 32) (f xs ys on F : Nat → Int32) : ∀ (d c m l q : Nat) (la : Nat → Int32), c + d = n → d < m → l ≤ 128 → q ≤ e → ∃ u, lp (L_Sh_addContours_24 (nI e) f) m (nI n, nI l - 1, nI c, nI n0, nI (c0 + c), xs, ys, on, la, F, nI q, 0) = some u ∧ u.1 = 0 := by
  intro d
  induction d with
  | zero =>
    intro c m l q la hc hm hl hq
    obtain ⟨m, rfl⟩ := suc_of hm
    have : c = n := by omega
    subst this
    rw [e_Sh_addContours_24]
    exact tail_0 hl h0 he hq hn f xs ys on la F (nI (c0 + c)) _ 0 (Or.inl rfl)
  | succ d ih =>
    intro c m l q la hc hm hl hq
    obtain ⟨m, rfl⟩ := suc_of hm
    rw [e_Sh_addContours_24]
    unfold P_Sh_addContours_24b
    rw [if_neg (nI_ge (by omega) (by omega))]
    obtain ⟨v, q1, w1, h1, h2, h3, h4⟩ := rd2e hq he 0 f
    have h5 : w1 = 0 := h4.elim id id
    subst h5
    rw [h3, some_bind]
    simp only [unp]
    by_cases c1 : v < l
    · rw [if_pos ((le_last (by omega) (by omega)).mpr c1)]
      exact ⟨_, rfl, rfl⟩
    · rw [if_neg (fun k => c1 ((le_last (by omega) (by omega)).mp k)), show (128 : Int32) = nI 128 from rfl]
      by_cases c2 : v < 128
      · rw [if_pos (nI_lt c2 (by omega)), bdI (by omega) (by omega), nI_1, nI_1, show nI v = nI (v + 1) - 1 from (nI_pred v).symm, show c0 + c + 1 = c0 + (c + 1) by omega]
        exact ih (c + 1) m (v + 1) q1 _ (by omega) (by omega) (by omega) h2
      · rw [if_neg (nI_nlt (by omega) (by omega))]
        exact ⟨_, rfl, rfl⟩
theorem con_f {n0 e n c0 p : Nat} (h0 : n0 ≤ 256) (he : e ≤ 4096) (hn : n ≤ 16) (hp : p ≤ e) (hcc : c0 + n ≤ 32) (f xs ys on F : Nat → Int32) : ∀ (d c m : Nat) (la : Nat → Int32), c + d = n → d < m → enC f p e c → p + 2 * c ≤ e → (∀ i, i < c → la (c0 + i) = nI (n0 + W2 f (p + 2 * i))) → (∃ D, smD f p e n = some D ∧ n0 + D.1 ≤ 256 ∧ ∃ xs' ys' on' la' F' q', lp (L_Sh_addContours_24 (nI e) f) m (nI n, nI (cntOf f p c) - 1, nI c, nI n0, nI (c0 + c), xs, ys, on, la, F, nI (p + 2 * c), 1) = some (1, nI (n0 + D.1), nI (c0 + n), xs', ys', on', la', F', q', 1) ∧ ShD D n0 xs' ys' on' ∧ (∀ i, i < n → la' (c0 + i) = nI (n0 + W2 f (p + 2 * i))) ∧ (∀ j, j < n0 → xs' j = xs j ∧ ys' j = ys j ∧ on' j = on j) ∧ ∀ j, j < c0 → la' j = la j) ∨ ((∀ D, smD f p e n = some D → 256 < n0 + D.1) ∧ ∃ u, lp (L_Sh_addContours_24 (nI e) f) m (nI n, nI (cntOf f p c) - 1, nI c, nI n0, nI (c0 + c), xs, ys, on, la, F, nI (p + 2 * c), 1) = some u ∧ u.1 = 0) := by
  intro d
  induction d with
  | zero =>
    intro c m la hc hm hE hq hla
    obtain ⟨m, rfl⟩ := suc_of hm
    have : c = n := by omega
    subst this
    rw [e_Sh_addContours_24]
    rcases tail_1 h0 he hn f xs ys on la F hE hq (nI (c0 + c)) (lp (L_Sh_addContours_24 (nI e) f) m) with ⟨D, a1, a2, xs', ys', on', F', q', a3, a4, a5⟩ | h
    · exact Or.inl ⟨D, a1, a2, xs', ys', on', la, F', q', a3, a4, hla, a5, fun j _ => rfl⟩
    · exact Or.inr h
  | succ d ih =>
    intro c m la hc hm hE hq hla
    obtain ⟨m, rfl⟩ := suc_of hm
    rw [e_Sh_addContours_24]
    unfold P_Sh_addContours_24b
    rw [if_neg (nI_ge (by omega) (by omega))]
    have bc := cnt_le hE
    have no : ¬ enC f p e (c + 1) → ∀ D, smD f p e n = some D → 256 < n0 + D.1 := by
      intro hne D hD
      exact absurd (fun i hi => (smD_E hD).2.2.2.2.2 i (by omega)) hne
    by_cases c1 : p + 2 * c + 1 < e
    · rw [rd2 c1 he, some_bind]
      simp only [unp]
      have b := W2_lt f (p + 2 * c)
      by_cases c2 : W2 f (p + 2 * c) < cntOf f p c
      · rw [if_pos ((le_last (by omega) (by omega)).mpr c2)]
        refine Or.inr ⟨no (fun k => ?_), _, rfl, rfl⟩
        have := cnt_lt k (show c < c + 1 by omega)
        omega
      · rw [if_neg (fun k => c2 ((le_last (by omega) (by omega)).mp k)), show (128 : Int32) = nI 128 from rfl]
        by_cases c3 : W2 f (p + 2 * c) < 128
        · rw [if_pos (nI_lt c3 (by omega)), bdI (by omega) (by omega), nI_1, nI_1, nI_clamp (by omega), nI_add, show nI (W2 f (p + 2 * c)) = nI (cntOf f p (c + 1)) - 1 from (nI_pred _).symm, show c0 + c + 1 = c0 + (c + 1) by omega, show p + 2 * c + 2 = p + 2 * (c + 1) by omega]
          have hE' : enC f p e (c + 1) := by
            intro i hi
            rcases Nat.lt_or_ge i c with w | w
            · exact hE i w
            · have : i = c := by omega
              subst this
              refine ⟨c1, c3, fun w1 => ?_⟩
              cases i with
              | zero => omega
              | succ i =>
                rw [cntS] at c2
                simp only [Nat.add_sub_cancel]
                omega
          rcases ih (c + 1) m (upd la (c0 + c) (nI (n0 + W2 f (p + 2 * c)))) (by omega) (by omega) hE' (by omega) (fun i hi => by
            by_cases k : i = c
            · rw [k, pk_us]
            · rw [pk_un (by omega)]; exact hla i (by omega)) with ⟨D, a1, a2, xs', ys', on', la', F', q', a3, a4, a5, a6, a7⟩ | h
          · exact Or.inl ⟨D, a1, a2, xs', ys', on', la', F', q', a3, a4, a5, a6, fun j hj => by rw [a7 j hj, pk_un (by omega)]⟩
          · exact Or.inr h
        · rw [if_neg (nI_nlt (by omega) (by omega))]
          exact Or.inr ⟨no (fun k => c3 (k c (by omega)).2.1), _, rfl, rfl⟩
    · rw [rd2n (by omega) (by omega), some_bind]
      simp only [unp]
      refine Or.inr ⟨no (fun k => c1 (k c (by omega)).1), ?_⟩
      rw [show (0 : Int32) = nI 0 from rfl]
      by_cases c2 : 0 < cntOf f p c
      · rw [if_pos ((le_last (by omega) (by omega)).mpr c2)]
        exact ⟨_, rfl, rfl⟩
      · rw [if_neg (fun k => c2 ((le_last (by omega) (by omega)).mp k)), show (128 : Int32) = nI 128 from rfl, if_pos (nI_lt (by omega) (by omega)), bdI (by omega) (by omega), nI_1, nI_1, show c0 + c + 1 = c0 + (c + 1) by omega]
        have := con_0 h0 he hn hcc f xs ys on F d (c + 1) m 1 (p + 2 * c) (upd la (nI (c0 + c)).toNatClampNeg (nI n0 + nI 0)) (by omega) (by omega) (by omega) hq
        rw [show nI 1 - 1 = nI 0 from by decide] at this
        exact this
/-- a simple glyph in the class -/
theorem simple_f {n0 e c0 p : Nat} (h0 : n0 ≤ 256) (h1 : c0 ≤ 32) (he : e ≤ 4096) (hp : p ≤ e) {n : Nat} (hn : n < 65536) (f xs ys on la F : Nat → Int32) : (∃ D, n ≤ 16 ∧ smD f p e n = some D ∧ n0 + D.1 ≤ 256 ∧ c0 + n ≤ 32 ∧ ∃ xs' ys' on' la' F' q', P_Sh_addContours (nI n0) (nI c0) xs ys on la F (nI p) (nI e) 1 f (nI n) = some (1, nI (n0 + D.1), nI (c0 + n), xs', ys', on', la', F', q', 1) ∧ ShD D n0 xs' ys' on' ∧ (∀ i, i < n → la' (c0 + i) = nI (n0 + W2 f (p + 2 * i))) ∧ (∀ j, j < n0 → xs' j = xs j ∧ ys' j = ys j ∧ on' j = on j) ∧ ∀ j, j < c0 → la' j = la j) ∨ (¬ (n ≤ 16 ∧ c0 + n ≤ 32 ∧ ∃ D, smD f p e n = some D ∧ n0 + D.1 ≤ 256) ∧ ∃ u, P_Sh_addContours (nI n0) (nI c0) xs ys on la F (nI p) (nI e) 1 f (nI n) = some u ∧ u.1 = 0) := by
  unfold P_Sh_addContours
  rw [show (16 : Int32) = nI 16 from rfl, show (32 : Int32) = nI 32 from rfl, nI_add]
  by_cases c1 : 16 < n
  · rw [if_pos (nI_lt c1 (by omega))]
    exact Or.inr ⟨fun k => absurd k.1 (by omega), _, rfl, rfl⟩
  rw [if_neg (nI_nlt (by omega) (by omega))]
  by_cases c2 : c0 + n ≤ 32
  · rw [if_pos (nI_le c2 (by omega))]
    rcases con_f h0 he (by omega) hp c2 f xs ys on F n 0 fuel la (by omega) (by unfold fuel; omega) (fun i hi => absurd hi (by omega)) (by omega) (fun i hi => absurd hi (by omega)) with ⟨D, a1, a2, xs', ys', on', la', F', q', a3, a4, a5, a6, a7⟩ | ⟨h, u, b1, b2⟩
    · exact Or.inl ⟨D, by omega, a1, a2, c2, xs', ys', on', la', F', q', a3, a4, a5, a6, a7⟩
    · exact Or.inr ⟨fun ⟨_, _, D, d1, d2⟩ => absurd (h D d1) (by omega), u, b1, b2⟩
  · rw [if_neg (nI_ge (by omega) (by omega))]
    exact Or.inr ⟨fun k => c2 k.2.1, _, rfl, rfl⟩
