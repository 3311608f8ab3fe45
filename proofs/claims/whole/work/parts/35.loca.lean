/-! PURE ROWS: loca, cmap, the glyph of a code -/
def lo (n : Nat) (f : Nat → Int32) (s F g : Nat) : Nat := if F = 0 then 2 * tAt n f (s + 2 * g) else fAt n f (s + 4 * g)
theorem lo_lt (n : Nat) (f : Nat → Int32) (s F g : Nat) : lo n f s F g < 4294967296 := by
  unfold lo
  have := tAt_lt n f (s + 2 * g)
  have := fAt_lt n f (s + 4 * g)
  split <;> omega
theorem nIF {F : Nat} (hF : F ≤ 1) : nI F = 0 ↔ F = 0 := nI_eq (b := 0) (by omega) (by omega)
theorem lo_f {n : Nat} (hn : n ≤ 4096) (f : Nat → Int32) {st : Nat → Int32} {s F g : Nat} (e : st 5 = nI s) (hs : s ≤ 4096) (hF : F ≤ 1) (hg : g ≤ 64) : P_Ff_locaAt (nI n) (nI F) f st (nI g) = some (lN (lo n f s F g)) := by
  unfold P_Ff_locaAt lo
  simp only [bl5, cl5, e, nIF hF]
  have := tAt_lt n f (s + 2 * g)
  by_cases c : F = 0
  · simp only [c, if_true]
    rw [show (2 : Int32) = nI 2 from rfl, pk_mul, nI_add, tw hn (by omega), some_bind, nI_l (by omega), show (2 : Int64) = lN 2 from rfl, lN_mul]
  · simp only [c, if_false]
    rw [show (4 : Int32) = nI 4 from rfl, pk_mul, nI_add, fo hn (by omega), some_bind]
theorem lo_m {n : Nat} (hn : n ≤ 4096) {f g : Nat → Int32} (hg : Agr n f g) {a : Nat → Int32} {s z F G k : Nat} (e : a 6 = nI s) (hz : s + z ≤ n) (hF : F ≤ 1) (hG : G ≤ 64) (h4 : (G + 1) * (if F = 0 then 2 else 4) ≤ z) (hk : k ≤ G) : P_Mo_begins (nI F) g a (nI k) = some (lN (lo n f s F k)) := by
  unfold P_Mo_begins lo
  simp only [bl6, cl6, e, nIF hF]
  have := tAt_lt n f (s + 2 * k)
  by_cases c : F = 0
  · simp only [c, if_true] at h4 ⊢
    rw [show (2 : Int32) = nI 2 from rfl, pk_mul, nI_add, mtA hn hg (by omega), some_bind, nI_l (by omega), show (2 : Int64) = lN 2 from rfl, lN_mul]
  · simp only [c, if_false] at h4 ⊢
    rw [show (4 : Int32) = nI 4 from rfl, pk_mul, nI_add, mbA hn hg (by omega), some_bind]
def loP (n : Nat) (f : Nat → Int32) (s F k : Nat) : Nat := match k with
  | 0 => 0
  | k + 1 => lo n f s F k
theorem loca_f {n : Nat} (hn : n ≤ 4096) (f : Nat → Int32) {st sz : Nat → Int32} {s F G s1 z1 : Nat} (e : st 5 = nI s) (e1 : st 1 = nI s1) (e2 : sz 1 = nI z1) (hz1 : s1 + z1 ≤ 4096) (hs : s ≤ 4096) (hF : F ≤ 1) (hG : G ≤ 64) : ∀ (d k m : Nat) (gs : Nat → Int32), k + d = G + 1 → d < m → (∀ j, j < k → gs j = nI (s1 + lo n f s F j)) → ∃ r gs', lp (L_Ff_locaIsSound_34 (nI n) (nI G) (nI F) f st sz) m (lN (loP n f s F k), nI k, gs) = some (r, gs') ∧ ((r = 1 ∧ (∀ j, k ≤ j → j ≤ G → loP n f s F j ≤ lo n f s F j) ∧ lo n f s F G ≤ z1 ∧ ∀ j, j ≤ G → gs' j = nI (s1 + lo n f s F j)) ∨ (r = 0 ∧ ¬ ((∀ j, k ≤ j → j ≤ G → loP n f s F j ≤ lo n f s F j) ∧ lo n f s F G ≤ z1))) := by
  intro d
  induction d with
  | zero =>
    intro k m gs hk hm hgs
    obtain ⟨m, rfl⟩ := suc_of hm
    have hk : k = G + 1 := by omega
    subst hk
    rw [e_Ff_locaIsSound_34]
    unfold P_Ff_locaIsSound_34b
    simp only [bl1, cl1, e2]
    have b := lo_lt n f s F G
    rw [if_pos (nI_lt (by omega) (by omega)), nI_l (by omega), show loP n f s F (G + 1) = lo n f s F G from rfl]
    by_cases c : z1 < lo n f s F G
    · rw [if_pos ((lg_cmp_gt _ _).mpr ((pk_lLT (by omega) (by omega)).mpr c))]
      exact ⟨0, _, rfl, Or.inr ⟨rfl, fun q => absurd q.2 (by omega)⟩⟩
    · rw [if_neg (fun q => c ((pk_lLT (by omega) (by omega)).mp ((lg_cmp_gt _ _).mp q)))]
      exact ⟨1, _, rfl, Or.inl ⟨rfl, fun j h1 h2 => absurd h2 (by omega), by omega, fun j hj => hgs j (by omega)⟩⟩
  | succ d ih =>
    intro k m gs hk hm hgs
    obtain ⟨m, rfl⟩ := suc_of hm
    rw [e_Ff_locaIsSound_34]
    unfold P_Ff_locaIsSound_34b
    simp only [bl1, cl1, e1]
    have b := lo_lt n f s F k
    have b0 : loP n f s F k < 4294967296 := by
      cases k with
      | zero => exact (by decide : (0 : Nat) < 4294967296)
      | succ k => exact lo_lt n f s F k
    rw [if_neg (nI_nlt (by omega) (by omega)), lo_f hn f e hs hF (by omega), some_bind, bdI (by omega) (by omega), nI_clamp (by omega), nI_1, lN_i, nI_add]
    by_cases c : loP n f s F k ≤ lo n f s F k
    · rw [if_pos ((lg_cmp_ge _ _).mpr ((pk_lLE (by omega) (by omega)).mpr c))]
      obtain ⟨r, gs', e', h'⟩ := ih (k + 1) m (upd gs k (nI (s1 + lo n f s F k))) (by omega) (by omega) (fun j hj => by
        by_cases q : j = k
        · rw [q, pk_us]
        · rw [pk_un q]; exact hgs j (by omega))
      refine ⟨r, gs', e', ?_⟩
      rcases h' with ⟨h1, h2, h3, h4⟩ | ⟨h1, h2⟩
      · refine Or.inl ⟨h1, fun j q1 q2 => ?_, h3, h4⟩
        rcases Nat.lt_or_ge k j with q | q
        · exact h2 j q q2
        · rw [show j = k by omega]; exact c
      · exact Or.inr ⟨h1, fun q => h2 ⟨fun j q1 q2 => q.1 j (by omega) q2, q.2⟩⟩
    · rw [if_neg (fun q => c ((pk_lLE (by omega) (by omega)).mp ((lg_cmp_ge _ _).mp q)))]
      exact ⟨0, _, rfl, Or.inr ⟨rfl, fun q => c (q.1 k (by omega) (by omega))⟩⟩
theorem loca_m {n : Nat} (hn : n ≤ 4096) {f g : Nat → Int32} (hg : Agr n f g) {a l : Nat → Int32} {s z F G z1 : Nat} (e : a 6 = nI s) (e2 : l 1 = nI z1) (hz1 : z1 ≤ 4096) (hz : s + z ≤ n) (hF : F ≤ 1) (hG : G ≤ 64) (h4 : (G + 1) * (if F = 0 then 2 else 4) ≤ z) : ∀ (d k m : Nat), 1 ≤ k → k + d = G + 1 → d < m → ((lp (L_Mo_loca_33 (nI F) (nI G) g a l) m (nI k) = some 1 ∧ (∀ j, k ≤ j → j ≤ G → loP n f s F j ≤ lo n f s F j) ∧ lo n f s F G ≤ z1) ∨ (lp (L_Mo_loca_33 (nI F) (nI G) g a l) m (nI k) = some 0 ∧ ¬ ((∀ j, k ≤ j → j ≤ G → loP n f s F j ≤ lo n f s F j) ∧ lo n f s F G ≤ z1))) := by
  intro d
  induction d with
  | zero =>
    intro k m h1 hk hm
    obtain ⟨m, rfl⟩ := suc_of hm
    rw [e_Mo_loca_33]
    unfold P_Mo_loca_33b
    simp only [bl1, cl1, e2]
    have b := lo_lt n f s F G
    rw [if_pos (nI_lt (by omega) (by omega)), nI_l (by omega), lo_m hn hg e hz hF hG h4 (by omega), some_bind]
    by_cases c : z1 < lo n f s F G
    · rw [if_pos ((lg_cmp_gt _ _).mpr ((pk_lLT (by omega) (by omega)).mpr c))]
      exact Or.inr ⟨rfl, fun q => absurd q.2 (by omega)⟩
    · rw [if_neg (fun q => c ((pk_lLT (by omega) (by omega)).mp ((lg_cmp_gt _ _).mp q)))]
      exact Or.inl ⟨rfl, fun j h1 h2 => absurd h2 (by omega), by omega⟩
  | succ d ih =>
    intro k m h1 hk hm
    obtain ⟨m, rfl⟩ := suc_of hm
    rw [e_Mo_loca_33]
    unfold P_Mo_loca_33b
    have b := lo_lt n f s F k
    have b0 := lo_lt n f s F (k - 1)
    have eP : loP n f s F k = lo n f s F (k - 1) := by
      cases k with
      | zero => omega
      | succ k => rfl
    rw [if_neg (nI_nlt (by omega) (by omega)), lo_m hn hg e hz hF hG h4 (by omega), some_bind, show nI k - (1 : Int32) = nI (k - 1) from pk_sub (b := 1) h1, lo_m hn hg e hz hF hG h4 (by omega), some_bind, nI_1]
    by_cases c : lo n f s F (k - 1) ≤ lo n f s F k
    · rw [if_pos ((lg_cmp_ge _ _).mpr ((pk_lLE (by omega) (by omega)).mpr c))]
      rcases ih (k + 1) m (by omega) (by omega) (by omega) with ⟨q1, q2, q3⟩ | ⟨q1, q2⟩
      · refine Or.inl ⟨q1, fun j p1 p2 => ?_, q3⟩
        rcases Nat.lt_or_ge k j with q | q
        · exact q2 j q p2
        · rw [show j = k by omega, eP]; exact c
      · exact Or.inr ⟨q1, fun q => q2 ⟨fun j p1 p2 => q.1 j (by omega) p2, q.2⟩⟩
    · rw [if_neg (fun q => c ((pk_lLE (by omega) (by omega)).mp ((lg_cmp_ge _ _).mp q)))]
      exact Or.inr ⟨rfl, fun q => c (by rw [← eP]; exact q.1 k (by omega) (by omega))⟩
/-- rule 6: loca -/
theorem loca_b {n : Nat} (hn : n ≤ 4096) {f g : Nat → Int32} (hg : Agr n f g) {st sz a l : Nat → Int32} {s z s1 z1 : Nat} (h : Tt n st sz a l 5 s z) (h1 : Tt n st sz a l 1 s1 z1) {G F : Nat} (hG : G ≤ 64) (hF : F ≤ 1) (gs : Nat → Int32) : ∃ r gs', P_Ff_locaIsSound (nI n) (nI G) (nI F) f st sz gs = some (r, gs') ∧ P_Mo_loca (nI F) (nI G) g a l = some r ∧ (r = 0 ∨ r = 1 ∧ (G + 1) * (if F = 0 then 2 else 4) ≤ z ∧ (∀ j, j ≤ G → gs' j = nI (s1 + lo n f s F j)) ∧ (∀ j, 1 ≤ j → j ≤ G → lo n f s F (j - 1) ≤ lo n f s F j) ∧ lo n f s F G ≤ z1) := by
  obtain ⟨hz, e1, e2, e3, e4⟩ := h
  obtain ⟨hz1, f1, f2, f3, f4⟩ := h1
  have e3 : a 6 = nI s := e3
  have e4 : l 6 = nI z := e4
  have f3 : a 1 = nI s1 := f3
  have f4 : l 1 = nI z1 := f4
  unfold P_Ff_locaIsSound P_Mo_loca P_Ff_locaIsSound_24 P_Mo_loca_25
  simp only [bl5, cl5, bl6, cl6, e2, e4, nIF hF]
  have main : ∀ q : Nat, q = (if F = 0 then 2 else 4) → ∃ r gs', (if (nI G + (1 : Int32)) * nI q ≤ nI z then P_Ff_locaIsSound_34 (nI n) (nI G) (nI F) f st sz 0 0 gs else some (0, gs)) = some (r, gs') ∧ (if (nI G + (1 : Int32)) * nI q ≤ nI z then P_Mo_loca_33 (nI F) (nI G) g a l 1 else some 0) = some r ∧ (r = 0 ∨ r = 1 ∧ (G + 1) * (if F = 0 then 2 else 4) ≤ z ∧ (∀ j, j ≤ G → gs' j = nI (s1 + lo n f s F j)) ∧ (∀ j, 1 ≤ j → j ≤ G → lo n f s F (j - 1) ≤ lo n f s F j) ∧ lo n f s F G ≤ z1) := by
    intro q hq
    rw [← hq, nI_1, pk_mul]
    have hq4 : q ≤ 4 := by rw [hq]; split <;> omega
    have hq5 : (G + 1) * q ≤ 65 * 4 := Nat.mul_le_mul (by omega) hq4
    by_cases c : (G + 1) * q ≤ z
    · rw [if_pos (nI_le c (by omega)), if_pos (nI_le c (by omega))]
      obtain ⟨r, gs', e', h'⟩ := loca_f hn f e1 f1 f2 (by omega) (by omega) hF hG (G + 1) 0 fuel gs (by omega) (by unfold fuel; omega) (fun j hj => absurd hj (by omega))
      have hm := loca_m hn hg e3 f4 (by omega) hz hF hG (by rw [← hq]; exact c) G 1 fuel (by omega) (by omega) (by unfold fuel; omega)
      have up : (∀ j, 0 ≤ j → j ≤ G → loP n f s F j ≤ lo n f s F j) ↔ (∀ j, 1 ≤ j → j ≤ G → loP n f s F j ≤ lo n f s F j) := by
        constructor
        · intro w j _ p2; exact w j (by omega) p2
        · intro w j _ p2
          cases j with
          | zero => exact Nat.zero_le _
          | succ j => exact w (j + 1) (by omega) p2
      rcases h' with ⟨rfl, q2, q3, q4⟩ | ⟨rfl, q2⟩
      · rcases hm with ⟨p1, p2, p3⟩ | ⟨p1, p2⟩
        · refine ⟨1, gs', e', p1, Or.inr ⟨rfl, c, q4, fun j w1 w2 => ?_, q3⟩⟩
          have := p2 j w1 w2
          cases j with
          | zero => omega
          | succ j => exact this
        · exact absurd ⟨up.mp q2, q3⟩ p2
      · rcases hm with ⟨p1, p2, p3⟩ | ⟨p1, p2⟩
        · exact absurd ⟨up.mpr p2, p3⟩ q2
        · exact ⟨0, gs', e', p1, Or.inl rfl⟩
    · rw [if_neg (nI_ge (by omega) (by omega)), if_neg (nI_ge (by omega) (by omega))]
      exact ⟨0, gs, rfl, rfl, Or.inl rfl⟩
  by_cases c : F = 0
  · simp only [c, if_true] at main ⊢
    exact main 2 rfl
  · simp only [c, if_false] at main ⊢
    exact main 4 rfl
