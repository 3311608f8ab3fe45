/-! PURE ROWS: head, maxp, hhea, hmtx -/
def Tt (n : Nat) (st sz a l : Nat → Int32) (t s z : Nat) : Prop := s + z ≤ n ∧ st t = nI s ∧ sz t = nI z ∧ a (tau t) = nI s ∧ l (tau t) = nI z
theorem Tb.get {n : Nat} (hn : n ≤ 4096) {st sz a l : Nat → Int32} (h : Tb n st sz a l) {t : Nat} (ht : t < 8) (h0 : 0 ≤ sz t) : ∃ s z, Tt n st sz a l t s z := by
  rcases h t ht with ⟨e, _⟩ | ⟨s, z, h1⟩
  · rw [e] at h0
    exact absurd h0 (by decide)
  · exact ⟨s, z, h1⟩
theorem zb1 {α : Type} (k : Option α) : zb 1 k = k := if_pos (Or.inr rfl)
theorem zb0 {α : Type} (k : Option α) : zb 0 k = k := if_pos (Or.inl rfl)
theorem head_b {n : Nat} (hn : n ≤ 4096) {f g : Nat → Int32} (hg : Agr n f g) {st sz a l : Nat → Int32} {s z : Nat} (h : Tt n st sz a l 2 s z) (u lo u' lo' : Int32) : ∃ r v w v' w', P_Ff_readHead (nI n) u lo f st sz = some (r, v, w) ∧ P_Mo_head u' lo' g a l = some (r, v', w') ∧ (r = 0 ∨ r = 1 ∧ ∃ U F : Nat, 16 ≤ U ∧ U ≤ 16384 ∧ F ≤ 1 ∧ v = nI U ∧ w = nI F ∧ v' = nI U ∧ w' = nI F) := by
  obtain ⟨hz, e1, e2, e3, e4⟩ := h
  have e3 : a 2 = nI s := e3
  have e4 : l 2 = nI z := e4
  unfold P_Ff_readHead P_Mo_head
  simp only [bl2, cl2, e1, e2, e3, e4]
  rw [show (54 : Int32) = nI 54 from rfl, show (12 : Int32) = nI 12 from rfl, show (18 : Int32) = nI 18 from rfl, show (50 : Int32) = nI 50 from rfl, nI_add, nI_add, nI_add]
  by_cases c1 : z < 54
  · rw [if_pos (nI_lt c1 (by omega)), if_pos (nI_lt c1 (by omega))]
    exact ⟨0, _, _, _, _, rfl, rfl, Or.inl rfl⟩
  rw [if_neg (nI_nlt (by omega) (by omega)), if_neg (nI_nlt (by omega) (by omega)), fo hn (by omega), mfA hn hg (by omega), some_bind, some_bind]
  have b := fAt_lt n f (s + 12)
  have cE : lg_cmp (lN (fAt n f (s + 12))) (1594834165 : Int64) = 0 ↔ nI (fAt n f (s + 12)) = (1594834165 : Int32) := by
    rw [lg_cmp_eq]
    exact tagE (x := 1594834165) b (by decide)
  by_cases c2 : nI (fAt n f (s + 12)) = (1594834165 : Int32)
  · rw [if_pos (cE.mpr c2), if_pos c2, tw hn (by omega), some_bind, tw hn (by omega), some_bind, mtA hn hg (by omega), some_bind, mtA hn hg (by omega), some_bind]
    have b1 := tAt_lt n f (s + 18)
    have b2 := tAt_lt n f (s + 50)
    unfold P_Ff_readHead_65
    simp only [zb1, zb0, show nI s + (50 : Int32) = nI (s + 50) from nI_add s 50, tw hn (show s + 50 < 2 ^ 30 by omega), some_bind]
    generalize tAt n f (s + 18) = U at *
    generalize tAt n f (s + 50) = F at *
    have o1 : (1 : Int32) < nI F ↔ 1 < F := nI_ltI (a := 1) (by omega) (by omega)
    have o2 : nI F = (1 : Int32) ↔ F = 1 := nI_eq (b := 1) (by omega) (by omega)
    have o3 : nI U < (16 : Int32) ↔ U < 16 := nI_ltI (b := 16) (by omega) (by omega)
    have o4 : (16384 : Int32) < nI U ↔ 16384 < U := nI_ltI (a := 16384) (by omega) (by omega)
    simp only [o1, o2, o3, o4]
    by_cases c3 : U < 16
    · simp only [c3, if_true]
      by_cases c6 : F = 1
      · simp only [c6, if_true]; exact ⟨0, _, _, _, _, rfl, rfl, Or.inl rfl⟩
      · simp only [c6, if_false]; exact ⟨0, _, _, _, _, rfl, rfl, Or.inl rfl⟩
    simp only [c3, if_false]
    by_cases c4 : 16384 < U
    · simp only [c4, if_true]
      by_cases c6 : F = 1
      · simp only [c6, if_true]; exact ⟨0, _, _, _, _, rfl, rfl, Or.inl rfl⟩
      · simp only [c6, if_false]; exact ⟨0, _, _, _, _, rfl, rfl, Or.inl rfl⟩
    simp only [c4, if_false]
    by_cases c5 : 1 < F
    · simp only [c5, if_true, show ¬ F = 1 by omega, if_false]
      exact ⟨0, _, _, _, _, rfl, rfl, Or.inl rfl⟩
    · simp only [c5, if_false]
      refine ⟨1, nI U, nI F, _, _, ?_, rfl, Or.inr ⟨rfl, U, F, by omega, by omega, by omega, rfl, rfl, rfl, rfl⟩⟩
      by_cases c6 : F = 1
      · simp only [c6, if_true]; rfl
      · simp only [c6, if_false]; rw [show F = 0 by omega]; rfl
  · rw [if_neg (fun q => c2 (cE.mp q)), if_neg c2]
    exact ⟨0, _, _, _, _, rfl, rfl, Or.inl rfl⟩
theorem maxp_b {n : Nat} (hn : n ≤ 4096) {f g : Nat → Int32} (hg : Agr n f g) {st sz a l : Nat → Int32} {s z : Nat} (h : Tt n st sz a l 6 s z) (u u' : Int32) : ∃ r v v', P_Ff_readMaxp (nI n) u f st sz = some (r, v) ∧ P_Mo_maxp u' g a l = some (r, v') ∧ (r = 0 ∨ r = 1 ∧ ∃ G : Nat, 1 ≤ G ∧ G ≤ 64 ∧ v = nI G ∧ v' = nI G) := by
  obtain ⟨hz, e1, e2, e3, e4⟩ := h
  have e3 : a 7 = nI s := e3
  have e4 : l 7 = nI z := e4
  unfold P_Ff_readMaxp P_Mo_maxp
  simp only [bl6, cl6, bl7, cl7, e1, e2, e3, e4]
  rw [show (6 : Int32) = nI 6 from rfl, show (4 : Int32) = nI 4 from rfl, nI_add, tw hn (by omega), some_bind]
  have b1 := tAt_lt n f (s + 4)
  by_cases c1 : z < 6
  · rw [if_pos (nI_lt c1 (by omega)), if_neg (nI_ge c1 (by omega))]
    exact ⟨0, _, _, rfl, rfl, Or.inl rfl⟩
  rw [if_neg (nI_nlt (by omega) (by omega)), if_pos (nI_le (by omega) (by omega)), mtA hn hg (by omega), some_bind, show (64 : Int32) = nI 64 from rfl]
  have o1 : nI (tAt n f (s + 4)) < (1 : Int32) ↔ tAt n f (s + 4) < 1 := nI_ltI (b := 1) (by omega) (by omega)
  by_cases c2 : tAt n f (s + 4) < 1
  · rw [if_pos (o1.mpr c2)]
    exact ⟨0, _, _, rfl, rfl, Or.inl rfl⟩
  rw [if_neg (fun q => c2 (o1.mp q))]
  by_cases c3 : 64 < tAt n f (s + 4)
  · rw [if_pos (nI_lt c3 (by omega))]
    exact ⟨0, _, _, rfl, rfl, Or.inl rfl⟩
  · rw [if_neg (nI_nlt (by omega) (by omega))]
    exact ⟨1, _, _, rfl, rfl, Or.inr ⟨rfl, _, by omega, by omega, rfl, rfl⟩⟩
theorem mul8 {U : Nat} (hU : U ≤ 16384) : ((8 : Int32) * nI U).toInt = 8 * U ∧ ((-8 : Int32) * nI U).toInt = -8 * U := by
  constructor
  · rw [show (8 : Int32) = nI 8 from rfl, pk_mul, nI_toInt (by omega)]; omega
  · rw [Int32.toInt_mul, nI_toInt (by omega), show (-8 : Int32).toInt = -8 from by decide]
    exact Int.bmod_eq_of_le (by omega) (by omega)
def modest (U : Nat) (v : Int32) : Prop := -8 * (U : Int) ≤ v.toInt ∧ v.toInt ≤ 8 * U
theorem mod_y {U : Nat} (hU : U ≤ 16384) {v : Int32} (h : modest U v) : P_Ff_isModest (nI U) v = some 1 := by
  unfold P_Ff_isModest
  obtain ⟨h1, h2⟩ := h
  obtain ⟨m1, m2⟩ := mul8 hU
  rw [if_neg (by rw [Int32.lt_iff_toInt_lt, m2]; omega), if_neg (by rw [Int32.lt_iff_toInt_lt, m1]; omega)]
theorem mod_n {U : Nat} (hU : U ≤ 16384) {v : Int32} (h : ¬ modest U v) : P_Ff_isModest (nI U) v = some 0 := by
  unfold P_Ff_isModest
  obtain ⟨m1, m2⟩ := mul8 hU
  by_cases c : v < (-8 : Int32) * nI U
  · rw [if_pos c]
  rw [if_neg c]
  rw [Int32.lt_iff_toInt_lt, m2] at c
  have : 8 * (U : Int) < v.toInt := by
    rcases Int.lt_or_le (8 * (U : Int)) v.toInt with q | q
    · exact q
    · exact absurd ⟨by omega, q⟩ h
  rw [if_pos (by rw [Int32.lt_iff_toInt_lt, m1]; exact this)]
theorem abs_v (v : Int32) (hv : -32768 ≤ v.toInt ∧ v.toInt < 65536) : ∃ w, P_Jm_abs_II v = some w ∧ w.toInt = if 0 ≤ v.toInt then v.toInt else - v.toInt := by
  unfold P_Jm_abs_II
  by_cases c : 0 ≤ v
  · rw [if_pos c]
    refine ⟨v, rfl, ?_⟩
    rw [Int32.le_iff_toInt_le, show (0 : Int32).toInt = 0 from by decide] at c
    rw [if_pos c]
  · rw [if_neg c]
    refine ⟨-v, rfl, ?_⟩
    rw [Int32.le_iff_toInt_le, show (0 : Int32).toInt = 0 from by decide] at c
    rw [if_neg c, Int32.toInt_neg]
    exact Int.bmod_eq_of_le (by omega) (by omega)
theorem abs_mod {U : Nat} (hU : U ≤ 16384) {v : Int32} (hv : -32768 ≤ v.toInt ∧ v.toInt < 65536) : ∃ w, P_Jm_abs_II v = some w ∧ ((8 : Int32) * nI U < w ↔ ¬ modest U v) ∧ (w ≤ (8 : Int32) * nI U ↔ modest U v) := by
  obtain ⟨w, e, h⟩ := abs_v v hv
  obtain ⟨m1, m2⟩ := mul8 hU
  refine ⟨w, e, ?_, ?_⟩
  · rw [Int32.lt_iff_toInt_lt, m1, h]
    unfold modest
    split <;> omega
  · rw [Int32.le_iff_toInt_le, m1, h]
    unfold modest
    split <;> omega
theorem s16_r (v : Nat) : -32768 ≤ (s16 v).toInt ∧ (s16 v).toInt < 65536 := by
  have := lg_i2s_range (nI v)
  unfold s16
  omega
theorem hhea_b {n : Nat} (hn : n ≤ 4096) {f g : Nat → Int32} (hg : Agr n f g) {st sz a l : Nat → Int32} {s z : Nat} (h : Tt n st sz a l 3 s z) {U G : Nat} (hU : U ≤ 16384) (hG : G ≤ 64) (x1 x2 x3 x4 y1 y2 y3 y4 : Int32) : ∃ r a1 a2 a3 a4 b1 b2 b3 b4, P_Ff_readHhea (nI n) (nI U) (nI G) x1 x2 x3 x4 f st sz = some (r, a1, a2, a3, a4) ∧ P_Mo_hhea (nI U) (nI G) y1 y2 y3 y4 g a l = some (r, b1, b2, b3, b4) ∧ (r = 0 ∨ r = 1 ∧ b1 = a1 ∧ b2 = a2 ∧ b3 = a3 ∧ b4 = a4 ∧ modest U a1 ∧ modest U a2 ∧ modest U a3 ∧ ∃ M : Nat, 1 ≤ M ∧ M ≤ G ∧ a4 = nI M) := by
  obtain ⟨hz, e1, e2, e3, e4⟩ := h
  have e3 : a 3 = nI s := e3
  have e4 : l 3 = nI z := e4
  unfold P_Ff_readHhea P_Mo_hhea
  simp only [bl3, cl3, e1, e2, e3, e4]
  rw [show (4 : Int32) = nI 4 from rfl, show (6 : Int32) = nI 6 from rfl, show (34 : Int32) = nI 34 from rfl, show (36 : Int32) = nI 36 from rfl, show nI s + (8 : Int32) = nI (s + 8) from nI_add s 8, nI_add, nI_add, nI_add, sg hn (by omega), some_bind, sg hn (by omega), some_bind, sg hn (by omega), some_bind, tw hn (by omega), some_bind]
  by_cases c0 : z < 36
  · rw [if_pos (nI_lt c0 (by omega)), if_neg (nI_ge c0 (by omega))]
    exact ⟨0, _, _, _, _, _, _, _, _, rfl, rfl, Or.inl rfl⟩
  rw [if_neg (nI_nlt (by omega) (by omega)), if_pos (nI_le (by omega) (by omega)), msA hn hg (by omega), some_bind, msA hn hg (by omega), some_bind, msA hn hg (by omega), some_bind, mtA hn hg (by omega), some_bind]
  have r1 := s16_r (tAt n f (s + 4))
  have r2 := s16_r (tAt n f (s + 6))
  have r3 := s16_r (tAt n f (s + 8))
  have b4 := tAt_lt n f (s + 34)
  generalize s16 (tAt n f (s + 4)) = v1 at *
  generalize s16 (tAt n f (s + 6)) = v2 at *
  generalize s16 (tAt n f (s + 8)) = v3 at *
  generalize tAt n f (s + 34) = M at *
  obtain ⟨w1, q1, p1, p1'⟩ := abs_mod hU r1
  obtain ⟨w2, q2, p2, p2'⟩ := abs_mod hU r2
  obtain ⟨w3, q3, p3, p3'⟩ := abs_mod hU r3
  rw [q1, some_bind, q2, some_bind, q3, some_bind]
  by_cases m1 : modest U v1
  · rw [mod_y hU m1, some_bind, if_neg (show ¬ (1 : Int32) = 0 by decide), if_neg (fun q => p1.mp q m1)]
    by_cases m2 : modest U v2
    · rw [mod_y hU m2, some_bind, if_neg (show ¬ (1 : Int32) = 0 by decide), if_neg (fun q => p2.mp q m2)]
      by_cases m3 : modest U v3
      · rw [mod_y hU m3, some_bind, if_neg (show ¬ (1 : Int32) = 0 by decide), if_pos (p3'.mpr m3)]
        have o1 : nI M < (1 : Int32) ↔ M < 1 := nI_ltI (b := 1) (by omega) (by omega)
        by_cases c1 : M < 1
        · rw [if_pos (o1.mpr c1)]
          exact ⟨0, _, _, _, _, _, _, _, _, rfl, rfl, Or.inl rfl⟩
        rw [if_neg (fun q => c1 (o1.mp q))]
        by_cases c2 : G < M
        · rw [if_pos (nI_lt c2 (by omega))]
          exact ⟨0, _, _, _, _, _, _, _, _, rfl, rfl, Or.inl rfl⟩
        · rw [if_neg (nI_nlt (by omega) (by omega))]
          exact ⟨1, _, _, _, _, _, _, _, _, rfl, rfl, Or.inr ⟨rfl, rfl, rfl, rfl, rfl, m1, m2, m3, M, by omega, by omega, rfl⟩⟩
      · rw [mod_n hU m3, some_bind, if_pos rfl, if_neg (fun q => m3 (p3'.mp q))]
        exact ⟨0, _, _, _, _, _, _, _, _, rfl, rfl, Or.inl rfl⟩
    · rw [mod_n hU m2, some_bind, if_pos rfl, if_pos (p2.mpr m2)]
      exact ⟨0, _, _, _, _, _, _, _, _, rfl, rfl, Or.inl rfl⟩
  · rw [mod_n hU m1, some_bind, if_pos rfl, if_pos (p1.mpr m1)]
    exact ⟨0, _, _, _, _, _, _, _, _, rfl, rfl, Or.inl rfl⟩
theorem adv_f {n : Nat} (hn : n ≤ 4096) (f : Nat → Int32) {st : Nat → Int32} {s M : Nat} (e1 : st 4 = nI s) (hs : s ≤ 4096) (hM : 1 ≤ M ∧ M ≤ 64) {k : Nat} (hk : k < 2 ^ 20) : P_Ff_advanceOf (nI n) (nI M) f st (nI k) = some (nI (tAt n f (s + 4 * (if k < M then k else M - 1)))) := by
  unfold P_Ff_advanceOf P_Jm_min
  simp only [bl4, cl4, e1]
  rw [show nI M - (1 : Int32) = nI (M - 1) from pk_sub (b := 1) (by omega), show (4 : Int32) = nI 4 from rfl]
  by_cases c : k < M
  · rw [if_pos c]
    by_cases c2 : nI (M - 1) < nI k
    · exact absurd ((nI_ltI (by omega) (by omega)).mp c2) (by omega)
    · rw [if_neg c2, some_bind, pk_mul, nI_add, tw hn (by omega), some_bind]
  · rw [if_neg c, if_pos (nI_lt (by omega) (by omega)), some_bind, pk_mul, nI_add, tw hn (by omega), some_bind]
theorem adv_m {n : Nat} (hn : n ≤ 4096) {f g : Nat → Int32} (hg : Agr n f g) {a : Nat → Int32} {s z M : Nat} (e1 : a 4 = nI s) (hz : s + z ≤ n) (hM : 1 ≤ M ∧ M ≤ 64) (h4 : 4 * M ≤ z) {k : Nat} (hk : k < 2 ^ 20) : P_Mo_advance (nI M) g a (nI k) = some (nI (tAt n f (s + 4 * (if k < M then k else M - 1)))) := by
  unfold P_Mo_advance P_Mo_advance_38
  simp only [bl4, cl4, e1]
  rw [show nI M - (1 : Int32) = nI (M - 1) from pk_sub (b := 1) (by omega), show (4 : Int32) = nI 4 from rfl]
  by_cases c : k < M
  · rw [if_pos c, if_neg (nI_ge c (by omega)), pk_mul, nI_add, mtA hn hg (by omega), some_bind]
  · rw [if_neg c, if_pos (nI_le (by omega) (by omega)), pk_mul, nI_add, mtA hn hg (by omega), some_bind]
def hmC (n : Nat) (f : Nat → Int32) (s U M : Nat) : Prop := ∀ k, k < M → tAt n f (s + 4 * k) ≤ 8 * U
theorem mod_nat {U v : Nat} (hU : U ≤ 16384) (hv : v < 65536) : modest U (nI v) ↔ v ≤ 8 * U := by
  unfold modest
  rw [nI_toInt (by omega)]
  omega
theorem hm_f {n : Nat} (hn : n ≤ 4096) (f : Nat → Int32) {st sz : Nat → Int32} {s M U : Nat} (e1 : st 4 = nI s) (hs : s ≤ 4096) (hM : 1 ≤ M ∧ M ≤ 64) (hU : U ≤ 16384) (G : Int32) : ∀ (d k m : Nat), k + d = M → d < m → (lp (L_Ff_hmtxIsSound_31 (nI n) (nI U) G (nI M) f st sz) m (nI k) = some 1 ∧ ∀ j, k ≤ j → j < M → tAt n f (s + 4 * j) ≤ 8 * U) ∨ (lp (L_Ff_hmtxIsSound_31 (nI n) (nI U) G (nI M) f st sz) m (nI k) = some 0 ∧ ∃ j, k ≤ j ∧ j < M ∧ ¬ tAt n f (s + 4 * j) ≤ 8 * U) := by
  intro d
  induction d with
  | zero =>
    intro k m hk hm
    obtain ⟨m, rfl⟩ := suc_of hm
    refine Or.inl ⟨?_, fun t h1 h2 => absurd h2 (by omega)⟩
    rw [e_Ff_hmtxIsSound_31]
    unfold P_Ff_hmtxIsSound_31b
    rw [if_pos (nI_le (by omega) (by omega))]
  | succ d ih =>
    intro k m hk hm
    obtain ⟨m, rfl⟩ := suc_of hm
    rw [e_Ff_hmtxIsSound_31]
    unfold P_Ff_hmtxIsSound_31b
    rw [if_neg (nI_ge (by omega) (by omega)), adv_f hn f e1 hs hM (by omega), some_bind, if_pos (show k < M by omega), nI_1]
    have b := tAt_lt n f (s + 4 * k)
    by_cases c : tAt n f (s + 4 * k) ≤ 8 * U
    · rw [mod_y hU ((mod_nat hU b).mpr c), some_bind, if_neg (show ¬ (1 : Int32) = 0 by decide)]
      rcases ih (k + 1) m (by omega) (by omega) with ⟨h1, h2⟩ | ⟨h1, t, h2, h3, h4⟩
      · refine Or.inl ⟨h1, fun t q1 q2 => ?_⟩
        rcases Nat.lt_or_ge k t with q | q
        · exact h2 t q q2
        · rw [show t = k by omega]; exact c
      · exact Or.inr ⟨h1, t, by omega, h3, h4⟩
    · rw [mod_n hU (fun q => c ((mod_nat hU b).mp q)), some_bind, if_pos rfl]
      exact Or.inr ⟨rfl, k, by omega, by omega, c⟩
theorem hm_m {n : Nat} (hn : n ≤ 4096) {f g : Nat → Int32} (hg : Agr n f g) {a l : Nat → Int32} {s z M U : Nat} (e1 : a 4 = nI s) (hz : s + z ≤ n) (h4 : 4 * M ≤ z) (hM : 1 ≤ M ∧ M ≤ 64) (hU : U ≤ 16384) (G : Int32) : ∀ (d k m : Nat), k + d = M → d < m → (lp (L_Mo_hmtx_31 (nI U) G (nI M) g a l) m (nI k) = some 1 ∧ ∀ j, k ≤ j → j < M → tAt n f (s + 4 * j) ≤ 8 * U) ∨ (lp (L_Mo_hmtx_31 (nI U) G (nI M) g a l) m (nI k) = some 0 ∧ ∃ j, k ≤ j ∧ j < M ∧ ¬ tAt n f (s + 4 * j) ≤ 8 * U) := by
  intro d
  induction d with
  | zero =>
    intro k m hk hm
    obtain ⟨m, rfl⟩ := suc_of hm
    refine Or.inl ⟨?_, fun t h1 h2 => absurd h2 (by omega)⟩
    rw [e_Mo_hmtx_31]
    unfold P_Mo_hmtx_31b
    rw [if_pos (nI_le (by omega) (by omega))]
  | succ d ih =>
    intro k m hk hm
    obtain ⟨m, rfl⟩ := suc_of hm
    rw [e_Mo_hmtx_31]
    unfold P_Mo_hmtx_31b
    simp only [bl4, cl4, e1]
    have b := tAt_lt n f (s + 4 * k)
    rw [if_neg (nI_ge (by omega) (by omega)), show (4 : Int32) = nI 4 from rfl, pk_mul, nI_add, mtA hn hg (by omega), some_bind, nI_1, show (8 : Int32) = nI 8 from rfl, pk_mul]
    by_cases c : tAt n f (s + 4 * k) ≤ 8 * U
    · rw [if_pos (nI_le c (by omega))]
      rcases ih (k + 1) m (by omega) (by omega) with ⟨h1, h2⟩ | ⟨h1, t, h2, h3, h4⟩
      · refine Or.inl ⟨h1, fun t q1 q2 => ?_⟩
        rcases Nat.lt_or_ge k t with q | q
        · exact h2 t q q2
        · rw [show t = k by omega]; exact c
      · exact Or.inr ⟨h1, t, by omega, h3, h4⟩
    · rw [if_neg (nI_ge (by omega) (by omega))]
      exact Or.inr ⟨rfl, k, by omega, by omega, c⟩
theorem hmtx_b {n : Nat} (hn : n ≤ 4096) {f g : Nat → Int32} (hg : Agr n f g) {st sz a l : Nat → Int32} {s z : Nat} (h : Tt n st sz a l 4 s z) {U G M : Nat} (hU : U ≤ 16384) (hG : G ≤ 64) (hM : 1 ≤ M ∧ M ≤ G) : ∃ r, P_Ff_hmtxIsSound (nI n) (nI U) (nI G) (nI M) f st sz = some r ∧ P_Mo_hmtx (nI U) (nI G) (nI M) g a l = some r ∧ (r = 0 ∨ r = 1 ∧ 4 * M ≤ z ∧ hmC n f s U M) := by
  obtain ⟨hz, e1, e2, e3, e4⟩ := h
  have e3 : a 4 = nI s := e3
  have e4 : l 4 = nI z := e4
  unfold P_Ff_hmtxIsSound P_Mo_hmtx
  simp only [bl4, cl4, e2, e4]
  rw [show (4 : Int32) = nI 4 from rfl, show (2 : Int32) = nI 2 from rfl, pk_sub (by omega), pk_mul, pk_mul, nI_add]
  by_cases c : 4 * M + 2 * (G - M) ≤ z
  · rw [if_pos (nI_le c (by omega)), if_pos (nI_le c (by omega))]
    rcases hm_f hn f (sz := sz) (M := M) (U := U) e1 (by omega) (by omega) hU (nI G) M 0 fuel (by omega) (by unfold fuel; omega) with ⟨h1, h2⟩ | ⟨h1, j, _, h2, h3⟩
    · rcases hm_m hn hg (l := l) (M := M) (U := U) e3 hz (by omega) (by omega) hU (nI G) M 0 fuel (by omega) (by unfold fuel; omega) with ⟨q1, q2⟩ | ⟨q1, j, _, q2, q3⟩
      · exact ⟨1, h1, q1, Or.inr ⟨rfl, by omega, fun k hk => h2 k (by omega) hk⟩⟩
      · exact absurd (h2 j (by omega) q2) q3
    · rcases hm_m hn hg (l := l) (M := M) (U := U) e3 hz (by omega) (by omega) hU (nI G) M 0 fuel (by omega) (by unfold fuel; omega) with ⟨q1, q2⟩ | ⟨q1, _⟩
      · exact absurd (q2 j (by omega) h2) h3
      · exact ⟨0, h1, q1, Or.inl rfl⟩
  · rw [if_neg (nI_ge (by omega) (by omega)), if_neg (nI_ge (by omega) (by omega))]
    exact ⟨0, rfl, rfl, Or.inl rfl⟩
