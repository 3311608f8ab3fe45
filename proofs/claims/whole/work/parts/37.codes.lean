/-! PURE ROWS: the glyph of a code; kern -/
theorem and16 (x : Int32) : ∃ v : Nat, v < 65536 ∧ x &&& (65535 : Int32) = nI v := pk_andE x 16 (by decide)
theorem gseg_b {n : Nat} (hn : n ≤ 4096) {f g : Nat → Int32} (hg : Agr n f g) {C B D G : Nat} (hD : 16 + 8 * D ≤ B) (hC : C + B ≤ n) (hG : 1 ≤ G ∧ G ≤ 64) {c : Nat} (hc : c < 65536) {i : Nat} (hi : i < D) : ∃ r v : Nat, r < G ∧ P_Ff_glyphInSegment (nI n) (nI C) (nI B) (nI D) f (nI i) (nI c) = some (nI v) ∧ v < 65536 ∧ (r = if v < G then v else 0) ∧ P_Mo_glyphOf_37 (nI G) (nI C) (nI B) (nI D) g (nI c) (nI D) (nI i) = some (nI r) := by
  have fin : ∀ v, v < 65536 → P_Mo_glyphOf_189 (nI G) (nI C) (nI B) (nI D) g (nI v) = some (nI (if v < G then v else 0)) := by
    intro v hv
    unfold P_Mo_glyphOf_189
    by_cases c : v < G
    · rw [if_pos c, if_pos (nI_lt c (by omega))]
    · rw [if_neg c, if_neg (nI_nlt (by omega) (by omega))]; rfl
  have rl : ∀ v : Nat, (if v < G then v else 0) < G := by intro v; split <;> omega
  unfold P_Ff_glyphInSegment P_Mo_glyphOf_37
  rw [show (2 : Int32) = nI 2 from rfl, show (4 : Int32) = nI 4 from rfl, show (6 : Int32) = nI 6 from rfl, show (16 : Int32) = nI 16 from rfl]
  simp only [pk_mul, nI_add]
  rw [tw hn (by omega), some_bind, tw hn (by omega), some_bind, tw hn (by omega), some_bind, if_neg (fun q => absurd ((nI_eq (by omega) (by omega)).mp q) (by omega)), mtA hn hg (by omega), some_bind, mtA hn hg (by omega), some_bind, mtA hn hg (by omega), some_bind]
  have b1 := tAt_lt n f (C + 16 + 2 * D + 2 * i)
  have b2 := tAt_lt n f (C + 16 + 4 * D + 2 * i)
  have b3 := tAt_lt n f (C + (16 + 6 * D + 2 * i))
  generalize tAt n f (C + 16 + 2 * D + 2 * i) = S at *
  generalize tAt n f (C + 16 + 4 * D + 2 * i) = dl at *
  generalize tAt n f (C + (16 + 6 * D + 2 * i)) = R at *
  by_cases c1 : S ≤ c
  · rw [if_pos (nI_le c1 (by omega)), if_pos (nI_le c1 (by omega))]
    have o0 : nI R = 0 ↔ R = 0 := nI_eq (b := 0) (by omega) (by omega)
    by_cases c2 : R = 0
    · rw [if_pos (o0.mpr c2), if_pos (o0.mpr c2)]
      obtain ⟨v, hv, e⟩ := and16 (nI c + nI dl)
      rw [e]
      exact ⟨_, v, rl v, rfl, hv, rfl, fin v hv⟩
    · rw [if_neg (fun q => c2 (o0.mp q)), if_neg (fun q => c2 (o0.mp q)), pk_sub c1, pk_mul, nI_add]
      unfold P_Ff_glyphInSegment_109 P_Mo_glyphOf_148 P_Ff_glyphInSegment_135
      rw [show (2 : Int32) = nI 2 from rfl]
      simp only [nI_add]
      generalize hP : 16 + 6 * D + 2 * i + R + 2 * (c - S) = P at *
      by_cases c3 : B < P + 2
      · rw [if_pos (nI_lt c3 (by omega)), if_neg (nI_ge c3 (by omega)), if_pos trivial]
        exact ⟨0, 0, by omega, rfl, by omega, by split <;> rfl, rfl⟩
      · rw [if_neg (nI_nlt (by omega) (by omega)), if_pos (nI_le (by omega) (by omega)), tw hn (by omega), some_bind, mtA hn hg (by omega), some_bind]
        have b4 := tAt_lt n f (C + P)
        generalize tAt n f (C + P) = T at *
        have o1 : nI T = 0 ↔ T = 0 := nI_eq (b := 0) (by omega) (by omega)
        by_cases c4 : T = 0
        · rw [if_pos (o1.mpr c4), if_pos (o1.mpr c4)]
          have := fin T b4
          rw [c4] at this ⊢
          exact ⟨_, 0, rl 0, rfl, by omega, rfl, this⟩
        · rw [if_neg (fun q => c4 (o1.mp q)), if_neg (fun q => c4 (o1.mp q))]
          obtain ⟨v, hv, e⟩ := and16 (nI T + nI dl)
          rw [e]
          exact ⟨_, v, rl v, rfl, hv, rfl, fin v hv⟩
  · rw [if_neg (nI_ge (by omega) (by omega)), if_neg (nI_ge (by omega) (by omega))]
    exact ⟨0, 0, by omega, rfl, by omega, by split <;> rfl, rfl⟩
theorem gof_i {n : Nat} (hn : n ≤ 4096) {f g : Nat → Int32} (hg : Agr n f g) {C B D G : Nat} (hD : 16 + 8 * D ≤ B) (hC : C + B ≤ n) (hG : 1 ≤ G ∧ G ≤ 64) {c : Nat} (hc : c < 65536) : ∀ (d i m m' : Nat), i + d = D → d < m → d < m' → ∃ r : Nat, r < G ∧ lp (L_Ff_glyphOf_2 (nI n) (nI G) (nI C) (nI B) (nI D) f) m (nI c, nI i) = some (nI r) ∧ lp (L_Mo_glyphOf_7 (nI G) (nI C) (nI B) (nI D) g) m' (nI c, nI D, nI i) = some (nI r) := by
  intro d
  induction d with
  | zero =>
    intro i m m' hi hm hm'
    obtain ⟨m, rfl⟩ := suc_of hm
    obtain ⟨m', rfl⟩ := suc_of hm'
    refine ⟨0, by omega, ?_, ?_⟩
    · rw [e_Ff_glyphOf_2]
      unfold P_Ff_glyphOf_2b
      rw [if_pos (nI_le (by omega) (by omega))]; rfl
    · rw [e_Mo_glyphOf_7]
      unfold P_Mo_glyphOf_7b P_Mo_glyphOf_37
      rw [if_pos (nI_le (by omega) (by omega)), if_pos (by rw [show i = D by omega])]; rfl
  | succ d ih =>
    intro i m m' hi hm hm'
    obtain ⟨m, rfl⟩ := suc_of hm
    obtain ⟨m', rfl⟩ := suc_of hm'
    rw [e_Ff_glyphOf_2, e_Mo_glyphOf_7]
    unfold P_Ff_glyphOf_2b P_Mo_glyphOf_7b
    rw [if_neg (nI_ge (by omega) (by omega)), if_neg (nI_ge (by omega) (by omega)), show (2 : Int32) * nI i = nI (2 * i) from pk_mul 2 i, show nI C + (14 : Int32) = nI (C + 14) from nI_add C 14, nI_add, tw hn (by omega), some_bind, mtA hn hg (by omega), some_bind, nI_1]
    have b1 := tAt_lt n f (C + 14 + 2 * i)
    by_cases c1 : tAt n f (C + 14 + 2 * i) < c
    · rw [if_pos (nI_lt c1 (by omega)), if_neg (nI_ge c1 (by omega))]
      exact ih (i + 1) m m' (by omega) (by omega) (by omega)
    · rw [if_neg (nI_nlt (by omega) (by omega)), if_pos (nI_le (by omega) (by omega))]
      obtain ⟨r, v, h1, h2, h3, h4, h5⟩ := gseg_b hn hg hD hC hG hc (show i < D by omega)
      refine ⟨r, h1, ?_, h5⟩
      rw [h2, some_bind]
      by_cases c2 : v < G
      · rw [if_neg (nI_ge c2 (by omega)), h4, if_pos c2]
      · rw [if_pos (nI_le (by omega) (by omega)), h4, if_neg c2]; rfl
/-- promise 6: the glyph of a code -/
theorem gof_b {n : Nat} (hn : n ≤ 4096) {f g : Nat → Int32} (hg : Agr n f g) {C B D G : Nat} (hD : 16 + 8 * D ≤ B) (hC : C + B ≤ n) (hG : 1 ≤ G ∧ G ≤ 64) {c : Nat} (hc : c < 65536) : ∃ r : Nat, r < G ∧ P_Ff_glyphOf (nI n) (nI G) (nI C) (nI B) (nI D) f (nI c) = some (nI r) ∧ P_Mo_glyphOf (nI G) (nI C) (nI B) (nI D) g (nI c) = some (nI r) :=
  gof_i hn hg hD hC hG hc D 0 fuel fuel (by omega) (by unfold fuel; omega) (by unfold fuel; omega)
def kPr (n : Nat) (f : Nat → Int32) (s i : Nat) : Nat := fAt n f (s + 18 + 6 * i)
def kVl (n : Nat) (f : Nat → Int32) (s i : Nat) : Int32 := s16 (tAt n f (s + 22 + 6 * i))
theorem kPr_lt (n : Nat) (f : Nat → Int32) (s i : Nat) : kPr n f s i < 4294967296 := fAt_lt _ _ _
def kBf (n : Nat) (f : Nat → Int32) (s i : Nat) : Int64 := match i with
  | 0 => -1
  | i + 1 => lN (kPr n f s i)
def kOk (n : Nat) (f : Nat → Int32) (s U i : Nat) : Prop := (1 ≤ i → kPr n f s (i - 1) < kPr n f s i) ∧ modest U (kVl n f s i)
theorem pair_f {n : Nat} (hn : n ≤ 4096) (f : Nat → Int32) {st : Nat → Int32} {s i : Nat} (e : st 7 = nI s) (hs : s ≤ 4096) (hi : i < 2 ^ 20) : P_Ff_pairAt (nI n) f st (nI i) = some (lN (kPr n f s i)) := by
  unfold P_Ff_pairAt kPr
  simp only [bl7, cl7, e]
  rw [show (6 : Int32) * nI i = nI (6 * i) from pk_mul 6 i, show nI s + (18 : Int32) = nI (s + 18) from nI_add s 18, nI_add, fo hn (by omega), some_bind]
theorem kern_f {n : Nat} (hn : n ≤ 4096) (f : Nat → Int32) {st sz : Nat → Int32} {s z U N : Nat} (e : st 7 = nI s) (hz : s + z ≤ n) (hN : 18 + 6 * N ≤ z) (hU : U ≤ 16384) (pr : Int32) : ∀ (d i m : Nat), i + d = N → d < m → (lp (L_Ff_readKern_115 (nI n) (nI U) f st sz) m (nI s, nI N, kBf n f s i, nI i, pr) = some (1, nI N) ∧ ∀ j, i ≤ j → j < N → kOk n f s U j) ∨ (lp (L_Ff_readKern_115 (nI n) (nI U) f st sz) m (nI s, nI N, kBf n f s i, nI i, pr) = some (0, pr) ∧ ∃ j, i ≤ j ∧ j < N ∧ ¬ kOk n f s U j) := by
  intro d
  induction d with
  | zero =>
    intro i m hi hm
    obtain ⟨m, rfl⟩ := suc_of hm
    refine Or.inl ⟨?_, fun j h1 h2 => absurd h2 (by omega)⟩
    rw [e_Ff_readKern_115]
    unfold P_Ff_readKern_115b
    rw [if_pos (nI_le (by omega) (by omega))]
  | succ d ih =>
    intro i m hi hm
    obtain ⟨m, rfl⟩ := suc_of hm
    rw [e_Ff_readKern_115]
    unfold P_Ff_readKern_115b
    rw [if_neg (nI_ge (by omega) (by omega)), pair_f hn f e (by omega) (by omega), some_bind, some_bind, show (6 : Int32) * nI i = nI (6 * i) from pk_mul 6 i, show nI s + (22 : Int32) = nI (s + 22) from nI_add s 22, nI_add, sg hn (by omega), some_bind, nI_1, show s16 (tAt n f (s + 22 + 6 * i)) = kVl n f s i from rfl]
    have b := kPr_lt n f s i
    have cE : lg_cmp (lN (kPr n f s i)) (kBf n f s i) ≤ 0 ↔ ¬ (1 ≤ i → kPr n f s (i - 1) < kPr n f s i) := by
      rw [lg_cmp_le]
      cases i with
      | zero => exact ⟨fun q => absurd q (lg_lt_not_le (lm1_lt _ (by omega))), fun q => absurd (fun w => absurd w (by omega)) q⟩
      | succ i =>
        have b' := kPr_lt n f s i
        show lN (kPr n f s (i + 1)) ≤ lN (kPr n f s i) ↔ _
        rw [pk_lLE (by omega) (by omega)]
        simp
    by_cases c : 1 ≤ i → kPr n f s (i - 1) < kPr n f s i
    · rw [if_neg (fun q => cE.mp q c)]
      by_cases c2 : modest U (kVl n f s i)
      · rw [mod_y hU c2, some_bind, if_neg (show ¬ (1 : Int32) = 0 by decide)]
        rcases ih (i + 1) m (by omega) (by omega) with ⟨h1, h2⟩ | ⟨h1, j, h2, h3, h4⟩
        · refine Or.inl ⟨h1, fun j q1 q2 => ?_⟩
          rcases Nat.lt_or_ge i j with q | q
          · exact h2 j q q2
          · rw [show j = i by omega]; exact ⟨c, c2⟩
        · exact Or.inr ⟨h1, j, by omega, h3, h4⟩
      · rw [mod_n hU c2, some_bind, if_pos rfl]
        exact Or.inr ⟨rfl, i, by omega, by omega, fun q => c2 q.2⟩
    · rw [if_pos (cE.mpr c)]
      exact Or.inr ⟨rfl, i, by omega, by omega, fun q => c q.1⟩
theorem kern_m {n : Nat} (hn : n ≤ 4096) {f g : Nat → Int32} (hg : Agr n f g) {a l : Nat → Int32} {s z U N : Nat} (hz : s + z ≤ n) (hN : 18 + 6 * N ≤ z) (hU : U ≤ 16384) : ∀ (d i m : Nat), i + d = N → d < m → (lp (L_Mo_kern_fZ_103 (nI U) g a l) m (nI s, nI N, nI i) = some 1 ∧ ∀ j, i ≤ j → j < N → kOk n f s U j) ∨ (lp (L_Mo_kern_fZ_103 (nI U) g a l) m (nI s, nI N, nI i) = some 0 ∧ ∃ j, i ≤ j ∧ j < N ∧ ¬ kOk n f s U j) := by
  intro d
  induction d with
  | zero =>
    intro i m hi hm
    obtain ⟨m, rfl⟩ := suc_of hm
    refine Or.inl ⟨?_, fun j h1 h2 => absurd h2 (by omega)⟩
    rw [e_Mo_kern_fZ_103]
    unfold P_Mo_kern_fZ_103b
    rw [if_pos (nI_le (by omega) (by omega))]
  | succ d ih =>
    intro i m hi hm
    obtain ⟨m, rfl⟩ := suc_of hm
    have b := kPr_lt n f s i
    have fin : (1 ≤ i → kPr n f s (i - 1) < kPr n f s i) → (P_Mo_kern_fZ_146 (nI U) g a l (lp (L_Mo_kern_fZ_103 (nI U) g a l) m) (nI s) (nI N) (nI i) = some 1 ∧ ∀ j, i ≤ j → j < N → kOk n f s U j) ∨ (P_Mo_kern_fZ_146 (nI U) g a l (lp (L_Mo_kern_fZ_103 (nI U) g a l) m) (nI s) (nI N) (nI i) = some 0 ∧ ∃ j, i ≤ j ∧ j < N ∧ ¬ kOk n f s U j) := by
      intro c
      unfold P_Mo_kern_fZ_146
      rw [show (6 : Int32) * nI i = nI (6 * i) from pk_mul 6 i, show nI s + (22 : Int32) = nI (s + 22) from nI_add s 22, nI_add, msA hn hg (by omega), some_bind, nI_1, show s16 (tAt n f (s + 22 + 6 * i)) = kVl n f s i from rfl]
      obtain ⟨w, q1, q2, q3⟩ := abs_mod hU (s16_r (tAt n f (s + 22 + 6 * i)))
      have q1 : P_Jm_abs_II (kVl n f s i) = some w := q1
      rw [q1, some_bind]
      by_cases c2 : modest U (kVl n f s i)
      · rw [if_pos (q3.mpr c2)]
        rcases ih (i + 1) m (by omega) (by omega) with ⟨h1, h2⟩ | ⟨h1, j, h2, h3, h4⟩
        · refine Or.inl ⟨h1, fun j q1 q2 => ?_⟩
          rcases Nat.lt_or_ge i j with q | q
          · exact h2 j q q2
          · rw [show j = i by omega]; exact ⟨c, c2⟩
        · exact Or.inr ⟨h1, j, by omega, h3, h4⟩
      · rw [if_neg (fun q => c2 (q3.mp q))]
        exact Or.inr ⟨rfl, i, by omega, by omega, fun q => c2 q.2⟩
    rw [e_Mo_kern_fZ_103]
    unfold P_Mo_kern_fZ_103b
    rw [if_neg (nI_ge (by omega) (by omega))]
    cases i with
    | zero =>
      rw [if_pos (by decide)]
      exact fin (fun q => absurd q (by omega))
    | succ i =>
      have b' := kPr_lt n f s i
      rw [if_neg (nI_nle (by omega) (by omega)), show (6 : Int32) * nI (i + 1) = nI (6 * (i + 1)) from pk_mul 6 (i + 1), show nI s + (18 : Int32) = nI (s + 18) from nI_add s 18, show nI s + (12 : Int32) = nI (s + 12) from nI_add s 12, nI_add, nI_add, mbA hn hg (by omega), some_bind, mbA hn hg (by omega), some_bind, show s + 12 + 6 * (i + 1) = s + 18 + 6 * i by omega, show fAt n f (s + 18 + 6 * i) = kPr n f s i from rfl, show fAt n f (s + 18 + 6 * (i + 1)) = kPr n f s (i + 1) from rfl]
      by_cases c : kPr n f s i < kPr n f s (i + 1)
      · rw [if_neg (fun q => absurd ((pk_lLE (by omega) (by omega)).mp ((lg_cmp_le _ _).mp q)) (by omega))]
        exact fin (fun _ => c)
      · rw [if_pos ((lg_cmp_le _ _).mpr ((pk_lLE (by omega) (by omega)).mpr (by omega)))]
        exact Or.inr ⟨rfl, i + 1, by omega, by omega, fun q => c (q.1 (by omega))⟩
/-- what stands of kern: nothing, or N pairs that rise -/
def Krn (n : Nat) (f st sz a l : Nat → Int32) (U : Nat) (pairs : Int32) : Prop := (sz 7 = -1 ∧ a 5 = -1 ∧ pairs = 0) ∨ ∃ s z N, Tt n st sz a l 7 s z ∧ pairs = nI N ∧ tAt n f (s + 10) = N ∧ 18 + 6 * N ≤ z ∧ ∀ j, j < N → kOk n f s U j
/-- rule 9: kern -/
theorem kern_b {n : Nat} (hn : n ≤ 4096) {f g : Nat → Int32} (hg : Agr n f g) {st sz a l : Nat → Int32} (h : Tb n st sz a l) {U : Nat} (hU : U ≤ 16384) : ∃ r p, P_Ff_readKern (nI n) (nI U) 0 f st sz = some (r, p) ∧ P_Mo_kern_fZ (nI U) g a l = some r ∧ (r = 0 ∨ r = 1 ∧ Krn n f st sz a l U p) := by
  unfold P_Ff_readKern P_Mo_kern_fZ
  simp only [bl7, cl7, bl5, cl5]
  rcases h 7 (by omega) with ⟨e1, e2⟩ | ⟨s, z, hT⟩
  · have e2 : a 5 = -1 := e2
    rw [e1, e2, if_neg (by decide), if_neg (by decide)]
    exact ⟨1, 0, rfl, rfl, Or.inr ⟨rfl, Or.inl ⟨e1, e2, rfl⟩⟩⟩
  obtain ⟨hz, e1, e2, e3, e4⟩ := id hT
  have e3 : a 5 = nI s := e3
  have e4 : l 5 = nI z := e4
  rw [e1, e2, e3, e4, if_pos (nI_pos' (by omega)), if_pos (nI_pos' (by omega)), show nI s + (6 : Int32) = nI (s + 6) from nI_add s 6, show nI s + (10 : Int32) = nI (s + 10) from nI_add s 10, show nI s + (2 : Int32) = nI (s + 2) from nI_add s 2, show nI s + (8 : Int32) = nI (s + 8) from nI_add s 8, tw hn (by omega), some_bind, tw hn (by omega), some_bind, tw hn (by omega), some_bind, tw hn (by omega), some_bind, tw hn (by omega), some_bind, show (18 : Int32) = nI 18 from rfl]
  by_cases c0 : z < 18
  · rw [if_pos (nI_lt c0 (by omega)), if_pos (nI_lt c0 (by omega))]
    exact ⟨0, _, rfl, rfl, Or.inl rfl⟩
  rw [if_neg (nI_nlt (by omega) (by omega)), if_neg (nI_nlt (by omega) (by omega)), mtA hn hg (by omega), some_bind, mtA hn hg (by omega), some_bind, mtA hn hg (by omega), some_bind, mtA hn hg (by omega), some_bind, mtA hn hg (by omega), some_bind]
  have b1 := tAt_lt n f s
  have b2 := tAt_lt n f (s + 2)
  have b3 := tAt_lt n f (s + 6)
  have b4 := tAt_lt n f (s + 8)
  have b5 := tAt_lt n f (s + 10)
  have o1 : nI (tAt n f s) = 0 ↔ tAt n f s = 0 := nI_eq (b := 0) (by omega) (by omega)
  have o2 : nI (tAt n f (s + 2)) < (1 : Int32) ↔ tAt n f (s + 2) < 1 := nI_ltI (b := 1) (by omega) (by omega)
  have o3 : nI (tAt n f (s + 8)) = (1 : Int32) ↔ tAt n f (s + 8) = 1 := nI_eq (b := 1) (by omega) (by omega)
  have o4 : nI (tAt n f (s + 6)) < (14 : Int32) + (6 : Int32) * nI (tAt n f (s + 10)) ↔ tAt n f (s + 6) < 14 + 6 * tAt n f (s + 10) := by
    rw [show (6 : Int32) = nI 6 from rfl, pk_mul, show (14 : Int32) = nI 14 from rfl, nI_add]; exact nI_ltI (by omega) (by omega)
  have o5 : (4 : Int32) + nI (tAt n f (s + 6)) ≤ nI z ↔ 4 + tAt n f (s + 6) ≤ z := by
    rw [show (4 : Int32) = nI 4 from rfl, nI_add]; exact nI_leI (by omega) (by omega)
  simp only [o1, o2, o3, o4, o5]
  by_cases c1 : tAt n f s = 0
  · rw [if_pos c1, if_pos c1]
    by_cases c2 : tAt n f (s + 2) < 1
    · rw [if_pos c2, if_pos c2]
      exact ⟨0, _, rfl, rfl, Or.inl rfl⟩
    rw [if_neg c2, if_neg c2]
    by_cases c3 : tAt n f (s + 8) = 1
    · rw [if_pos c3, if_pos c3]
      by_cases c4 : tAt n f (s + 6) < 14 + 6 * tAt n f (s + 10)
      · rw [if_pos c4, if_pos c4]
        exact ⟨0, _, rfl, rfl, Or.inl rfl⟩
      rw [if_neg c4, if_neg c4]
      by_cases c5 : 4 + tAt n f (s + 6) ≤ z
      · rw [if_pos c5, if_pos c5]
        rcases kern_f hn f (sz := sz) (N := tAt n f (s + 10)) e1 hz (by omega) hU 0 (tAt n f (s + 10)) 0 fuel (by omega) (by unfold fuel; omega) with ⟨h1, h2⟩ | ⟨h1, j, _, h2, h3⟩
        · rcases kern_m hn hg (a := a) (l := l) (N := tAt n f (s + 10)) hz (by omega) hU (tAt n f (s + 10)) 0 fuel (by omega) (by unfold fuel; omega) with ⟨q1, q2⟩ | ⟨q1, j, _, q2, q3⟩
          · exact ⟨1, _, h1, q1, Or.inr ⟨rfl, Or.inr ⟨s, z, _, hT, rfl, rfl, by omega, fun j hj => h2 j (by omega) hj⟩⟩⟩
          · exact absurd (h2 j (by omega) q2) q3
        · rcases kern_m hn hg (a := a) (l := l) (N := tAt n f (s + 10)) hz (by omega) hU (tAt n f (s + 10)) 0 fuel (by omega) (by unfold fuel; omega) with ⟨q1, q2⟩ | ⟨q1, _⟩
          · exact absurd (q2 j (by omega) h2) h3
          · exact ⟨0, _, h1, q1, Or.inl rfl⟩
      · rw [if_neg c5, if_neg c5]
        exact ⟨0, _, rfl, rfl, Or.inl rfl⟩
    · rw [if_neg c3, if_neg c3]
      exact ⟨0, _, rfl, rfl, Or.inl rfl⟩
  · rw [if_neg c1, if_neg c1]
    exact ⟨0, _, rfl, rfl, Or.inl rfl⟩
