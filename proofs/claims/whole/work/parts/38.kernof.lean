/-! PURE ROWS: the kern of two glyphs, scaling -/
theorem kcount {n : Nat} {f : Nat → Int32} {s U : Nat} (v : Nat) : ∀ N : Nat, (∀ j, j < N → kOk n f s U j) → ∃ c, c ≤ N ∧ (∀ i, i < c → kPr n f s i < v) ∧ ∀ i, c ≤ i → i < N → v ≤ kPr n f s i := by
  intro N
  induction N with
  | zero => intro _; exact ⟨0, by omega, fun i hi => absurd hi (by omega), fun i _ hi => absurd hi (by omega)⟩
  | succ N ih =>
    intro h
    obtain ⟨c, h1, h2, h3⟩ := ih (fun j hj => h j (by omega))
    by_cases q : c = N
    · subst q
      by_cases w : kPr n f s c < v
      · refine ⟨c + 1, by omega, fun i hi => ?_, fun i p1 p2 => absurd p2 (by omega)⟩
        rcases Nat.lt_or_ge i c with p | p
        · exact h2 i p
        · rw [show i = c by omega]; exact w
      · exact ⟨c, by omega, h2, fun i p1 p2 => by rw [show i = c by omega]; omega⟩
    · refine ⟨c, by omega, h2, fun i p1 p2 => ?_⟩
      rcases Nat.lt_or_ge i N with p | p
      · exact h3 i p1 p
      · have e : i = N := by omega
        have a1 := h3 (N - 1) (by omega) (by omega)
        have a2 := (h N (by omega)).1 (by omega)
        rw [e]; omega
theorem kof_f {n : Nat} (hn : n ≤ 4096) (f : Nat → Int32) {st : Nat → Int32} {s N v c : Nat} (e : st 7 = nI s) (hs : s + (18 + 6 * N) ≤ n) (hv : v < 4294967296) (hc : c ≤ N) (h1 : ∀ i, i < c → kPr n f s i < v) (h2 : ∀ i, c ≤ i → i < N → v ≤ kPr n f s i) : ∀ (k m b : Nat), b ≤ c → c < b + 2 * 2 ^ k → k ≤ 10 → k + 1 < m → lp (L_Ff_kernOf_39 (nI n) (nI N) f st) m (lN v, nI b, nI (2 ^ k)) = (if c < N ∧ kPr n f s c = v then some (kVl n f s c) else some 0) := by
  have last : ∀ m, 0 < m → lp (L_Ff_kernOf_39 (nI n) (nI N) f st) m (lN v, nI c, nI 0) = (if c < N ∧ kPr n f s c = v then some (kVl n f s c) else some 0) := by
    intro m hm
    obtain ⟨m, rfl⟩ := suc_of hm
    rw [e_Ff_kernOf_39]
    unfold P_Ff_kernOf_39b P_Ff_kernOf_112 P_Ff_kernOf_113
    simp only [bl7, cl7, e]
    rw [if_pos (by decide)]
    by_cases d1 : c < N
    · have b := kPr_lt n f s c
      rw [if_neg (nI_ge d1 (by omega)), pair_f hn f e (by omega) (by omega), some_bind]
      by_cases d2 : kPr n f s c = v
      · rw [if_pos ((lg_cmp_eq _ _).mpr (by rw [d2])), if_neg (by decide), if_pos ⟨d1, d2⟩, show (6 : Int32) * nI c = nI (6 * c) from pk_mul 6 c, show nI s + (22 : Int32) = nI (s + 22) from nI_add s 22, nI_add, sg hn (by omega), some_bind]
        rfl
      · rw [if_neg (fun q => d2 ((pk_lEQ (by omega) (by omega)).mp ((lg_cmp_eq _ _).mp q))), if_pos trivial, if_neg (fun q => d2 q.2)]
    · rw [if_pos (nI_le (by omega) (by omega)), if_pos trivial, if_neg (fun q => d1 q.1)]
  have step : ∀ (k m b : Nat), b ≤ c → k ≤ 10 → c < b + 2 * 2 ^ k → ∃ b', b' ≤ c ∧ c < b' + 2 ^ k ∧ P_Ff_kernOf_39b (nI n) (nI N) f st (lp (L_Ff_kernOf_39 (nI n) (nI N) f st) m) (lN v) (nI b) (nI (2 ^ k)) = lp (L_Ff_kernOf_39 (nI n) (nI N) f st) m (lN v, nI b', nI (2 ^ k / 2)) := by
    intro k m b hb hk hcb
    have h0 : 0 < 2 ^ k := Nat.pow_pos (by omega)
    have hle : 2 ^ k ≤ 1024 := Nat.le_trans (Nat.pow_le_pow_right (by omega) hk) (by omega)
    unfold P_Ff_kernOf_39b P_Ff_kernOf_79
    rw [if_neg (nI_nle h0 (by omega)), nI_add, show nI (2 ^ k) / (2 : Int32) = nI (2 ^ k / 2) from pk_div (d := 2) (by omega) (by omega) (by omega), show nI (b + 2 ^ k) - (1 : Int32) = nI (b + 2 ^ k - 1) from pk_sub (b := 1) (by omega)]
    by_cases d1 : N < b + 2 ^ k
    · rw [if_pos (nI_lt d1 (by omega))]
      exact ⟨b, hb, by omega, rfl⟩
    · rw [if_neg (nI_nlt (by omega) (by omega)), pair_f hn f e (by omega) (by omega), some_bind]
      have bb := kPr_lt n f s (b + 2 ^ k - 1)
      by_cases d2 : v ≤ kPr n f s (b + 2 ^ k - 1)
      · rw [if_pos ((lg_cmp_ge _ _).mpr ((pk_lLE (by omega) (by omega)).mpr d2))]
        refine ⟨b, hb, ?_, rfl⟩
        rcases Nat.lt_or_ge (b + 2 ^ k - 1) c with q | q
        · exact absurd (h1 _ q) (by omega)
        · omega
      · rw [if_neg (fun q => d2 ((pk_lLE (by omega) (by omega)).mp ((lg_cmp_ge _ _).mp q)))]
        refine ⟨b + 2 ^ k, ?_, by omega, rfl⟩
        rcases Nat.lt_or_ge (b + 2 ^ k - 1) c with q | q
        · omega
        · exact absurd (h2 _ q (by omega)) d2
  intro k
  induction k with
  | zero =>
    intro m b hb hcb _ hm
    obtain ⟨m, rfl⟩ := suc_of hm
    obtain ⟨b', q1, q2, q3⟩ := step 0 m b hb (by omega) hcb
    rw [e_Ff_kernOf_39, q3, show b' = c by omega]
    exact last m (by omega)
  | succ k ih =>
    intro m b hb hcb hk hm
    obtain ⟨m, rfl⟩ := suc_of hm
    obtain ⟨b', q1, q2, q3⟩ := step (k + 1) m b hb hk hcb
    rw [e_Ff_kernOf_39, q3, show 2 ^ (k + 1) / 2 = 2 ^ k by rw [Nat.pow_succ]; omega]
    exact ih m b' q1 (by rw [Nat.pow_succ] at q2; omega) (by omega) (by omega)
theorem kof_m {n : Nat} (hn : n ≤ 4096) {f g : Nat → Int32} (hg : Agr n f g) {a : Nat → Int32} {s N L R c : Nat} (hs : s + (18 + 6 * N) ≤ n) (eN : tAt n f (s + 10) = N) (hL : L < 65536) (hR : R < 65536) (hc : c ≤ N) (h1 : ∀ i, i < c → kPr n f s i < L * 65536 + R) (h2 : ∀ i, c ≤ i → i < N → L * 65536 + R ≤ kPr n f s i) (h3 : ∀ i, 1 ≤ i → i < N → kPr n f s (i - 1) < kPr n f s i) : ∀ (d i m : Nat), i + d = N → d < m → lp (L_Mo_kern_III_54 g a) m (nI L, nI R, nI s, nI i) = (if i ≤ c ∧ c < N ∧ kPr n f s c = L * 65536 + R then some (kVl n f s c) else some 0) := by
  have up : ∀ i, c < i → i < N → L * 65536 + R < kPr n f s i := by
    intro i p1 p2
    have a1 := h2 (i - 1) (by omega) (by omega)
    have a2 := h3 i (by omega) p2
    omega
  intro d
  induction d with
  | zero =>
    intro i m hi hm
    obtain ⟨m, rfl⟩ := suc_of hm
    rw [e_Mo_kern_III_54]
    unfold P_Mo_kern_III_54b
    rw [show nI s + (10 : Int32) = nI (s + 10) from nI_add s 10, mtA hn hg (by omega), some_bind, eN, if_pos (nI_le (by omega) (by omega)), if_neg (fun q => absurd q.2.1 (by omega))]
  | succ d ih =>
    intro i m hi hm
    obtain ⟨m, rfl⟩ := suc_of hm
    rw [e_Mo_kern_III_54]
    unfold P_Mo_kern_III_54b P_Mo_kern_III_130
    rw [show nI s + (10 : Int32) = nI (s + 10) from nI_add s 10, mtA hn hg (by omega), some_bind, eN, if_neg (nI_ge (by omega) (by omega)), show (6 : Int32) * nI i = nI (6 * i) from pk_mul 6 i, show nI s + (18 : Int32) = nI (s + 18) from nI_add s 18, show nI s + (20 : Int32) = nI (s + 20) from nI_add s 20, show nI s + (22 : Int32) = nI (s + 22) from nI_add s 22, nI_add, nI_add, nI_add, mtA hn hg (by omega), some_bind, mtA hn hg (by omega), some_bind, msA hn hg (by omega), some_bind, nI_1]
    have b1 := tAt_lt n f (s + 18 + 6 * i)
    have b2 := tAt_lt n f (s + 20 + 6 * i)
    have ek : kPr n f s i = tAt n f (s + 18 + 6 * i) * 65536 + tAt n f (s + 20 + 6 * i) := by
      unfold kPr fAt
      rw [show s + 18 + 6 * i + 2 = s + 20 + 6 * i by omega]
    have o1 : nI (tAt n f (s + 18 + 6 * i)) = nI L ↔ tAt n f (s + 18 + 6 * i) = L := nI_eq (by omega) (by omega)
    have o2 : nI (tAt n f (s + 20 + 6 * i)) = nI R ↔ tAt n f (s + 20 + 6 * i) = R := nI_eq (by omega) (by omega)
    simp only [o1, o2]
    have no : kPr n f s i ≠ L * 65536 + R → lp (L_Mo_kern_III_54 g a) m (nI L, nI R, nI s, nI (i + 1)) = (if i ≤ c ∧ c < N ∧ kPr n f s c = L * 65536 + R then some (kVl n f s c) else some 0) := by
      intro hne
      rw [ih (i + 1) m (by omega) (by omega)]
      by_cases w : i ≤ c ∧ c < N ∧ kPr n f s c = L * 65536 + R
      · have hlt : i + 1 ≤ c := by
          rcases Nat.lt_or_ge i c with q | q
          · exact q
          · have : i = c := by omega
            rw [this] at hne
            exact absurd w.2.2 hne
        rw [if_pos w, if_pos ⟨hlt, w.2.1, w.2.2⟩]
      · rw [if_neg w, if_neg (fun q => w ⟨by omega, q.2.1, q.2.2⟩)]
    by_cases c1 : tAt n f (s + 18 + 6 * i) = L
    · rw [if_pos c1]
      by_cases c2 : tAt n f (s + 20 + 6 * i) = R
      · rw [if_pos c2]
        have ev : kPr n f s i = L * 65536 + R := by rw [ek, c1, c2]
        have ei : i = c := by
          rcases Nat.lt_trichotomy i c with q | q | q
          · have := h1 i q; omega
          · exact q
          · have := up i q (by omega); omega
        subst ei
        rw [if_pos ⟨by omega, by omega, ev⟩]
        rfl
      · rw [if_neg c2]
        exact no (by rw [ek]; omega)
    · rw [if_neg c1]
      exact no (by rw [ek]; omega)
theorem lshl16 {L R : Nat} (hL : L < 65536) (hR : R < 65536) : ((nI L).toInt64 <<< ((16 : Int32).toInt64 &&& 63)) ||| (nI R).toInt64 = lN (L * 65536 + R) := by
  rw [nI_l (by omega), nI_l (by omega), lN_shl16, lN_or 16 hR]
/-- promise 10: kern -/
theorem kof_b {n : Nat} (hn : n ≤ 4096) {f g : Nat → Int32} (hg : Agr n f g) {st sz a l : Nat → Int32} {U : Nat} {pairs : Int32} (h : Krn n f st sz a l U pairs) (x y : Int32) : ∃ r, P_Ff_kernOf (nI n) pairs f st x y = some r ∧ P_Mo_kern_III g a x y = some r ∧ (r = 0 ∨ modest U r) := by
  unfold P_Ff_kernOf P_Mo_kern_III
  simp only [bl5, cl5]
  have z0 : (if a 5 < 0 then some (0 : Int32) else some 0) = some 0 := by split <;> rfl
  by_cases c1 : x < 0
  · rw [if_pos c1, if_pos c1]; exact ⟨0, rfl, z0, Or.inl rfl⟩
  rw [if_neg c1, if_neg c1]
  by_cases c2 : (65535 : Int32) < x
  · rw [if_pos c2, if_pos c2]; exact ⟨0, rfl, z0, Or.inl rfl⟩
  rw [if_neg c2, if_neg c2]
  by_cases c3 : y < 0
  · rw [if_pos c3, if_pos c3]; exact ⟨0, rfl, z0, Or.inl rfl⟩
  rw [if_neg c3, if_neg c3]
  by_cases c4 : y ≤ (65535 : Int32)
  · rw [if_pos c4, if_pos c4]
    obtain ⟨L, hL', rfl⟩ := nI_of c1
    obtain ⟨R, hR', rfl⟩ := nI_of c3
    have hL : L < 65536 := by
      rcases Nat.lt_or_ge 65535 L with q | q
      · exact absurd (nI_lt (a := 65535) q (by omega)) c2
      · omega
    have hR : R < 65536 := by have := (nI_leI (b := 65535) (by omega) (by omega)).mp c4; omega
    rw [lshl16 hL hR]
    rcases h with ⟨_, e2, rfl⟩ | ⟨s, z, N, hT, rfl, eN, hz, hk⟩
    · rw [e2, if_pos (by decide)]
      refine ⟨0, ?_, rfl, Or.inl rfl⟩
      have nop : ∀ (k m : Nat), k ≤ 10 → k + 1 < m → lp (L_Ff_kernOf_39 (nI n) 0 f st) m (lN (L * 65536 + R), nI 0, nI (2 ^ k)) = some 0 := by
        have last : ∀ m, 0 < m → lp (L_Ff_kernOf_39 (nI n) 0 f st) m (lN (L * 65536 + R), nI 0, nI 0) = some 0 := by
          intro m hm
          obtain ⟨m, rfl⟩ := suc_of hm
          rw [e_Ff_kernOf_39]
          rfl
        intro k
        induction k with
        | zero =>
          intro m _ hm
          obtain ⟨m, rfl⟩ := suc_of hm
          rw [e_Ff_kernOf_39]
          unfold P_Ff_kernOf_39b P_Ff_kernOf_79
          rw [if_neg (by decide), if_pos (by decide), show nI (2 ^ 0) / (2 : Int32) = nI 0 from by decide]
          exact last m (by omega)
        | succ k ih =>
          intro m hk hm
          obtain ⟨m, rfl⟩ := suc_of hm
          have h0 : 0 < 2 ^ (k + 1) := Nat.pow_pos (by omega)
          have hle : 2 ^ (k + 1) ≤ 1024 := Nat.le_trans (Nat.pow_le_pow_right (by omega) hk) (by omega)
          rw [e_Ff_kernOf_39]
          unfold P_Ff_kernOf_39b P_Ff_kernOf_79
          rw [if_neg (nI_nle h0 (by omega)), nI_add, show (0 : Int32) = nI 0 from rfl, if_pos (nI_lt (by omega) (by omega)), show nI (2 ^ (k + 1)) / (2 : Int32) = nI (2 ^ (k + 1) / 2) from pk_div (d := 2) (by omega) (by omega) (by omega), show 2 ^ (k + 1) / 2 = 2 ^ k by rw [Nat.pow_succ]; omega]
          exact ih m (by omega) (by omega)
      exact nop 10 fuel (by omega) (by unfold fuel; omega)
    · obtain ⟨hz', e1, e2, e3, e4⟩ := hT
      have e3 : a 5 = nI s := e3
      obtain ⟨c, p1, p2, p3⟩ := kcount (n := n) (f := f) (s := s) (U := U) (L * 65536 + R) N hk
      rw [e3, if_neg (nI_pos (by omega))]
      refine ⟨if c < N ∧ kPr n f s c = L * 65536 + R then kVl n f s c else 0, ?_, ?_, ?_⟩
      · refine (kof_f hn f e1 (by omega) (by omega) p1 p2 p3 10 fuel 0 (by omega) (by omega) (by omega) (by unfold fuel; omega)).trans ?_
        split <;> rfl
      · refine (kof_m hn hg (by omega) eN hL hR p1 p2 p3 (fun i q1 q2 => (hk i q2).1 q1) N 0 fuel (by omega) (by unfold fuel; omega)).trans ?_
        by_cases w : c < N ∧ kPr n f s c = L * 65536 + R
        · rw [if_pos w, if_pos ⟨by omega, w⟩]
        · rw [if_neg w, if_neg (fun q => w q.2)]
      · by_cases w : c < N ∧ kPr n f s c = L * 65536 + R
        · rw [if_pos w]; exact Or.inr (hk c w.1).2
        · rw [if_neg w]; exact Or.inl rfl
  · rw [if_neg c4, if_neg c4]; exact ⟨0, rfl, z0, Or.inl rfl⟩
