/-! PURE ROWS: cmap, the glyph of a code -/
def cHit (n : Nat) (f : Nat → Int32) (s i : Nat) : Prop := tAt n f (s + 4 + 8 * i) = 3 ∧ tAt n f (s + 4 + 8 * i + 2) = 1
/-- d entries from i on: the first one that is told of, its offset -/
def cFst (n : Nat) (f : Nat → Int32) (s : Nat) : Nat → Nat → Option Nat
  | 0, _ => none
  | d + 1, i => if tAt n f (s + 4 + 8 * i) = 3 ∧ tAt n f (s + 4 + 8 * i + 2) = 1 then some (fAt n f (s + 4 + 8 * i + 4)) else cFst n f s d (i + 1)
def cSub (o : Option Nat) : Int64 := match o with
  | none => -1
  | some v => lN v
theorem cFst_lt {n : Nat} {f : Nat → Int32} {s : Nat} : ∀ (d i v : Nat), cFst n f s d i = some v → v < 4294967296 := by
  intro d
  induction d with
  | zero => intro i v h; cases h
  | succ d ih =>
    intro i v h
    unfold cFst at h
    split at h
    · cases h; exact fAt_lt _ _ _
    · exact ih _ _ h
def codC (n : Nat) (f : Nat → Int32) (s z v : Nat) : Prop := v + 8 ≤ z ∧ tAt n f (s + v) = 4 ∧ v + tAt n f (s + v + 2) ≤ z ∧ tAt n f (s + v + 6) % 2 = 0 ∧ 2 ≤ tAt n f (s + v + 6) ∧ 16 + 8 * (tAt n f (s + v + 6) / 2) ≤ tAt n f (s + v + 2)
/-- what both find in a subtable at v: good, or a fault -/
def CodR (n : Nat) (f : Nat → Int32) (s z v : Nat) (r c1 c2 c3 : Int32) : Prop := (¬ codC n f s z v ∧ r = 0) ∨ (codC n f s z v ∧ r = 1 ∧ c1 = nI (s + v) ∧ c2 = nI (tAt n f (s + v + 2)) ∧ c3 = nI (tAt n f (s + v + 6) / 2))
theorem cod_f {n : Nat} (hn : n ≤ 4096) (f : Nat → Int32) {st sz : Nat → Int32} {s z v : Nat} (e1 : st 0 = nI s) (e2 : sz 0 = nI z) (hz : s + z ≤ n) (hv : v < 4294967296) (x1 x2 x3 : Int32) : ∃ r c1 c2 c3, P_Ff_readCodes (nI n) x1 x2 x3 f st sz (lN v) = some (r, c1, c2, c3) ∧ CodR n f s z v r c1 c2 c3 := by
  unfold P_Ff_readCodes
  simp only [bl0, cl0, e1, e2]
  rw [show (8 : Int64) = lN 8 from rfl, lN_add, nI_l (by omega), lN_i]
  by_cases c1 : v + 8 ≤ z
  · rw [if_pos ((lg_cmp_le _ _).mpr ((pk_lLE (by omega) (by omega)).mpr c1)), nI_add, show nI (s + v) + (2 : Int32) = nI (s + v + 2) from nI_add _ 2, show nI (s + v) + (6 : Int32) = nI (s + v + 6) from nI_add _ 6, tw hn (by omega), some_bind, tw hn (by omega), some_bind, tw hn (by omega), some_bind]
    have b1 := tAt_lt n f (s + v)
    have b2 := tAt_lt n f (s + v + 2)
    have b3 := tAt_lt n f (s + v + 6)
    unfold CodR codC
    generalize tAt n f (s + v) = A at *
    generalize tAt n f (s + v + 2) = B at *
    generalize tAt n f (s + v + 6) = D at *
    have o1 : nI A = (4 : Int32) ↔ A = 4 := nI_eq (b := 4) (by omega) (by omega)
    have o3 : nI D / (2 : Int32) = nI (D / 2) := pk_div (d := 2) (by omega) (by omega) (by omega)
    have o4 : nI D - nI D / (2 : Int32) * (2 : Int32) = nI (D % 2) := pk_rem (d := 2) (by omega) (by omega) (by omega)
    have o5 : nI (D % 2) = 0 ↔ D % 2 = 0 := nI_eq (b := 0) (by omega) (by omega)
    have o6 : nI (D / 2) < (1 : Int32) ↔ D / 2 < 1 := nI_ltI (b := 1) (by omega) (by omega)
    have o7 : (16 : Int32) + (8 : Int32) * nI (D / 2) = nI (16 + 8 * (D / 2)) := by rw [show (8 : Int32) = nI 8 from rfl, pk_mul, show (16 : Int32) = nI 16 from rfl, nI_add]
    have o8 : nI B < nI (16 + 8 * (D / 2)) ↔ B < 16 + 8 * (D / 2) := nI_ltI (by omega) (by omega)
    have o9 : 0 < lg_cmp (lN v + (nI B).toInt64) (lN z) ↔ z < v + B := by
      rw [nI_l (by omega), lN_add, lg_cmp_gt]; exact pk_lLT (by omega) (by omega)
    rw [o4, o3]
    simp only [o1, o5, o6, o7, o8, o9]
    by_cases d1 : A = 4
    · by_cases d2 : z < v + B
      · rw [if_pos d1, if_pos d2]; exact ⟨0, _, _, _, rfl, Or.inl ⟨by omega, rfl⟩⟩
      · by_cases d3 : D % 2 = 0
        · by_cases d4 : D / 2 < 1
          · rw [if_pos d1, if_neg d2, if_pos d3, if_pos d4]; exact ⟨0, _, _, _, rfl, Or.inl ⟨by omega, rfl⟩⟩
          · by_cases d5 : B < 16 + 8 * (D / 2)
            · rw [if_pos d1, if_neg d2, if_pos d3, if_neg d4, if_pos d5]; exact ⟨0, _, _, _, rfl, Or.inl ⟨by omega, rfl⟩⟩
            · rw [if_pos d1, if_neg d2, if_pos d3, if_neg d4, if_neg d5]; exact ⟨1, _, _, _, rfl, Or.inr ⟨by omega, rfl, rfl, rfl, rfl⟩⟩
        · rw [if_pos d1, if_neg d2, if_neg d3]; exact ⟨0, _, _, _, rfl, Or.inl ⟨by omega, rfl⟩⟩
    · rw [if_neg d1]; exact ⟨0, _, _, _, rfl, Or.inl ⟨by omega, rfl⟩⟩
  · rw [if_neg (fun q => c1 ((pk_lLE (by omega) (by omega)).mp ((lg_cmp_le _ _).mp q)))]
    exact ⟨0, _, _, _, rfl, Or.inl ⟨fun q => c1 q.1, rfl⟩⟩
def CmR (n : Nat) (f : Nat → Int32) (s z : Nat) (o : Option Nat) (r c1 c2 c3 : Int32) : Prop := (o = none ∧ r = 0) ∨ ∃ v, o = some v ∧ CodR n f s z v r c1 c2 c3
theorem cm_f {n : Nat} (hn : n ≤ 4096) (f : Nat → Int32) {st sz : Nat → Int32} {s z N : Nat} (e1 : st 0 = nI s) (e2 : sz 0 = nI z) (hz : s + z ≤ n) (hN : 4 + 8 * N ≤ z) : ∀ (d i m : Nat) (x1 x2 x3 : Int32), i + d = N → d < m → ∃ r c1 c2 c3, lp (L_Ff_readCmap_44 (nI n) f st sz) m (nI s, nI N, nI i, x1, x2, x3) = some (r, c1, c2, c3) ∧ CmR n f s z (cFst n f s d i) r c1 c2 c3 := by
  intro d
  induction d with
  | zero =>
    intro i m x1 x2 x3 hi hm
    obtain ⟨m, rfl⟩ := suc_of hm
    refine ⟨0, x1, x2, x3, ?_, Or.inl ⟨rfl, rfl⟩⟩
    rw [e_Ff_readCmap_44]
    unfold P_Ff_readCmap_44b
    rw [if_pos (nI_le (by omega) (by omega))]
  | succ d ih =>
    intro i m x1 x2 x3 hi hm
    obtain ⟨m, rfl⟩ := suc_of hm
    have b1 := tAt_lt n f (s + 4 + 8 * i)
    have b2 := tAt_lt n f (s + 4 + 8 * i + 2)
    have o1 : nI (tAt n f (s + 4 + 8 * i)) = (3 : Int32) ↔ tAt n f (s + 4 + 8 * i) = 3 := nI_eq (b := 3) (by omega) (by omega)
    have o2 : nI (tAt n f (s + 4 + 8 * i + 2)) = (1 : Int32) ↔ tAt n f (s + 4 + 8 * i + 2) = 1 := nI_eq (b := 1) (by omega) (by omega)
    obtain ⟨r, c1, c2, c3, e', h'⟩ := ih (i + 1) m x1 x2 x3 (by omega) (by omega)
    rw [e_Ff_readCmap_44]
    unfold P_Ff_readCmap_44b P_Ff_readCmap_94 cFst
    rw [if_neg (nI_ge (by omega) (by omega)), show (8 : Int32) * nI i = nI (8 * i) from pk_mul 8 i, show nI s + (4 : Int32) = nI (s + 4) from nI_add s 4, nI_add, show nI (s + 4 + 8 * i) + (2 : Int32) = nI (s + 4 + 8 * i + 2) from nI_add _ 2, show nI (s + 4 + 8 * i) + (4 : Int32) = nI (s + 4 + 8 * i + 4) from nI_add _ 4, tw hn (by omega), some_bind, tw hn (by omega), some_bind, fo hn (by omega), some_bind, nI_1]
    simp only [o1, o2]
    by_cases d1 : tAt n f (s + 4 + 8 * i) = 3
    · by_cases d2 : tAt n f (s + 4 + 8 * i + 2) = 1
      · simp only [d1, d2, if_true, and_self]
        obtain ⟨r, c1, c2, c3, e, h⟩ := cod_f hn f e1 e2 hz (fAt_lt n f (s + 4 + 8 * i + 4)) x1 x2 x3
        refine ⟨r, c1, c2, c3, ?_, Or.inr ⟨_, rfl, h⟩⟩
        rw [e]
        show zb r (some (r, c1, c2, c3)) = _
        rcases h with ⟨_, rfl⟩ | ⟨_, rfl, _⟩
        · rfl
        · rfl
      · simp only [d1, d2, if_true, if_false, and_false]
        exact ⟨r, c1, c2, c3, e', h'⟩
    · simp only [d1, if_false, false_and]
      exact ⟨r, c1, c2, c3, e', h'⟩
theorem cm_m {n : Nat} (hn : n ≤ 4096) {f g : Nat → Int32} (hg : Agr n f g) {a l : Nat → Int32} {s z N : Nat} (e1 : a 0 = nI s) (e2 : l 0 = nI z) (hz : s + z ≤ n) (hN : 4 + 8 * N ≤ z) : ∀ (k m d : Nat) (x1 x2 x3 : Int32), k + d = N → k < m → ∃ r c1 c2 c3, lp (L_Mo_cmap_51 g a l) m (cSub (cFst n f s d k), nI k - 1, x1, x2, x3) = some (r, c1, c2, c3) ∧ CmR n f s z (cFst n f s N 0) r c1 c2 c3 := by
  intro k
  induction k with
  | zero =>
    intro m d x1 x2 x3 hk hm
    have hd : d = N := by omega
    subst hd
    obtain ⟨m, rfl⟩ := suc_of hm
    rw [e_Mo_cmap_51]
    unfold P_Mo_cmap_51b
    rw [if_pos (by decide)]
    cases ho : cFst n f s d 0 with
    | none =>
      rw [if_pos (by decide)]
      exact ⟨0, x1, x2, x3, rfl, Or.inl ⟨rfl, rfl⟩⟩
    | some v =>
      have hv := cFst_lt _ _ _ ho
      have ev : cSub (some v) = lN v := rfl
      have hnn : ¬ lg_cmp (lN v) (0 : Int64) < 0 := fun q => absurd ((lg_cmp_lt _ _).mp q) (lg_le_not_lt ((pk_lLE (a := 0) (by omega) (by omega)).mpr (by omega)))
      rw [ev, if_neg hnn]
      simp only [bl0, cl0, e1, e2]
      rw [show (8 : Int64) = lN 8 from rfl, lN_add, nI_l (by omega), lN_i]
      by_cases c1 : v + 8 ≤ z
      · rw [if_pos ((lg_cmp_le _ _).mpr ((pk_lLE (by omega) (by omega)).mpr c1)), nI_add, show nI (s + v) + (2 : Int32) = nI (s + v + 2) from nI_add _ 2, show nI (s + v) + (6 : Int32) = nI (s + v + 6) from nI_add _ 6, mtA hn hg (by omega), some_bind, mtA hn hg (by omega), some_bind, mtA hn hg (by omega), some_bind]
        have b1 := tAt_lt n f (s + v)
        have b2 := tAt_lt n f (s + v + 2)
        have b3 := tAt_lt n f (s + v + 6)
        have conv : ∀ X : Option (Int32 × Int32 × Int32 × Int32), (∃ r c1 c2 c3, X = some (r, c1, c2, c3) ∧ CodR n f s z v r c1 c2 c3) → ∃ r c1 c2 c3, X = some (r, c1, c2, c3) ∧ CmR n f s z (some v) r c1 c2 c3 := fun X ⟨r, c1, c2, c3, e, h⟩ => ⟨r, c1, c2, c3, e, Or.inr ⟨v, rfl, h⟩⟩
        refine conv _ ?_
        unfold CodR codC
        generalize tAt n f (s + v) = A at *
        generalize tAt n f (s + v + 2) = B at *
        generalize tAt n f (s + v + 6) = D at *
        have o1 : nI A = (4 : Int32) ↔ A = 4 := nI_eq (b := 4) (by omega) (by omega)
        have o3 : nI D / (2 : Int32) = nI (D / 2) := pk_div (d := 2) (by omega) (by omega) (by omega)
        have o4 : nI D - nI D / (2 : Int32) * (2 : Int32) = nI (D % 2) := pk_rem (d := 2) (by omega) (by omega) (by omega)
        have o5 : nI (D % 2) = 0 ↔ D % 2 = 0 := nI_eq (b := 0) (by omega) (by omega)
        have o6 : nI D < (2 : Int32) ↔ D < 2 := nI_ltI (b := 2) (by omega) (by omega)
        have o7 : (16 : Int32) + (8 : Int32) * nI (D / 2) = nI (16 + 8 * (D / 2)) := by rw [show (8 : Int32) = nI 8 from rfl, pk_mul, show (16 : Int32) = nI 16 from rfl, nI_add]
        have o8 : nI B < nI (16 + 8 * (D / 2)) ↔ B < 16 + 8 * (D / 2) := nI_ltI (by omega) (by omega)
        have o9 : 0 < lg_cmp (lN v + (nI B).toInt64) (lN z) ↔ z < v + B := by
          rw [nI_l (by omega), lN_add, lg_cmp_gt]; exact pk_lLT (by omega) (by omega)
        rw [o4, o3]
        simp only [o1, o5, o6, o7, o8, o9]
        by_cases d1 : A = 4
        · by_cases d2 : z < v + B
          · rw [if_pos d1, if_pos d2]; exact ⟨0, _, _, _, rfl, Or.inl ⟨by omega, rfl⟩⟩
          · by_cases d3 : D < 2
            · rw [if_pos d1, if_neg d2, if_pos d3]; exact ⟨0, _, _, _, rfl, Or.inl ⟨by omega, rfl⟩⟩
            · by_cases d4 : D % 2 = 0
              · by_cases d5 : B < 16 + 8 * (D / 2)
                · rw [if_pos d1, if_neg d2, if_neg d3, if_pos d4, if_pos d5]; exact ⟨0, _, _, _, rfl, Or.inl ⟨by omega, rfl⟩⟩
                · rw [if_pos d1, if_neg d2, if_neg d3, if_pos d4, if_neg d5]; exact ⟨1, _, _, _, rfl, Or.inr ⟨by omega, rfl, rfl, rfl, rfl⟩⟩
              · rw [if_pos d1, if_neg d2, if_neg d3, if_neg d4]; exact ⟨0, _, _, _, rfl, Or.inl ⟨by omega, rfl⟩⟩
        · rw [if_neg d1]; exact ⟨0, _, _, _, rfl, Or.inl ⟨by omega, rfl⟩⟩
      · rw [if_neg (fun q => c1 ((pk_lLE (by omega) (by omega)).mp ((lg_cmp_le _ _).mp q)))]
        exact ⟨0, _, _, _, rfl, Or.inr ⟨v, rfl, Or.inl ⟨fun q => c1 q.1, rfl⟩⟩⟩
  | succ k ih =>
    intro m d x1 x2 x3 hk hm
    obtain ⟨m, rfl⟩ := suc_of hm
    obtain ⟨r, c1, c2, c3, e', h'⟩ := ih m (d + 1) x1 x2 x3 (by omega) (by omega)
    refine ⟨r, c1, c2, c3, ?_, h'⟩
    rw [← e', e_Mo_cmap_51, nI_pred]
    have b1 := tAt_lt n f (s + 4 + 8 * k)
    have b2 := tAt_lt n f (s + 4 + 8 * k + 2)
    have o1 : nI (tAt n f (s + 4 + 8 * k)) = (3 : Int32) ↔ tAt n f (s + 4 + 8 * k) = 3 := nI_eq (b := 3) (by omega) (by omega)
    have o2 : nI (tAt n f (s + 4 + 8 * k + 2)) = (1 : Int32) ↔ tAt n f (s + 4 + 8 * k + 2) = 1 := nI_eq (b := 1) (by omega) (by omega)
    unfold P_Mo_cmap_51b P_Mo_cmap_103
    simp only [bl0, cl0, e1]
    rw [if_neg (nI_pos (by omega)), show (8 : Int32) * nI k = nI (8 * k) from pk_mul 8 k, show nI s + (4 : Int32) = nI (s + 4) from nI_add s 4, nI_add, show nI (s + 4 + 8 * k) + (2 : Int32) = nI (s + 4 + 8 * k + 2) from nI_add _ 2, show nI (s + 4 + 8 * k) + (4 : Int32) = nI (s + 4 + 8 * k + 4) from nI_add _ 4, mtA hn hg (by omega), some_bind, mtA hn hg (by omega), some_bind, mbA hn hg (by omega), some_bind, show nI k + (-1 : Int32) = nI k - 1 from (Int32.sub_eq_add_neg (a := nI k) (b := 1)).symm]
    simp only [o1, o2, cFst]
    by_cases d1 : tAt n f (s + 4 + 8 * k) = 3
    · by_cases d2 : tAt n f (s + 4 + 8 * k + 2) = 1
      · simp only [d1, d2, if_true, and_self]; rfl
      · simp only [d1, d2, if_true, if_false, and_false]
    · simp only [d1, if_false, false_and]
/-- rule 7: cmap -/
theorem cmap_b {n : Nat} (hn : n ≤ 4096) {f g : Nat → Int32} (hg : Agr n f g) {st sz a l : Nat → Int32} {s z : Nat} (h : Tt n st sz a l 0 s z) (x1 x2 x3 y1 y2 y3 : Int32) : ∃ r c1 c2 c3 d1 d2 d3, P_Ff_readCmap (nI n) x1 x2 x3 f st sz = some (r, c1, c2, c3) ∧ P_Mo_cmap y1 y2 y3 g a l = some (r, d1, d2, d3) ∧ (r = 0 ∨ r = 1 ∧ d1 = c1 ∧ d2 = c2 ∧ d3 = c3 ∧ ∃ C B D : Nat, c1 = nI C ∧ c2 = nI B ∧ c3 = nI D ∧ 1 ≤ D ∧ 16 + 8 * D ≤ B ∧ C + B ≤ n) := by
  obtain ⟨hz, e1, e2, e3, e4⟩ := h
  have e3 : a 0 = nI s := e3
  have e4 : l 0 = nI z := e4
  unfold P_Ff_readCmap P_Mo_cmap
  simp only [bl0, cl0, e1, e2, e3, e4]
  rw [show nI s + (2 : Int32) = nI (s + 2) from nI_add s 2, tw hn (by omega), some_bind, show (4 : Int32) = nI 4 from rfl]
  have b := tAt_lt n f (s + 2)
  by_cases c1 : z < 4
  · rw [if_pos (nI_lt c1 (by omega)), if_neg (nI_ge c1 (by omega))]
    exact ⟨0, _, _, _, _, _, _, rfl, rfl, Or.inl rfl⟩
  rw [if_neg (nI_nlt (by omega) (by omega)), if_pos (nI_le (by omega) (by omega)), mtA hn hg (by omega), some_bind, show (8 : Int32) = nI 8 from rfl, pk_mul, nI_add]
  by_cases c2 : 4 + 8 * tAt n f (s + 2) ≤ z
  · rw [if_pos (nI_le c2 (by omega)), if_pos (nI_le c2 (by omega))]
    obtain ⟨r, c1, c2', c3, e, h⟩ := cm_f hn f e1 e2 hz c2 (tAt n f (s + 2)) 0 fuel x1 x2 x3 (by omega) (by unfold fuel; omega)
    obtain ⟨r', d1, d2', d3, e', h'⟩ := cm_m hn hg e3 e4 hz c2 (tAt n f (s + 2)) fuel 0 y1 y2 y3 (by omega) (by unfold fuel; omega)
    have key : r' = r ∧ (r = 0 ∨ r = 1 ∧ d1 = c1 ∧ d2' = c2' ∧ d3 = c3 ∧ ∃ C B D : Nat, c1 = nI C ∧ c2' = nI B ∧ c3 = nI D ∧ 1 ≤ D ∧ 16 + 8 * D ≤ B ∧ C + B ≤ n) := by
      rcases h with ⟨p, rfl⟩ | ⟨v, p, q⟩
      · rcases h' with ⟨_, rfl⟩ | ⟨v', p', _⟩
        · exact ⟨rfl, Or.inl rfl⟩
        · rw [p] at p'; cases p'
      · rcases h' with ⟨p', _⟩ | ⟨v', p', q'⟩
        · rw [p] at p'; cases p'
        · rw [p] at p'; cases p'
          rcases q with ⟨q1, rfl⟩ | ⟨q1, rfl, rfl, rfl, rfl⟩
          · rcases q' with ⟨_, rfl⟩ | ⟨q2, _⟩
            · exact ⟨rfl, Or.inl rfl⟩
            · exact absurd q2 q1
          · rcases q' with ⟨q2, _⟩ | ⟨q2, rfl, rfl, rfl, rfl⟩
            · exact absurd q1 q2
            · unfold codC at q1
              exact ⟨rfl, Or.inr ⟨rfl, rfl, rfl, rfl, _, _, _, rfl, rfl, rfl, by omega, by omega, by omega⟩⟩
    obtain ⟨rfl, k2⟩ := key
    exact ⟨r', c1, c2', c3, d1, d2', d3, e, e', k2⟩
  · rw [if_neg (nI_ge (by omega) (by omega)), if_neg (nI_ge (by omega) (by omega))]
    exact ⟨0, _, _, _, _, _, _, rfl, rfl, Or.inl rfl⟩
