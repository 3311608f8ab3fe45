/-! PURE ROWS: sums and the directory -/
def smT (f : Nat → Int32) (s : Nat) (h : Int32) (k : Nat) : Int32 := if h = 0 ∨ k < 8 ∨ 12 ≤ k then nI (By f (s + k)) <<< (((24 : Int32) - (8 : Int32) * nI (k % 4)) &&& 31) else 0
def sm (f : Nat → Int32) (s : Nat) (h : Int32) : Nat → Int32
  | 0 => 0
  | k + 1 => sm f s h k + smT f s h k
theorem i_add0 (x : Int32) : x + 0 = x := by
  apply Int32.toBitVec_inj.mp
  simp
theorem ksm_i {n s z : Nat} (hn : n ≤ 4096) (hz : s + z ≤ n) (f : Nat → Int32) (h : Int32) : ∀ (d k m : Nat), k + d = z → d < m → lp (L_Ff_sum_6 (nI n) f) m (nI s, nI z, h, sm f s h k, nI k) = some ((sm f s h z).toInt64 &&& (4294967295 : Int64)) := by
  intro d
  induction d with
  | zero =>
    intro k m hk hm
    obtain ⟨m, rfl⟩ := suc_of hm
    rw [e_Ff_sum_6]
    unfold P_Ff_sum_6b
    rw [if_pos (nI_le (by omega) (by omega)), show k = z by omega]
  | succ d ih =>
    intro k m hk hm
    obtain ⟨m, rfl⟩ := suc_of hm
    rw [e_Ff_sum_6]
    unfold P_Ff_sum_6b
    rw [if_neg (nI_ge (by omega) (by omega)), nI_add, if_neg (nI_ge (by omega) (by omega))]
    have go : ∀ v, sm f s h k + v = sm f s h (k + 1) → P_Ff_sum_70 (nI n) f (lp (L_Ff_sum_6 (nI n) f) m) (nI s) (nI z) h (sm f s h k + v) (nI k) = some ((sm f s h z).toInt64 &&& (4294967295 : Int64)) := by
      intro v hv
      unfold P_Ff_sum_70
      rw [hv, nI_1]
      exact ih (k + 1) m (by omega) (by omega)
    have yes : h = 0 ∨ k < 8 ∨ 12 ≤ k → P_Ff_sum_41 (nI n) f (lp (L_Ff_sum_6 (nI n) f) m) (nI s) (nI z) h (sm f s h k) (nI k) = some ((sm f s h z).toInt64 &&& (4294967295 : Int64)) := by
      intro hh
      unfold P_Ff_sum_41
      rw [nI_add]
      unfold bd
      rw [if_neg (nI_in (by omega) (by omega)), nI_clamp (by omega), By_and, show nI k &&& (3 : Int32) = nI (k % 4) from pk_andN (by omega) 2 (by decide)]
      refine go _ ?_
      show _ = sm f s h k + smT f s h k
      unfold smT
      rw [if_pos hh]
    by_cases c0 : h = 0
    · rw [if_pos c0]; exact yes (Or.inl c0)
    rw [if_neg c0]
    by_cases c1 : nI k < (8 : Int32)
    · rw [if_pos c1]; exact yes (Or.inr (Or.inl ((nI_ltI (b := 8) (by omega) (by omega)).mp c1)))
    rw [if_neg c1]
    by_cases c2 : nI k ≤ (11 : Int32)
    · rw [if_pos c2]
      have h1 : ¬ k < 8 := fun q => c1 (nI_lt (b := 8) q (by omega))
      have h2 : k ≤ 11 := (nI_leI (b := 11) (by omega) (by omega)).mp c2
      have := go 0 (by
        show _ = sm f s h k + smT f s h k
        unfold smT
        rw [if_neg (by rintro (q | q | q) <;> first | exact c0 q | omega)])
      rw [i_add0] at this
      exact this
    · rw [if_neg c2]
      exact yes (Or.inr (Or.inr (by
        rcases Nat.lt_or_ge k 12 with q | q
        · exact absurd (nI_le (a := k) (b := 11) (by omega) (by omega)) c2
        · exact q)))
theorem ksm {n s z : Nat} (hn : n ≤ 4096) (hz : s + z ≤ n) (f : Nat → Int32) (h : Int32) : P_Ff_sum (nI n) f (nI s) (nI z) h = some ((sm f s h z).toInt64 &&& (4294967295 : Int64)) :=
  ksm_i hn hz f h z 0 fuel (by omega) (by unfold fuel; omega)
theorem msm_i {n s z : Nat} (hn : n ≤ 4096) (hz : s + z ≤ n) {f g : Nat → Int32} (hg : Agr n f g) (h : Int32) : ∀ (d k m : Nat), k + d = z → d < m → lp (L_Mo_sum_6 g) m (nI s, nI z, h, sm f s h k, nI k) = some (sm f s h z) := by
  intro d
  induction d with
  | zero =>
    intro k m hk hm
    obtain ⟨m, rfl⟩ := suc_of hm
    rw [e_Mo_sum_6]
    unfold P_Mo_sum_6b
    rw [if_pos (nI_le (by omega) (by omega)), show k = z by omega]
  | succ d ih =>
    intro k m hk hm
    obtain ⟨m, rfl⟩ := suc_of hm
    rw [e_Mo_sum_6]
    unfold P_Mo_sum_6b
    rw [if_neg (nI_ge (by omega) (by omega))]
    have go : ∀ v, sm f s h k + v = sm f s h (k + 1) → P_Mo_sum_57 g (lp (L_Mo_sum_6 g) m) (nI s) (nI z) h (sm f s h k + v) (nI k) = some (sm f s h z) := by
      intro v hv
      unfold P_Mo_sum_57
      rw [hv, nI_1]
      exact ih (k + 1) m (by omega) (by omega)
    have yes : h = 0 ∨ k < 8 ∨ 12 ≤ k → P_Mo_sum_33 g (lp (L_Mo_sum_6 g) m) (nI s) (nI z) h (sm f s h k) (nI k) = some (sm f s h z) := by
      intro hh
      unfold P_Mo_sum_33
      rw [nI_add, mon (by omega), some_bind, hg.by (by omega), show nI k - nI k / (4 : Int32) * (4 : Int32) = nI (k % 4) from pk_rem (d := 4) (by omega) (by omega) (by omega)]
      refine go _ ?_
      show _ = sm f s h k + smT f s h k
      unfold smT
      rw [if_pos hh]
    by_cases c0 : h = 0
    · rw [if_pos c0]; exact yes (Or.inl c0)
    rw [if_neg c0]
    by_cases c1 : nI k < (8 : Int32)
    · rw [if_pos c1]; exact yes (Or.inr (Or.inl ((nI_ltI (b := 8) (by omega) (by omega)).mp c1)))
    rw [if_neg c1]
    by_cases c2 : (12 : Int32) ≤ nI k
    · rw [if_pos c2]
      exact yes (Or.inr (Or.inr ((nI_leI (a := 12) (by omega) (by omega)).mp c2)))
    · rw [if_neg c2]
      have h1 : ¬ k < 8 := fun q => c1 (nI_lt (b := 8) q (by omega))
      have h2 : ¬ 12 ≤ k := fun q => c2 (nI_le (a := 12) q (by omega))
      have := go 0 (by
        show _ = sm f s h k + smT f s h k
        unfold smT
        rw [if_neg (by rintro (q | q | q) <;> first | exact c0 q | omega)])
      rw [i_add0] at this
      exact this
theorem msm {n s z : Nat} (hn : n ≤ 4096) (hz : s + z ≤ n) {f g : Nat → Int32} (hg : Agr n f g) (h : Int32) : P_Mo_sum g (nI s) (nI z) h = some (sm f s h z) :=
  msm_i hn hz hg h z 0 fuel (by omega) (by unfold fuel; omega)
theorem i_mask (x : Int32) : x.toInt64 &&& (4294967295 : Int64) = lN x.toBitVec.toNat := by
  apply Int64.toBitVec_inj.mp
  apply BitVec.eq_of_getLsbD_eq
  intro i hi
  show ((x.toInt64 &&& (4294967295 : Int64)).toBitVec).getLsbD i = (BitVec.ofNat 64 x.toBitVec.toNat).getLsbD i
  rw [Int64.toBitVec_and, BitVec.getLsbD_and, BitVec.getLsbD_ofNat]
  have e : (4294967295 : Int64).toBitVec = BitVec.ofNat 64 (2 ^ 32 - 1) := by decide
  rw [e, BitVec.getLsbD_ofNat, Nat.testBit_two_pow_sub_one]
  simp only [Int32.toBitVec_toInt64, hi, decide_true, Bool.true_and]
  by_cases c : i < 32
  · rw [BitVec.getLsbD_signExtend]
    simp [c, hi, BitVec.getLsbD]
  · simp [c]
    exact (Nat.testBit_lt_two_pow (Nat.lt_of_lt_of_le x.toBitVec.isLt (Nat.pow_le_pow_right (n := 2) (by omega) (show 32 ≤ i by omega))))
theorem i_maskE (x : Int32) {v : Nat} (hv : v < 4294967296) : x.toInt64 &&& (4294967295 : Int64) = lN v ↔ x = nI v := by
  rw [i_mask]
  constructor
  · intro h
    have h2 := (pk_lEQ (Nat.lt_of_lt_of_le x.toBitVec.isLt (by omega)) (by omega)).mp h
    apply Int32.toBitVec_inj.mp
    apply BitVec.eq_of_toNat_eq
    rw [pk_tn (by omega)]
    exact h2
  · rintro rfl
    rw [pk_tn (by omega)]
theorem tagE {tg : Nat} (ht : tg < 4294967296) {x : Int32} (hx : ¬ x < 0) : lN tg = x.toInt64 ↔ nI tg = x := by
  obtain ⟨v, hv, rfl⟩ := nI_of hx
  rw [nI_l hv, pk_lEQ (by omega) (by omega)]
  constructor
  · rintro rfl; rfl
  · intro h
    have := congrArg (fun q : Int32 => q.toBitVec.toNat) h
    simp only [pk_tn (show tg < 2 ^ 32 by omega), pk_tn (show v < 2 ^ 32 by omega)] at this
    exact this
def tau (t : Nat) : Nat := if t = 5 then 6 else if t = 6 then 7 else if t = 7 then 5 else t
theorem lt8 {P : Nat → Prop} (h0 : P 0) (h1 : P 1) (h2 : P 2) (h3 : P 3) (h4 : P 4) (h5 : P 5) (h6 : P 6) (h7 : P 7) : ∀ t, t < 8 → P t := by
  intro t ht
  match t, ht with
  | 0, _ => exact h0
  | 1, _ => exact h1
  | 2, _ => exact h2
  | 3, _ => exact h3
  | 4, _ => exact h4
  | 5, _ => exact h5
  | 6, _ => exact h6
  | 7, _ => exact h7
  | t + 8, h => exact absurd h (by omega)
theorem tgs_tau : ∀ t, t < 8 → tgs_Mo (tau t) = tgs_Ff t ∧ ¬ tgs_Ff t < 0 := lt8 (by decide) (by decide) (by decide) (by decide) (by decide) (by decide) (by decide) (by decide)
theorem tau_lt : ∀ t, t < 8 → tau t < 8 := lt8 (by decide) (by decide) (by decide) (by decide) (by decide) (by decide) (by decide) (by decide)
def Tb (n : Nat) (st sz a l : Nat → Int32) : Prop := ∀ t, t < 8 → (sz t = -1 ∧ a (tau t) = -1) ∨ ∃ s z : Nat, s + z ≤ n ∧ st t = nI s ∧ sz t = nI z ∧ a (tau t) = nI s ∧ l (tau t) = nI z
def Hit (c : Nat → Prop) (k : Nat) (v w : Int32) (st sz st' sz' : Nat → Int32) : Prop := ∀ j, j < 8 → (k ≤ j → c j → st' j = v ∧ sz' j = w) ∧ ((j < k ∨ ¬ c j) → st' j = st j ∧ sz' j = sz j)
theorem Hit_s {c : Nat → Prop} {k : Nat} {v w : Int32} {st sz st' sz' : Nat → Int32} (hc : c k) (h : Hit c (k + 1) v w (upd st k v) (upd sz k w) st' sz') : Hit c k v w st sz st' sz' := by
  intro j hj
  obtain ⟨h1, h2⟩ := h j hj
  constructor
  · intro q cj
    rcases Nat.lt_or_ge k j with q' | q'
    · exact h1 q' cj
    · have e : j = k := by omega
      have := h2 (Or.inl (by omega))
      subst e
      rw [pk_us, pk_us] at this
      exact this
  · intro q
    have e : j ≠ k := by
      rintro rfl
      rcases q with q | q
      · omega
      · exact q hc
    have := h2 (by rcases q with q | q; exact Or.inl (by omega); exact Or.inr q)
    rw [pk_un e, pk_un e] at this
    exact this
theorem Hit_n {c : Nat → Prop} {k : Nat} {v w : Int32} {st sz st' sz' : Nat → Int32} (hc : ¬ c k) (h : Hit c (k + 1) v w st sz st' sz') : Hit c k v w st sz st' sz' := by
  intro j hj
  obtain ⟨h1, h2⟩ := h j hj
  refine ⟨fun q cj => ?_, fun q => h2 ?_⟩
  · rcases Nat.lt_or_ge k j with q' | q'
    · exact h1 q' cj
    · have e : j = k := by omega
      exact absurd (e ▸ cj) hc
  · rcases q with q | q
    · exact Or.inl (by omega)
    · exact Or.inr q
theorem ent_i {n : Nat} (f : Nat → Int32) (tg s z : Nat) : ∀ (d k m : Nat) (st sz : Nat → Int32), k + d = 8 → d < m → ∃ st' sz', lp (L_Ff_readEntry_87 (nI n) f) m (lN tg, lN s, lN z, nI k, st, sz) = some (1, st', sz') ∧ Hit (fun j => lN tg = (tgs_Ff j).toInt64) k (nI s) (nI z) st sz st' sz' := by
  intro d
  induction d with
  | zero =>
    intro k m st sz hk hm
    obtain ⟨m, rfl⟩ := suc_of hm
    refine ⟨st, sz, ?_, fun j hj => ⟨fun q => absurd q (by omega), fun _ => ⟨rfl, rfl⟩⟩⟩
    rw [e_Ff_readEntry_87]
    unfold P_Ff_readEntry_87b
    rw [show (8 : Int32) = nI 8 from rfl, if_pos (nI_le (by omega) (by omega))]
  | succ d ih =>
    intro k m st sz hk hm
    obtain ⟨m, rfl⟩ := suc_of hm
    rw [e_Ff_readEntry_87]
    unfold P_Ff_readEntry_87b
    rw [show (8 : Int32) = nI 8 from rfl, if_neg (nI_ge (by omega) (by omega)), bdI (by omega) (by omega), nI_clamp (by omega)]
    by_cases c : lN tg = (tgs_Ff k).toInt64
    · rw [if_pos ((lg_cmp_eq _ _).mpr c), bdI (by omega) (by omega), bdI (by omega) (by omega)]
      unfold P_Ff_readEntry_126
      rw [nI_1, lN_i, lN_i]
      obtain ⟨st', sz', e, h⟩ := ih (k + 1) m (upd st k (nI s)) (upd sz k (nI z)) (by omega) (by omega)
      exact ⟨st', sz', e, Hit_s (c := fun j => lN tg = (tgs_Ff j).toInt64) c h⟩
    · rw [if_neg (fun q => c ((lg_cmp_eq _ _).mp q))]
      unfold P_Ff_readEntry_126
      rw [nI_1]
      obtain ⟨st', sz', e, h⟩ := ih (k + 1) m st sz (by omega) (by omega)
      exact ⟨st', sz', e, Hit_n (c := fun j => lN tg = (tgs_Ff j).toInt64) c h⟩
theorem menti {n : Nat} (hn : n ≤ 4096) {f g : Nat → Int32} (hg : Agr n f g) {p : Nat} (hp : p + 3 < n) (s z : Nat) (z77 : Int32 × Int32 × (Nat → Int32) × (Nat → Int32) → Option (Int32 × (Nat → Int32) × (Nat → Int32))) (x1 x2 : Int32) : ∀ (d k m : Nat) (st sz : Nat → Int32), k + d = 8 → d < m → ∃ st' sz', lp (L_Mo_directory_207 (nI n) g z77) m (x1, x2, nI p, lN s, lN z, nI k, st, sz) = z77 (x1, x2 + 1, st', sz') ∧ Hit (fun j => nI (fAt n f p) = tgs_Mo j) k (nI s) (nI z) st sz st' sz' := by
  intro d
  induction d with
  | zero =>
    intro k m st sz hk hm
    obtain ⟨m, rfl⟩ := suc_of hm
    refine ⟨st, sz, ?_, fun j hj => ⟨fun q => absurd q (by omega), fun _ => ⟨rfl, rfl⟩⟩⟩
    rw [e_Mo_directory_207]
    unfold P_Mo_directory_207b
    rw [show (8 : Int32) = nI 8 from rfl, if_pos (nI_le (by omega) (by omega))]
  | succ d ih =>
    intro k m st sz hk hm
    obtain ⟨m, rfl⟩ := suc_of hm
    rw [e_Mo_directory_207]
    unfold P_Mo_directory_207b
    rw [show (8 : Int32) = nI 8 from rfl, if_neg (nI_ge (by omega) (by omega)), mfA hn hg hp, some_bind]
    rw [bdI (by omega) (by omega), nI_clamp (by omega)]
    by_cases c : nI (fAt n f p) = tgs_Mo k
    · rw [if_pos c, bdI (by omega) (by omega), bdI (by omega) (by omega)]
      unfold P_Mo_directory_251
      rw [nI_1, lN_i, lN_i]
      obtain ⟨st', sz', e, h⟩ := ih (k + 1) m (upd st k (nI s)) (upd sz k (nI z)) (by omega) (by omega)
      exact ⟨st', sz', e, Hit_s (c := fun j => nI (fAt n f p) = tgs_Mo j) c h⟩
    · rw [if_neg c]
      unfold P_Mo_directory_251
      rw [nI_1]
      obtain ⟨st', sz', e, h⟩ := ih (k + 1) m st sz (by omega) (by omega)
      exact ⟨st', sz', e, Hit_n (c := fun j => nI (fAt n f p) = tgs_Mo j) c h⟩
theorem Tb_hit {n tg s z : Nat} (ht : tg < 4294967296) (hz : s + z ≤ n) {st sz a l st' sz' a' l' : Nat → Int32} (h : Tb n st sz a l) (h1 : Hit (fun j => lN tg = (tgs_Ff j).toInt64) 0 (nI s) (nI z) st sz st' sz') (h2 : Hit (fun j => nI tg = tgs_Mo j) 0 (nI s) (nI z) a l a' l') : Tb n st' sz' a' l' := by
  intro t ht8
  obtain ⟨e1, e2⟩ := tgs_tau t ht8
  obtain ⟨p1, p2⟩ := h1 t ht8
  obtain ⟨q1, q2⟩ := h2 (tau t) (tau_lt t ht8)
  have eq : lN tg = (tgs_Ff t).toInt64 ↔ nI tg = tgs_Mo (tau t) := by rw [e1]; exact tagE ht e2
  by_cases c : lN tg = (tgs_Ff t).toInt64
  · obtain ⟨a1, a2⟩ := p1 (by omega) c
    obtain ⟨b1, b2⟩ := q1 (by omega) (eq.mp c)
    exact Or.inr ⟨s, z, hz, a1, a2, b1, b2⟩
  · obtain ⟨a1, a2⟩ := p2 (Or.inr c)
    obtain ⟨b1, b2⟩ := q2 (Or.inr (fun q => c (eq.mpr q)))
    rcases h t ht8 with ⟨x, y⟩ | ⟨s', z', x1, x2, x3, x4, x5⟩
    · exact Or.inl ⟨a2.trans x, b1.trans y⟩
    · exact Or.inr ⟨s', z', x1, a1.trans x2, a2.trans x3, b1.trans x4, b2.trans x5⟩
theorem fin_c {n : Nat} (f : Nat → Int32) (st sz : Nat → Int32) : ∀ (d k m : Nat), k + d = 7 → d < m → (lp (L_Ff_readDirectory_110 (nI n) f) m (nI k, st, sz) = some (1, st, sz) ∧ ∀ t, k ≤ t → t < 7 → 0 ≤ sz t) ∨ (lp (L_Ff_readDirectory_110 (nI n) f) m (nI k, st, sz) = some (0, st, sz) ∧ ∃ t, k ≤ t ∧ t < 7 ∧ ¬ 0 ≤ sz t) := by
  intro d
  induction d with
  | zero =>
    intro k m hk hm
    obtain ⟨m, rfl⟩ := suc_of hm
    refine Or.inl ⟨?_, fun t h1 h2 => absurd h2 (by omega)⟩
    rw [e_Ff_readDirectory_110]
    unfold P_Ff_readDirectory_110b
    rw [show (7 : Int32) = nI 7 from rfl, if_pos (nI_le (by omega) (by omega))]
  | succ d ih =>
    intro k m hk hm
    obtain ⟨m, rfl⟩ := suc_of hm
    rw [e_Ff_readDirectory_110]
    unfold P_Ff_readDirectory_110b
    rw [show (7 : Int32) = nI 7 from rfl, if_neg (nI_ge (by omega) (by omega)), bdI (by omega) (by omega), nI_clamp (by omega), nI_1]
    by_cases c : 0 ≤ sz k
    · rw [if_pos c]
      rcases ih (k + 1) m (by omega) (by omega) with ⟨h1, h2⟩ | ⟨h1, t, h2, h3, h4⟩
      · refine Or.inl ⟨h1, fun t q1 q2 => ?_⟩
        rcases Nat.lt_or_ge k t with q | q
        · exact h2 t q q2
        · rw [show t = k by omega]; exact c
      · exact Or.inr ⟨h1, t, by omega, h3, h4⟩
    · rw [if_neg c]
      exact Or.inr ⟨rfl, k, by omega, by omega, c⟩
theorem fin_m {n : Nat} (g : Nat → Int32) (a l : Nat → Int32) : ∀ (d k m : Nat), k + d = 8 → d < m → (lp (L_Mo_directory_265 (nI n) g) m (nI k, a, l) = some (1, a, l) ∧ ∀ t, k ≤ t → t < 8 → t ≠ 5 → 0 ≤ a t) ∨ (lp (L_Mo_directory_265 (nI n) g) m (nI k, a, l) = some (0, a, l) ∧ ∃ t, k ≤ t ∧ t < 8 ∧ t ≠ 5 ∧ ¬ 0 ≤ a t) := by
  intro d
  induction d with
  | zero =>
    intro k m hk hm
    obtain ⟨m, rfl⟩ := suc_of hm
    refine Or.inl ⟨?_, fun t h1 h2 => absurd h2 (by omega)⟩
    rw [e_Mo_directory_265]
    unfold P_Mo_directory_265b
    rw [show (8 : Int32) = nI 8 from rfl, if_pos (nI_le (by omega) (by omega))]
  | succ d ih =>
    intro k m hk hm
    obtain ⟨m, rfl⟩ := suc_of hm
    rw [e_Mo_directory_265]
    unfold P_Mo_directory_265b P_Mo_directory_287
    rw [show (8 : Int32) = nI 8 from rfl, show (5 : Int32) = nI 5 from rfl, if_neg (nI_ge (by omega) (by omega)), bdI (by omega) (by omega), nI_clamp (by omega), nI_1]
    have up : (0 ≤ a k ∨ k = 5) → (lp (L_Mo_directory_265 (nI n) g) m (nI (k + 1), a, l) = some (1, a, l) ∧ ∀ t, k ≤ t → t < 8 → t ≠ 5 → 0 ≤ a t) ∨ (lp (L_Mo_directory_265 (nI n) g) m (nI (k + 1), a, l) = some (0, a, l) ∧ ∃ t, k ≤ t ∧ t < 8 ∧ t ≠ 5 ∧ ¬ 0 ≤ a t) := by
      intro c
      rcases ih (k + 1) m (by omega) (by omega) with ⟨h1, h2⟩ | ⟨h1, t, h2, h3, h4⟩
      · refine Or.inl ⟨h1, fun t q1 q2 q3 => ?_⟩
        rcases Nat.lt_or_ge k t with q | q
        · exact h2 t q q2 q3
        · have e : t = k := by omega
          subst e
          rcases c with c | c
          · exact c
          · exact absurd c q3
      · exact Or.inr ⟨h1, t, by omega, h3, h4⟩
    by_cases c5 : nI k = nI 5
    · rw [if_pos c5]
      exact up (Or.inr ((nI_eq (by omega) (by omega)).mp c5))
    · rw [if_neg c5]
      by_cases c : 0 ≤ a k
      · rw [if_pos c]; exact up (Or.inl c)
      · rw [if_neg c]
        exact Or.inr ⟨rfl, k, by omega, by omega, fun q => c5 (by rw [q]), c⟩
theorem tau7 : ∀ t, t < 8 → (t < 7 → tau t ≠ 5) ∧ (t ≠ 5 → ∃ u, u < 7 ∧ tau u = t) := lt8 ⟨by decide, fun _ => ⟨0, by decide⟩⟩ ⟨by decide, fun _ => ⟨1, by decide⟩⟩ ⟨by decide, fun _ => ⟨2, by decide⟩⟩ ⟨by decide, fun _ => ⟨3, by decide⟩⟩ ⟨by decide, fun _ => ⟨4, by decide⟩⟩ ⟨by decide, fun h => absurd rfl h⟩ ⟨by decide, fun _ => ⟨5, by decide⟩⟩ ⟨by decide, fun _ => ⟨6, by decide⟩⟩
theorem Tb_sg {n : Nat} (hn : n ≤ 4096) {st sz a l : Nat → Int32} (h : Tb n st sz a l) {t : Nat} (ht : t < 8) : 0 ≤ sz t ↔ 0 ≤ a (tau t) := by
  rcases h t ht with ⟨e1, e2⟩ | ⟨s, z, h1, _, e2, e3, _⟩
  · rw [e1, e2]
  · rw [e2, e3]
    exact ⟨fun _ => nI_pos' (by omega), fun _ => nI_pos' (by omega)⟩
theorem fin_b {n : Nat} (hn : n ≤ 4096) (f g : Nat → Int32) {st sz a l : Nat → Int32} (h : Tb n st sz a l) : ∃ r, P_Ff_readDirectory_110 (nI n) f 0 st sz = some (r, st, sz) ∧ P_Mo_directory_265 (nI n) g 0 a l = some (r, a, l) ∧ (r = 0 ∨ r = 1 ∧ ∀ t, t < 7 → 0 ≤ sz t) := by
  rcases fin_c (n := n) f st sz 7 0 fuel (by omega) (by unfold fuel; omega) with ⟨h1, h2⟩ | ⟨h1, t, _, h3, h4⟩
  · rcases fin_m (n := n) g a l 8 0 fuel (by omega) (by unfold fuel; omega) with ⟨q1, q2⟩ | ⟨q1, u, _, q3, q4, q5⟩
    · exact ⟨1, h1, q1, Or.inr ⟨rfl, fun t ht => h2 t (by omega) ht⟩⟩
    · obtain ⟨t, ht, e⟩ := (tau7 u q3).2 q4
      refine absurd (h2 t (by omega) ht) (fun w => q5 ?_)
      rw [← e]
      exact (Tb_sg hn h (by omega)).mp w
  · rcases fin_m (n := n) g a l 8 0 fuel (by omega) (by unfold fuel; omega) with ⟨q1, q2⟩ | ⟨q1, u, _, q3, q4, q5⟩
    · refine absurd ((Tb_sg hn h (by omega)).mpr (q2 (tau t) (by omega) (tau_lt t (by omega)) ((tau7 t (by omega)).1 h3))) h4
    · exact ⟨0, h1, q1, Or.inl rfl⟩
/-- one entry: class and reference take it alike -/
theorem ent_b {n : Nat} (hn : n ≤ 4096) {f g : Nat → Int32} (hg : Agr n f g) {p : Nat} (hp : p + 16 ≤ n) {st sz a l : Nat → Int32} (h : Tb n st sz a l) (z77 : Int32 × Int32 × (Nat → Int32) × (Nat → Int32) → Option (Int32 × (Nat → Int32) × (Nat → Int32))) (x1 x2 : Int32) : (P_Ff_readEntry (nI n) f st sz (nI p) (lN (fAt n f p)) = some (0, st, sz) ∧ P_Mo_directory_113 (nI n) g z77 x1 x2 (nI p) a l = some (0, a, l)) ∨ ∃ st' sz' a' l', P_Ff_readEntry (nI n) f st sz (nI p) (lN (fAt n f p)) = some (1, st', sz') ∧ P_Mo_directory_113 (nI n) g z77 x1 x2 (nI p) a l = z77 (x1, x2 + 1, a', l') ∧ Tb n st' sz' a' l' := by
  unfold P_Ff_readEntry P_Mo_directory_113
  rw [show (8 : Int32) = nI 8 from rfl, show (12 : Int32) = nI 12 from rfl, nI_add, nI_add, fo hn (by omega), fo hn (by omega), some_bind, some_bind, mbA hn hg (by omega), mbA hn hg (by omega), some_bind, some_bind, mfA hn hg (by omega), some_bind, nI_l (by omega), lN_add]
  by_cases c1 : lN (fAt n f (p + 8)) - lN (fAt n f (p + 8)) / (4 : Int64) * (4 : Int64) = 0
  · rw [if_pos ((lg_cmp_eq _ _).mpr c1), if_pos ((lg_cmp_eq _ _).mpr c1)]
    have b1 := fAt_lt n f (p + 8)
    have b2 := fAt_lt n f (p + 12)
    by_cases c2 : n < fAt n f (p + 8) + fAt n f (p + 12)
    · rw [if_pos ((lg_cmp_gt _ _).mpr ((pk_lLT (by omega) (by omega)).mpr c2)), if_neg (fun q => absurd ((pk_lLE (by omega) (by omega)).mp ((lg_cmp_le _ _).mp q)) (by omega))]
      exact Or.inl ⟨rfl, rfl⟩
    · rw [if_neg (fun q => c2 ((pk_lLT (by omega) (by omega)).mp ((lg_cmp_gt _ _).mp q))), if_pos ((lg_cmp_le _ _).mpr ((pk_lLE (by omega) (by omega)).mpr (by omega)))]
      generalize fAt n f (p + 8) = s at *
      generalize fAt n f (p + 12) = z at *
      have bt := fAt_lt n f p
      have tE : lg_cmp (lN (fAt n f p)) ((tgs_Ff (nI 2).toNatClampNeg).toInt64) = 0 ↔ nI (fAt n f p) = tgs_Mo (nI 2).toNatClampNeg := by
        rw [lg_cmp_eq]
        exact tagE bt (by decide)
      have go : ∀ hd : Int32, (P_Ff_readEntry_68 (nI n) f (nI p) (lN (fAt n f p)) (lN s) (lN z) hd ((lN z).toInt32) ((lN s).toInt32) st sz = some (0, st, sz) ∧ P_Mo_directory_178 (nI n) g z77 x1 x2 (nI p) (lN s) (lN z) hd a l = some (0, a, l)) ∨ ∃ st' sz' a' l', P_Ff_readEntry_68 (nI n) f (nI p) (lN (fAt n f p)) (lN s) (lN z) hd ((lN z).toInt32) ((lN s).toInt32) st sz = some (1, st', sz') ∧ P_Mo_directory_178 (nI n) g z77 x1 x2 (nI p) (lN s) (lN z) hd a l = z77 (x1, x2 + 1, a', l') ∧ Tb n st' sz' a' l' := by
        intro hd
        unfold P_Ff_readEntry_68 P_Mo_directory_178
        rw [lN_i, lN_i, show (4 : Int32) = nI 4 from rfl, nI_add, ksm hn (by omega), msm hn (by omega) hg, some_bind, some_bind, fo hn (by omega), mfA hn hg (by omega), some_bind, some_bind]
        by_cases c3 : sm f s hd z = nI (fAt n f (p + 4))
        · rw [if_pos ((lg_cmp_eq _ _).mpr ((i_maskE _ (fAt_lt n f (p + 4))).mpr c3)), if_pos c3]
          obtain ⟨st', sz', e1, h1⟩ := ent_i (n := n) f (fAt n f p) s z 8 0 fuel st sz (by omega) (by unfold fuel; omega)
          obtain ⟨a', l', e2, h2⟩ := menti hn hg (p := p) (by omega) s z z77 x1 x2 8 0 fuel a l (by omega) (by unfold fuel; omega)
          exact Or.inr ⟨st', sz', a', l', e1, e2, Tb_hit bt (by omega) h h1 h2⟩
        · rw [if_neg (fun q => c3 ((i_maskE _ (fAt_lt n f (p + 4))).mp ((lg_cmp_eq _ _).mp q))), if_neg c3]
          exact Or.inl ⟨rfl, rfl⟩
      rw [show (2 : Int32) = nI 2 from rfl, bdI (by omega) (by omega), bdI (by omega) (by omega)]
      by_cases c4 : nI (fAt n f p) = tgs_Mo (nI 2).toNatClampNeg
      · rw [if_pos (tE.mpr c4), if_pos c4]
        exact go 1
      · rw [if_neg (fun q => c4 (tE.mp q)), if_neg c4]
        exact go 0
  · rw [if_neg (fun q => c1 ((lg_cmp_eq _ _).mp q)), if_neg (fun q => c1 ((lg_cmp_eq _ _).mp q))]
    exact Or.inl ⟨rfl, rfl⟩
def bfr (n : Nat) (f : Nat → Int32) (i : Nat) : Int64 := match i with
  | 0 => -1
  | i + 1 => lN (fAt n f (12 + 16 * i))
theorem lm1_lt (v : Nat) (hv : v < 2 ^ 63) : (-1 : Int64) < lN v := by
  rw [Int64.lt_iff_toInt_lt, pk_lT hv, show (-1 : Int64).toInt = -1 from by decide]
  omega
theorem dir_i {n N : Nat} (hn : n ≤ 4096) (hN : 12 + 16 * N ≤ n) {f g : Nat → Int32} (hg : Agr n f g) : ∀ (d i m m' : Nat) (st sz a l : Nat → Int32), i + d = N → d < m → d < m' → Tb n st sz a l → ∃ r st' sz' a' l', lp (L_Ff_readDirectory_52 (nI n) f) m (nI N, bfr n f i, nI i, st, sz) = some (r, st', sz') ∧ lp (L_Mo_directory_77 (nI n) g) m' (nI N, nI i, a, l) = some (r, a', l') ∧ (r = 0 ∨ r = 1 ∧ Tb n st' sz' a' l' ∧ ∀ t, t < 7 → 0 ≤ sz' t) := by
  intro d
  induction d with
  | zero =>
    intro i m m' st sz a l hi hm hm' h
    obtain ⟨m, rfl⟩ := suc_of hm
    obtain ⟨m', rfl⟩ := suc_of hm'
    obtain ⟨r, e1, e2, h3⟩ := fin_b hn f g h
    refine ⟨r, st, sz, a, l, ?_, ?_, ?_⟩
    · rw [e_Ff_readDirectory_52]
      unfold P_Ff_readDirectory_52b
      rw [if_pos (nI_le (by omega) (by omega))]
      exact e1
    · rw [e_Mo_directory_77]
      unfold P_Mo_directory_77b
      rw [if_pos (nI_le (by omega) (by omega))]
      exact e2
    · rcases h3 with h3 | ⟨h3, h4⟩
      · exact Or.inl h3
      · exact Or.inr ⟨h3, h, h4⟩
  | succ d ih =>
    intro i m m' st sz a l hi hm hm' h
    obtain ⟨m, rfl⟩ := suc_of hm
    obtain ⟨m', rfl⟩ := suc_of hm'
    rw [e_Ff_readDirectory_52, e_Mo_directory_77]
    unfold P_Ff_readDirectory_52b P_Mo_directory_77b
    rw [if_neg (nI_ge (by omega) (by omega)), if_neg (nI_ge (by omega) (by omega)), show (16 : Int32) = nI 16 from rfl, show (12 : Int32) = nI 12 from rfl, pk_mul, nI_add, fo hn (by omega), some_bind]
    have b := fAt_lt n f (12 + 16 * i)
    have go : (∃ r st' sz' a' l', ((P_Ff_readEntry (nI n) f st sz (nI (12 + 16 * i)) (lN (fAt n f (12 + 16 * i)))).bind <| unp fun r_4 => unp fun n_5 n_6 => if r_4 = 0 then (some ((0 : Int32), n_5, n_6)) else (lp (L_Ff_readDirectory_52 (nI n) f) m (nI N, lN (fAt n f (12 + 16 * i)), nI i + 1, n_5, n_6))) = some (r, st', sz') ∧ P_Mo_directory_113 (nI n) g (lp (L_Mo_directory_77 (nI n) g) m') (nI N) (nI i) (nI (12 + 16 * i)) a l = some (r, a', l') ∧ (r = 0 ∨ r = 1 ∧ Tb n st' sz' a' l' ∧ ∀ t, t < 7 → 0 ≤ sz' t)) := by
      rcases ent_b hn hg (p := 12 + 16 * i) (by omega) h (lp (L_Mo_directory_77 (nI n) g) m') (nI N) (nI i) with ⟨e1, e2⟩ | ⟨st1, sz1, a1, l1, e1, e2, h1⟩
      · refine ⟨0, st, sz, a, l, ?_, e2, Or.inl rfl⟩
        rw [e1]
        rfl
      · obtain ⟨r, st', sz', a', l', q1, q2, q3⟩ := ih (i + 1) m m' st1 sz1 a1 l1 (by omega) (by omega) (by omega) h1
        refine ⟨r, st', sz', a', l', ?_, ?_, q3⟩
        · rw [e1]
          rw [← nI_1] at q1
          exact q1
        · rw [e2, nI_1]
          exact q2
    cases i with
    | zero =>
      rw [show bfr n f 0 = (-1 : Int64) from rfl, if_neg (fun q => absurd ((lg_cmp_le _ _).mp q) (lg_lt_not_le (lm1_lt _ (by omega)))), if_pos (by decide)]
      exact go
    | succ i =>
      rw [if_neg (nI_nle (by omega) (by omega)), mbA hn hg (by omega), some_bind, pk_sub (by omega), mbA hn hg (by omega), some_bind, show 12 + 16 * (i + 1) - 16 = 12 + 16 * i by omega, show bfr n f (i + 1) = lN (fAt n f (12 + 16 * i)) from rfl]
      have b2 := fAt_lt n f (12 + 16 * i)
      by_cases c : fAt n f (12 + 16 * i) < fAt n f (12 + 16 * (i + 1))
      · rw [if_neg (fun q => absurd ((pk_lLE (by omega) (by omega)).mp ((lg_cmp_le _ _).mp q)) (by omega)), if_pos ((lg_cmp_gt _ _).mpr ((pk_lLT (by omega) (by omega)).mpr c))]
        exact go
      · rw [if_pos ((lg_cmp_le _ _).mpr ((pk_lLE (by omega) (by omega)).mpr (by omega))), if_neg (fun q => c ((pk_lLT (by omega) (by omega)).mp ((lg_cmp_gt _ _).mp q)))]
        exact ⟨0, st, sz, a, l, rfl, rfl, Or.inl rfl⟩
theorem mclr8 {n : Nat} (g l : Nat → Int32) (x : Int32) : ∀ (d k m : Nat) (a : Nat → Int32), k + d = 8 → d < m → (∀ j, j < k → a j = -1) → ∃ a', lp (L_Mo_directory_56 (nI n) g) m (x, nI k, a, l) = P_Mo_directory_77 (nI n) g x 0 a' l ∧ ∀ j, j < 8 → a' j = -1 := by
  intro d
  induction d with
  | zero =>
    intro k m a hk hm h
    obtain ⟨m, rfl⟩ := suc_of hm
    refine ⟨a, ?_, fun j hj => h j (by omega)⟩
    rw [e_Mo_directory_56]
    unfold P_Mo_directory_56b
    rw [show (8 : Int32) = nI 8 from rfl, if_pos (nI_le (by omega) (by omega))]
  | succ d ih =>
    intro k m a hk hm h
    obtain ⟨m, rfl⟩ := suc_of hm
    obtain ⟨a', e, h'⟩ := ih (k + 1) m (upd a k (-1)) (by omega) (by omega) (fun j hj => by
      by_cases q : j = k
      · rw [q, pk_us]
      · rw [pk_un q]; exact h j (by omega))
    refine ⟨a', ?_, h'⟩
    rw [e_Mo_directory_56]
    unfold P_Mo_directory_56b
    rw [show (8 : Int32) = nI 8 from rfl, if_neg (nI_ge (by omega) (by omega)), bdI (by omega) (by omega), nI_clamp (by omega), nI_1]
    exact e
def dirC (n : Nat) (f : Nat → Int32) : Prop := 1 ≤ tAt n f 4 ∧ tAt n f 4 ≤ 16 ∧ 12 + 16 * tAt n f 4 ≤ n ∧ fAt n f 0 = 65536
theorem dir_f {n : Nat} (hn : n ≤ 4096) (f st sz : Nat → Int32) : (dirC n f → P_Ff_readDirectory (nI n) f st sz = P_Ff_readDirectory_52 (nI n) f (nI (tAt n f 4)) (-1) 0 st sz) ∧ (¬ dirC n f → P_Ff_readDirectory (nI n) f st sz = some (0, st, sz)) := by
  unfold P_Ff_readDirectory
  rw [show (4 : Int32) = nI 4 from rfl, show (12 : Int32) = nI 12 from rfl, show (16 : Int32) = nI 16 from rfl, show (1 : Int32) = nI 1 from rfl, show P_Ff_fourAt (nI n) f 0 = _ from fo (p := 0) hn (by omega) f, tw hn (by omega), some_bind, some_bind, pk_mul, nI_add]
  have b := tAt_lt n f 4
  have bm := fAt_lt n f 0
  have cE : lg_cmp (lN (fAt n f 0)) (65536 : Int64) = 0 ↔ fAt n f 0 = 65536 := by
    rw [lg_cmp_eq]
    exact pk_lEQ (b := 65536) (by omega) (by omega)
  unfold dirC
  constructor
  · rintro ⟨c1, c2, c3, c4⟩
    rw [if_neg (nI_nlt (by omega) (by omega)), if_neg (nI_nlt (by omega) (by omega)), if_neg (nI_nlt (by omega) (by omega)), if_pos (cE.mpr c4)]
  · intro h
    by_cases c1 : tAt n f 4 < 1
    · rw [if_pos (nI_lt c1 (by omega))]
    rw [if_neg (nI_nlt (by omega) (by omega))]
    by_cases c2 : 16 < tAt n f 4
    · rw [if_pos (nI_lt c2 (by omega))]
    rw [if_neg (nI_nlt (by omega) (by omega))]
    by_cases c3 : n < 12 + 16 * tAt n f 4
    · rw [if_pos (nI_lt c3 (by omega))]
    rw [if_neg (nI_nlt (by omega) (by omega))]
    rw [if_neg (fun q => h ⟨by omega, by omega, by omega, cE.mp q⟩)]
theorem dir_m {n : Nat} (hn : n ≤ 4096) {f g : Nat → Int32} (hg : Agr n f g) (a l : Nat → Int32) : (dirC n f → P_Mo_directory (nI n) g a l = P_Mo_directory_56 (nI n) g (nI (tAt n f 4)) 0 a l) ∧ (¬ dirC n f → P_Mo_directory (nI n) g a l = some (0, a, l)) := by
  unfold P_Mo_directory
  rw [show (4 : Int32) = nI 4 from rfl, show (12 : Int32) = nI 12 from rfl, show (16 : Int32) = nI 16 from rfl, show (1 : Int32) = nI 1 from rfl]
  have b := tAt_lt n f 4
  have bm := fAt_lt n f 0
  have cE : nI (fAt n f 0) = (65536 : Int32) ↔ fAt n f 0 = 65536 := by
    rw [← tagE (x := 65536) bm (by decide)]
    exact pk_lEQ (b := 65536) (by omega) (by omega)
  unfold dirC
  by_cases c0 : n < 12
  · rw [if_pos (nI_lt c0 (by omega))]
    exact ⟨fun h => absurd h.2.2.1 (by omega), fun _ => rfl⟩
  rw [if_neg (nI_nlt (by omega) (by omega)), show P_Mf_four g 0 = _ from mfA (p := 0) hn hg (by omega), some_bind, mtA hn hg (by omega), some_bind, pk_mul, nI_add]
  constructor
  · rintro ⟨c1, c2, c3, c4⟩
    rw [if_pos (cE.mpr c4), if_neg (nI_nlt (by omega) (by omega)), if_neg (nI_nlt (by omega) (by omega)), if_pos (nI_le (by omega) (by omega))]
  · intro h
    by_cases c4 : fAt n f 0 = 65536
    · rw [if_pos (cE.mpr c4)]
      by_cases c1 : tAt n f 4 < 1
      · rw [if_pos (nI_lt c1 (by omega))]
      rw [if_neg (nI_nlt (by omega) (by omega))]
      by_cases c2 : 16 < tAt n f 4
      · rw [if_pos (nI_lt c2 (by omega))]
      rw [if_neg (nI_nlt (by omega) (by omega))]
      by_cases c3 : n < 12 + 16 * tAt n f 4
      · rw [if_neg (nI_ge c3 (by omega))]
      · exact absurd ⟨by omega, by omega, by omega, c4⟩ h
    · rw [if_neg (fun q => c4 (cE.mp q))]
/-- rule 1 of a file: the directory -/
theorem dir_b {n : Nat} (hn : n ≤ 4096) {f g : Nat → Int32} (hg : Agr n f g) (st sz a l : Nat → Int32) (hz : ∀ t, t < 8 → sz t = -1) : ∃ r st' sz' a' l', P_Ff_readDirectory (nI n) f st sz = some (r, st', sz') ∧ P_Mo_directory (nI n) g a l = some (r, a', l') ∧ (r = 0 ∨ r = 1 ∧ Tb n st' sz' a' l' ∧ ∀ t, t < 7 → 0 ≤ sz' t) := by
  by_cases c : dirC n f
  · rw [(dir_f hn f st sz).1 c, (dir_m hn hg a l).1 c]
    obtain ⟨c1, c2, c3, c4⟩ := c
    obtain ⟨a1, e1, h1⟩ := mclr8 (n := n) g l (nI (tAt n f 4)) 8 0 fuel a (by omega) (by unfold fuel; omega) (fun j hj => absurd hj (by omega))
    obtain ⟨r, st', sz', a', l', q1, q2, q3⟩ := dir_i hn (N := tAt n f 4) (by omega) hg (tAt n f 4) 0 fuel fuel st sz a1 l (by omega) (by unfold fuel; omega) (by unfold fuel; omega) (fun t ht => Or.inl ⟨hz t ht, h1 _ (tau_lt t ht)⟩)
    exact ⟨r, st', sz', a', l', q1, e1.trans q2, q3⟩
  · rw [(dir_f hn f st sz).2 c, (dir_m hn hg a l).2 c]
    exact ⟨0, st, sz, a, l, rfl, rfl, Or.inl rfl⟩
