/-! PURE ROWS: how a piece turns, in class and reference. Heights: start C, stop E = C + b + a, h = 2 C + b (twice the bend). -/
abbrev cbk (sq sl st : Int) : Prop := (0 < sq ∧ sl < 0 ∧ -sl < 2 * sq ∨ sq ≤ 0 ∧ 0 < sl ∧ sl < -2 * sq) ∧ (0 < st ↔ 0 < sq) ∧ 4 * sq * st ≤ sl * sl
abbrev wdn (a b C : Int) : Prop := (¬ 0 < C ∧ 0 < C + b + a) ∨ ((0 < C ↔ 0 < C + b + a) ∧ cbk a b C)
abbrev wup (a b C : Int) : Prop := (0 < C ∧ ¬ 0 < C + b + a) ∨ ((0 < C ↔ 0 < C + b + a) ∧ cbk a b C)
def one (p : Bool) : Int := if p then 1 else 0
def ctn (a2 b2 c a b C : Int) : Int := if a = 0 ∧ b = 0 then 0 else one (decide (wdn a b C ∧ 0 < sd 1 a2 b2 c a b C)) - one (decide (wup a b C ∧ 0 < sd (-1) a2 b2 c a b C))
def cov (a2 b2 c : Int) : Prop := c = 0 ∨ c + b2 + a2 = 0 ∨ ¬ (0 < c ↔ 0 < c + b2 + a2) ∨ cbk a2 b2 c
def cth (a2 b2 c a b C : Int) : Prop := (c = 0 ∧ C = 0) ∨ (a = 0 ∧ b = 0 ∧ C = 0 ∧ cov a2 b2 c) ∨ (¬ (a = 0 ∧ b = 0) ∧ (wdn a b C ∧ sd 1 a2 b2 c a b C = 0 ∨ wup a b C ∧ sd (-1) a2 b2 c a b C = 0))
def mtn (a2 b2 c a b C : Int) : Int := if 0 ≤ C ∧ C + b + a < 0 then - one (decide (0 < sd (-1) a2 b2 c a b C)) else if C < 0 ∧ 0 ≤ C + b + a then one (decide (0 < sd 1 a2 b2 c a b C)) else if (0 ≤ C ∧ 2 * C + b < 0 ∨ C < 0 ∧ 0 < 2 * C + b) ∧ 0 < b * b - 4 * a * C then one (decide (0 < sd 1 a2 b2 c a b C)) - one (decide (0 < sd (-1) a2 b2 c a b C)) else 0
def phi (x y : Int) : Int := if y = 0 ∧ 0 < x then 1 else 0
theorem z_lt2 {x y z : Int} (hx : 0 ≤ x) (h1 : x < y) (h2 : x < z) : x * x < y * z := by
  have h3 : x * x ≤ x * z := Int.mul_le_mul_of_nonneg_left (Int.le_of_lt h2) hx
  have h4 : x * z < y * z := Int.mul_lt_mul_of_pos_right h1 (by omega)
  omega
theorem dsc (a b C : Int) : b * b - 4 * a * C = (2 * C + b) * (2 * C + b) - 4 * (C * (C + b + a)) := by grind
theorem cbk_v {a b C : Int} (h : 0 < C ↔ 0 < C + b + a) : cbk a b C ↔ (0 < C ∧ 0 < C + b + a ∧ 2 * C + b < 0 ∨ C ≤ 0 ∧ C + b + a ≤ 0 ∧ 0 < 2 * C + b) ∧ 0 ≤ b * b - 4 * a * C := by
  have e := dsc a b C
  have e4 : 4 * a * C = 4 * (a * C) := by grind
  generalize eE : C + b + a = E at *
  generalize eh : 2 * C + b = t at *
  constructor
  · rintro ⟨h1, h2, h3⟩
    have hd : 0 ≤ b * b - 4 * a * C := by omega
    refine ⟨?_, hd⟩
    by_cases c : 0 < C
    · have hE : 0 < E := h.mp c
      refine Or.inl ⟨c, hE, ?_⟩
      rcases Int.lt_or_le t 0 with z | z
      · exact z
      · exfalso
        have := z_lt2 (x := t) (y := 2 * C) (z := 2 * E) z (by omega) (by omega)
        have e2 : 2 * C * (2 * E) = 4 * (C * E) := by grind
        omega
    · have hE : E ≤ 0 := by omega
      refine Or.inr ⟨by omega, hE, ?_⟩
      rcases Int.lt_or_le 0 t with z | z
      · exact z
      · exfalso
        have := z_lt2 (x := -t) (y := -(2 * C)) (z := -(2 * E)) (by omega) (by omega) (by omega)
        have e2 : -(2 * C) * -(2 * E) = 4 * (C * E) := by grind
        have e3 : -t * -t = t * t := by grind
        omega
  · rintro ⟨h1, hd⟩
    refine ⟨by omega, by omega, by omega⟩
theorem wdn_v {a b C : Int} : wdn a b C ↔ (C ≤ 0 ∧ 0 < C + b + a) ∨ ((0 < C ∧ 0 < C + b + a ∧ 2 * C + b < 0 ∨ C ≤ 0 ∧ C + b + a ≤ 0 ∧ 0 < 2 * C + b) ∧ 0 ≤ b * b - 4 * a * C) := by
  constructor
  · rintro (⟨h1, h2⟩ | ⟨h1, h2⟩)
    · exact Or.inl ⟨by omega, h2⟩
    · exact Or.inr ((cbk_v h1).mp h2)
  · rintro (⟨h1, h2⟩ | h)
    · exact Or.inl ⟨by omega, h2⟩
    · have h1 : 0 < C ↔ 0 < C + b + a := by omega
      exact Or.inr ⟨h1, (cbk_v h1).mpr h⟩
theorem wup_v {a b C : Int} : wup a b C ↔ (0 < C ∧ C + b + a ≤ 0) ∨ ((0 < C ∧ 0 < C + b + a ∧ 2 * C + b < 0 ∨ C ≤ 0 ∧ C + b + a ≤ 0 ∧ 0 < 2 * C + b) ∧ 0 ≤ b * b - 4 * a * C) := by
  constructor
  · rintro (⟨h1, h2⟩ | ⟨h1, h2⟩)
    · exact Or.inl ⟨h1, by omega⟩
    · exact Or.inr ((cbk_v h1).mp h2)
  · rintro (⟨h1, h2⟩ | h)
    · exact Or.inl ⟨h1, by omega⟩
    · have h1 : 0 < C ↔ 0 < C + b + a := by omega
      exact Or.inr ⟨h1, (cbk_v h1).mpr h⟩
theorem one_t {p : Prop} (i : Decidable p) (h : p) : one (decide p) = 1 := by unfold one; rw [decide_eq_true h]; rfl
theorem one_f {p : Prop} (i : Decidable p) (h : ¬ p) : one (decide p) = 0 := by unfold one; rw [decide_eq_false h]; rfl
theorem one_b (p : Bool) : one p = 0 ∨ one p = 1 := by cases p; exact Or.inl rfl; exact Or.inr rfl
theorem sd_d0 {a2 b2 c a b C : Int} (h : b * b - 4 * a * C = 0) : sd 1 a2 b2 c a b C = sd (-1) a2 b2 c a b C := by
  unfold sd
  by_cases z : a = 0
  · rw [if_pos z, if_pos z]
  · rw [if_neg z, if_neg z, sgR_0 (by omega), sgR_0 (by omega)]
theorem tk_s {x s p : Int} (h : (s = 1 ∧ 0 < x) ∨ (s = 0 ∧ x = 0) ∨ (s = -1 ∧ x < 0)) (P : Int) (hp : P = s) (o : (0 < P ∧ p = 1) ∨ (¬ 0 < P ∧ p = 0)) : (0 < x ∧ p = 1) ∨ (¬ 0 < x ∧ p = 0) := by omega
theorem tkey {C E t d P M pI mI f f0 e c sc se : Int} (D U : Prop) (i1 : Decidable D) (i2 : Decidable U)
    (hD : D ↔ (C ≤ 0 ∧ 0 < E) ∨ ((0 < C ∧ 0 < E ∧ t < 0 ∨ C ≤ 0 ∧ E ≤ 0 ∧ 0 < t) ∧ 0 ≤ d)) (hU : U ↔ (0 < C ∧ E ≤ 0) ∨ ((0 < C ∧ 0 < E ∧ t < 0 ∨ C ≤ 0 ∧ E ≤ 0 ∧ 0 < t) ∧ 0 ≤ d))
    (d1 : C = 0 → P = sc ∨ t < 0) (d2 : C = 0 → M = sc ∨ 0 < t) (d3 : E = 0 → P = se ∨ 0 < t) (d4 : E = 0 → M = se ∨ t < 0) (d5 : d = 0 → P = M) (hd : C = 0 ∨ E = 0 → 0 ≤ d ∧ (t ≠ 0 → 0 < d)) (nf : C = 0 → E = 0 → t ≠ 0)
    (s1 : (sc = 1 ∧ 0 < c) ∨ (sc = 0 ∧ c = 0) ∨ (sc = -1 ∧ c < 0)) (s2 : (se = 1 ∧ 0 < e) ∨ (se = 0 ∧ e = 0) ∨ (se = -1 ∧ e < 0)) (fE : (E = 0 ∧ 0 < e ∧ f = 1) ∨ (¬ (E = 0 ∧ 0 < e) ∧ f = 0)) (fC : (C = 0 ∧ 0 < c ∧ f0 = 1) ∨ (¬ (C = 0 ∧ 0 < c) ∧ f0 = 0)) (o3 : (0 < P ∧ pI = 1) ∨ (¬ 0 < P ∧ pI = 0)) (o4 : (0 < M ∧ mI = 1) ∨ (¬ 0 < M ∧ mI = 0)) :
    (if 0 ≤ C ∧ E < 0 then -mI else if C < 0 ∧ 0 ≤ E then pI else if (0 ≤ C ∧ t < 0 ∨ C < 0 ∧ 0 < t) ∧ 0 < d then pI - mI else 0) = ((if D then pI else 0) - if U then mI else 0) + f - f0 := by
  rcases Int.lt_trichotomy C 0 with hC | hC | hC
  · have f0z : f0 = 0 := by omega
    rcases Int.lt_trichotomy E 0 with hE | hE | hE
    · have fz : f = 0 := by omega
      rw [if_neg (by omega), if_neg (by omega), f0z, fz]
      by_cases ht : 0 < t
      · by_cases q : 0 < d
        · rw [if_pos ⟨Or.inr ⟨hC, ht⟩, q⟩, if_pos (hD.mpr (Or.inr ⟨Or.inr ⟨by omega, by omega, ht⟩, by omega⟩)), if_pos (hU.mpr (Or.inr ⟨Or.inr ⟨by omega, by omega, ht⟩, by omega⟩))]; omega
        · rw [if_neg (fun z => q z.2)]
          by_cases q0 : d = 0
          · rw [if_pos (hD.mpr (Or.inr ⟨Or.inr ⟨by omega, by omega, ht⟩, by omega⟩)), if_pos (hU.mpr (Or.inr ⟨Or.inr ⟨by omega, by omega, ht⟩, by omega⟩))]
            have := d5 q0
            omega
          · rw [if_neg (show ¬ D from fun z => by have := hD.mp z; omega), if_neg (show ¬ U from fun z => by have := hU.mp z; omega)]; rfl
      · rw [if_neg (by omega), if_neg (show ¬ D from fun z => by have := hD.mp z; omega), if_neg (show ¬ U from fun z => by have := hU.mp z; omega)]; rfl
    · have hdd := hd (Or.inr hE)
      rw [if_neg (by omega), if_pos ⟨hC, by omega⟩, f0z]
      by_cases ht : 0 < t
      · rw [if_pos (hD.mpr (Or.inr ⟨Or.inr ⟨by omega, by omega, ht⟩, hdd.1⟩)), if_pos (hU.mpr (Or.inr ⟨Or.inr ⟨by omega, by omega, ht⟩, hdd.1⟩))]
        have := tk_s s2 M ((d4 hE).resolve_right (by omega)) o4
        omega
      · rw [if_neg (show ¬ D from fun z => by have := hD.mp z; omega), if_neg (show ¬ U from fun z => by have := hU.mp z; omega)]
        have := tk_s s2 P ((d3 hE).resolve_right ht) o3
        omega
    · have fz : f = 0 := by omega
      rw [if_neg (by omega), if_pos ⟨hC, by omega⟩, f0z, fz, if_pos (hD.mpr (Or.inl ⟨by omega, hE⟩)), if_neg (show ¬ U from fun z => by have := hU.mp z; omega)]; omega
  · have hdd := hd (Or.inl hC)
    rcases Int.lt_trichotomy E 0 with hE | hE | hE
    · have fz : f = 0 := by omega
      rw [if_pos ⟨by omega, hE⟩, fz]
      by_cases ht : 0 < t
      · rw [if_pos (hD.mpr (Or.inr ⟨Or.inr ⟨by omega, by omega, ht⟩, hdd.1⟩)), if_pos (hU.mpr (Or.inr ⟨Or.inr ⟨by omega, by omega, ht⟩, hdd.1⟩))]
        have := tk_s s1 P ((d1 hC).resolve_right (by omega)) o3
        omega
      · rw [if_neg (show ¬ D from fun z => by have := hD.mp z; omega), if_neg (show ¬ U from fun z => by have := hU.mp z; omega)]
        have := tk_s s1 M ((d2 hC).resolve_right ht) o4
        omega
    · have hn := nf hC hE
      have hdp := hdd.2 hn
      rw [if_neg (by omega), if_neg (by omega)]
      by_cases ht : 0 < t
      · rw [if_neg (by omega), if_pos (hD.mpr (Or.inr ⟨Or.inr ⟨by omega, by omega, ht⟩, hdd.1⟩)), if_pos (hU.mpr (Or.inr ⟨Or.inr ⟨by omega, by omega, ht⟩, hdd.1⟩))]
        have g1 := tk_s s1 P ((d1 hC).resolve_right (by omega)) o3
        have g2 := tk_s s2 M ((d4 hE).resolve_right (by omega)) o4
        omega
      · rw [if_pos ⟨Or.inl ⟨by omega, by omega⟩, hdp⟩, if_neg (show ¬ D from fun z => by have := hD.mp z; omega), if_neg (show ¬ U from fun z => by have := hU.mp z; omega)]
        have g1 := tk_s s1 M ((d2 hC).resolve_right ht) o4
        have g2 := tk_s s2 P ((d3 hE).resolve_right ht) o3
        omega
    · have fz : f = 0 := by omega
      rw [if_neg (by omega), if_neg (by omega), fz, if_pos (hD.mpr (Or.inl ⟨by omega, hE⟩)), if_neg (show ¬ U from fun z => by have := hU.mp z; omega)]
      by_cases ht : t < 0
      · rw [if_pos ⟨Or.inl ⟨by omega, ht⟩, hdd.2 (by omega)⟩]
        have := tk_s s1 M ((d2 hC).resolve_right (by omega)) o4
        omega
      · rw [if_neg (by omega)]
        have := tk_s s1 P ((d1 hC).resolve_right ht) o3
        omega
  · have f0z : f0 = 0 := by omega
    rcases Int.lt_trichotomy E 0 with hE | hE | hE
    · have fz : f = 0 := by omega
      rw [if_pos ⟨by omega, hE⟩, f0z, fz, if_neg (show ¬ D from fun z => by have := hD.mp z; omega), if_pos (hU.mpr (Or.inl ⟨hC, by omega⟩))]; omega
    · have hdd := hd (Or.inr hE)
      rw [if_neg (by omega), if_neg (by omega), f0z, if_neg (show ¬ D from fun z => by have := hD.mp z; omega), if_pos (hU.mpr (Or.inl ⟨hC, by omega⟩))]
      by_cases ht : t < 0
      · rw [if_pos ⟨Or.inl ⟨by omega, ht⟩, hdd.2 (by omega)⟩]
        have := tk_s s2 P ((d3 hE).resolve_right (by omega)) o3
        omega
      · rw [if_neg (by omega)]
        have := tk_s s2 M ((d4 hE).resolve_right ht) o4
        omega
    · have fz : f = 0 := by omega
      rw [if_neg (by omega), if_neg (by omega), f0z, fz]
      by_cases ht : t < 0
      · by_cases q : 0 < d
        · rw [if_pos ⟨Or.inl ⟨by omega, ht⟩, q⟩, if_pos (hD.mpr (Or.inr ⟨Or.inl ⟨hC, hE, ht⟩, by omega⟩)), if_pos (hU.mpr (Or.inr ⟨Or.inl ⟨hC, hE, ht⟩, by omega⟩))]; omega
        · rw [if_neg (fun z => q z.2)]
          by_cases q0 : d = 0
          · rw [if_pos (hD.mpr (Or.inr ⟨Or.inl ⟨hC, hE, ht⟩, by omega⟩)), if_pos (hU.mpr (Or.inr ⟨Or.inl ⟨hC, hE, ht⟩, by omega⟩))]
            have := d5 q0
            omega
          · rw [if_neg (show ¬ D from fun z => by have := hD.mp z; omega), if_neg (show ¬ U from fun z => by have := hU.mp z; omega)]; rfl
      · rw [if_neg (by omega), if_neg (show ¬ D from fun z => by have := hD.mp z; omega), if_neg (show ¬ U from fun z => by have := hU.mp z; omega)]; rfl
theorem turn_eq {a2 b2 c a b C : Int} (hc : ¬ cth a2 b2 c a b C) (he : ¬ (c + b2 + a2 = 0 ∧ C + b + a = 0)) : mtn a2 b2 c a b C = ctn a2 b2 c a b C + phi (c + b2 + a2) (C + b + a) - phi c C := by
  have hs : ¬ (c = 0 ∧ C = 0) := fun z => hc (Or.inl z)
  by_cases fl : a = 0 ∧ b = 0
  · obtain ⟨rfl, rfl⟩ := fl
    have hm : mtn a2 b2 c 0 0 C = 0 := by
      unfold mtn
      rw [if_neg (by omega), if_neg (by omega), if_neg (by omega)]
    have hcn : ctn a2 b2 c 0 0 C = 0 := by unfold ctn; rw [if_pos ⟨rfl, rfl⟩]
    rw [hm, hcn]
    unfold phi
    by_cases z : C = 0
    · have h1 : ¬ cov a2 b2 c := fun z2 => hc (Or.inr (Or.inl ⟨rfl, rfl, z, z2⟩))
      unfold cov at h1
      have h2 : (0 < c ↔ 0 < c + b2 + a2) := by
        by_cases q : (0 < c ↔ 0 < c + b2 + a2)
        · exact q
        · exact absurd (Or.inr (Or.inr (Or.inl q))) h1
      by_cases q : 0 < c
      · rw [if_pos ⟨by omega, h2.mp q⟩, if_pos ⟨z, q⟩]; rfl
      · rw [if_neg (fun w => q (h2.mpr w.2)), if_neg (fun w => q w.2)]; rfl
    · rw [if_neg (by omega), if_neg (fun w => z w.1)]; rfl
  · have hab : a ≠ 0 ∨ b ≠ 0 := by omega
    have ed := dsc a b C
    have d1 : C = 0 → sd 1 a2 b2 c a b C = c.sign ∨ b < 0 := fun z => by
      subst z
      by_cases q : 0 ≤ b
      · exact Or.inl (sd_start hab (Or.inl ⟨rfl, q⟩))
      · exact Or.inr (by omega)
    have d2 : C = 0 → sd (-1) a2 b2 c a b C = c.sign ∨ 0 < b := fun z => by
      subst z
      by_cases q : b ≤ 0
      · exact Or.inl (sd_start hab (Or.inr (Or.inl ⟨rfl, q⟩)))
      · exact Or.inr (by omega)
    have d3 : C + b + a = 0 → sd 1 a2 b2 c a b C = (c + b2 + a2).sign ∨ b + 2 * a < 0 := fun z => by
      by_cases q : 0 ≤ b + 2 * a
      · exact Or.inl (sd_stop z hab (Or.inl ⟨rfl, q⟩))
      · exact Or.inr (by omega)
    have d4 : C + b + a = 0 → sd (-1) a2 b2 c a b C = (c + b2 + a2).sign ∨ 0 < b + 2 * a := fun z => by
      by_cases q : b + 2 * a ≤ 0
      · exact Or.inl (sd_stop z hab (Or.inr (Or.inl ⟨rfl, q⟩)))
      · exact Or.inr (by omega)
    have d5 : b * b - 4 * a * C = 0 → sd 1 a2 b2 c a b C = sd (-1) a2 b2 c a b C := sd_d0
    have hd : C = 0 ∨ C + b + a = 0 → 0 ≤ b * b - 4 * a * C ∧ (2 * C + b ≠ 0 → 0 < b * b - 4 * a * C) := fun z => by
      have e0 : C * (C + b + a) = 0 := by
        rcases z with z | z
        · rw [z, Int.zero_mul]
        · rw [z, Int.mul_zero]
      have := z_sq (2 * C + b)
      refine ⟨by omega, fun w => ?_⟩
      have : 0 < (2 * C + b) * (2 * C + b) := by
        rcases Int.lt_or_gt_of_ne w with y | y
        · exact Int.mul_pos_of_neg_of_neg y y
        · exact Int.mul_pos y y
      omega
    have s1 := sg_tri c
    have s2 := sg_tri (c + b2 + a2)
    have fE : (C + b + a = 0 ∧ 0 < c + b2 + a2 ∧ phi (c + b2 + a2) (C + b + a) = 1) ∨ (¬ (C + b + a = 0 ∧ 0 < c + b2 + a2) ∧ phi (c + b2 + a2) (C + b + a) = 0) := by
      unfold phi
      by_cases q : C + b + a = 0 ∧ 0 < c + b2 + a2
      · rw [if_pos q]; exact Or.inl ⟨q.1, q.2, rfl⟩
      · rw [if_neg q]; exact Or.inr ⟨q, rfl⟩
    have fC : (C = 0 ∧ 0 < c ∧ phi c C = 1) ∨ (¬ (C = 0 ∧ 0 < c) ∧ phi c C = 0) := by
      unfold phi
      by_cases q : C = 0 ∧ 0 < c
      · rw [if_pos q]; exact Or.inl ⟨q.1, q.2, rfl⟩
      · rw [if_neg q]; exact Or.inr ⟨q, rfl⟩
    have o1 : one (decide (wdn a b C ∧ 0 < sd 1 a2 b2 c a b C)) = if wdn a b C then one (decide (0 < sd 1 a2 b2 c a b C)) else 0 := by
      by_cases q : wdn a b C
      · rw [if_pos q]
        by_cases q2 : 0 < sd 1 a2 b2 c a b C
        · rw [one_t _ q2, one_t _ ⟨q, q2⟩]
        · rw [one_f _ q2, one_f _ (fun z => q2 z.2)]
      · rw [if_neg q, one_f _ (fun z => q z.1)]
    have o2 : one (decide (wup a b C ∧ 0 < sd (-1) a2 b2 c a b C)) = if wup a b C then one (decide (0 < sd (-1) a2 b2 c a b C)) else 0 := by
      by_cases q : wup a b C
      · rw [if_pos q]
        by_cases q2 : 0 < sd (-1) a2 b2 c a b C
        · rw [one_t _ q2, one_t _ ⟨q, q2⟩]
        · rw [one_f _ q2, one_f _ (fun z => q2 z.2)]
      · rw [if_neg q, one_f _ (fun z => q z.1)]
    have o3 : (0 < sd 1 a2 b2 c a b C ∧ one (decide (0 < sd 1 a2 b2 c a b C)) = 1) ∨ (¬ 0 < sd 1 a2 b2 c a b C ∧ one (decide (0 < sd 1 a2 b2 c a b C)) = 0) := by
      by_cases q : 0 < sd 1 a2 b2 c a b C
      · exact Or.inl ⟨q, one_t _ q⟩
      · exact Or.inr ⟨q, one_f _ q⟩
    have o4 : (0 < sd (-1) a2 b2 c a b C ∧ one (decide (0 < sd (-1) a2 b2 c a b C)) = 1) ∨ (¬ 0 < sd (-1) a2 b2 c a b C ∧ one (decide (0 < sd (-1) a2 b2 c a b C)) = 0) := by
      by_cases q : 0 < sd (-1) a2 b2 c a b C
      · exact Or.inl ⟨q, one_t _ q⟩
      · exact Or.inr ⟨q, one_f _ q⟩
    have wd := wdn_v (a := a) (b := b) (C := C)
    have wu := wup_v (a := a) (b := b) (C := C)
    unfold ctn mtn
    rw [if_neg fl, o1, o2]
    exact tkey (wdn a b C) (wup a b C) _ _ wd wu (fun z => (d1 z).imp_right (fun y => by omega)) (fun z => (d2 z).imp_right (fun y => by omega)) (fun z => (d3 z).imp_right (fun y => by omega)) (fun z => (d4 z).imp_right (fun y => by omega)) d5 hd (fun z1 z2 z3 => fl ⟨by omega, by omega⟩) s1 s2 fE fC o3 o4
