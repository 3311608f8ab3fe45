/-! PURE ROWS: the reference's long numbers: times, product, compare, through -/
theorem jN_mul (x y : Int64) (h : jN x * jN y < 18446744073709551616) : jN (x * y) = jN x * jN y := by
  unfold jN at *
  rw [Int64.toBitVec_mul, BitVec.toNat_mul]
  exact Nat.mod_eq_of_lt h
theorem jN_m32 (x : Int64) : jN (x &&& (4294967295 : Int64)) = jN x % 4294967296 := by
  rw [jN_and, show jN (4294967295 : Int64) = 2 ^ 32 - 1 from by decide, Nat.and_two_pow_sub_one_eq_mod]
theorem jN_s32 (x : Int64) : jN ((x.toUInt64 >>> ((32 : Int32).toInt64.toUInt64 &&& Int64.toUInt64 63)).toInt64) = jN x / 4294967296 := jN_shr x _ 32 (by decide)
def vl (f : Nat → Int64) : Nat → Nat
  | 0 => 0
  | k + 1 => vl f k + jN (f k) * 4294967296 ^ k
theorem vl_c {f g : Nat → Int64} : ∀ k, (∀ j, j < k → f j = g j) → vl f k = vl g k := by
  intro k
  induction k with
  | zero => intro _; rfl
  | succ k ih =>
    intro h
    show vl f k + _ = vl g k + _
    rw [ih (fun j hj => h j (by omega)), h k (by omega)]
theorem vl_lt {f : Nat → Int64} : ∀ k, (∀ j, j < k → jN (f j) < 4294967296) → vl f k < 4294967296 ^ k := by
  intro k
  induction k with
  | zero => intro _; exact Nat.one_pos
  | succ k ih =>
    intro h
    have h1 := ih (fun j hj => h j (by omega))
    have h2 := h k (by omega)
    show vl f k + jN (f k) * 4294967296 ^ k < 4294967296 ^ k * 4294967296
    have : (jN (f k) + 1) * 4294967296 ^ k ≤ 4294967296 * 4294967296 ^ k := Nat.mul_le_mul_right _ (by omega)
    rw [Nat.add_mul, Nat.one_mul] at this
    rw [Nat.mul_comm (4294967296 ^ k) 4294967296]
    omega
theorem tm_id {V v R P c b F lo hi s nx : Nat} (h : V * v = R + P * (c + b * hi)) (hv : v = lo + 4294967296 * hi) (hs : F * lo + b * hi + c = s + 4294967296 * nx) : (V + F * P) * v = (R + s * P) + P * 4294967296 * (nx + F * hi) := by
  have e1 : (V + F * P) * v = V * v + P * (F * v) := by grind
  have e2 : F * v = F * lo + 4294967296 * (F * hi) := by rw [hv]; grind
  have e3 : (R + s * P) + P * 4294967296 * (nx + F * hi) = R + P * (s + 4294967296 * nx + 4294967296 * (F * hi)) := by grind
  rw [e1, h, e2, e3, ← hs]
  grind
theorem tms_l {f : Nat → Int64} {v lo hi : Nat} (hv : v = lo + 4294967296 * hi) {x3 x5 : Int64} (h3 : jN x3 = lo) (h5 : jN x5 = hi) (hlo : lo < 4294967296) (hhi : hi < 4294967296) (hf : ∀ j, j < 6 → jN (f j) < 4294967296) : ∀ (e k m : Nat) (c b : Int64) (r : Nat → Int64), k + e = 6 → e < m → vl f k * v = vl r k + 4294967296 ^ k * (jN c + jN b * hi) → jN c ≤ 3 * 4294967296 → jN b < 4294967296 → (∀ j, j < k → jN (r j) < 4294967296) → (∀ j, k ≤ j → r j = f j) → ∃ r', lp L_Mo_times_21 m (x3, x5, c, b, nI k, r) = some r' ∧ (∀ j, j < 6 → jN (r' j) < 4294967296) ∧ ∃ t, vl f 6 * v = vl r' 6 + 4294967296 ^ 6 * t := by
  intro e
  induction e with
  | zero =>
    intro k m c b r hk hm h1 h2 h3 h4 h5
    obtain ⟨m, rfl⟩ := suc_of hm
    rw [e_Mo_times_21]
    unfold P_Mo_times_21b
    rw [if_pos (show (6 : Int32) ≤ nI k from nI_le (a := 6) (by omega) (by omega))]
    rw [show k = 6 by omega] at h1 h4
    exact ⟨r, rfl, h4, _, h1⟩
  | succ e ih =>
    intro k m c b r hk hm h1 h2 hb h4 hr
    obtain ⟨m, rfl⟩ := suc_of hm
    rw [e_Mo_times_21]
    unfold P_Mo_times_21b P_Mo_times_65 P_Mo_times_90
    have hk6 : k < 6 := by omega
    rw [if_neg (show ¬ (6 : Int32) ≤ nI k from nI_ge (b := 6) (by omega) (by omega))]
    simp only [bdI hk6 (show 6 < 2 ^ 31 by omega), nI_clamp (show k < 2 ^ 31 by omega), hr k (Nat.le_refl k), nI_1]
    have hfk := hf k hk6
    have m1 : jN (f k) * lo ≤ 4294967295 * 4294967295 := Nat.mul_le_mul (by omega) (by omega)
    have m2 : jN b * hi ≤ 4294967295 * 4294967295 := Nat.mul_le_mul (by omega) (by omega)
    have o1 : jN (f k * x3) = jN (f k) * lo := by rw [jN_mul _ _ (by rw [h3]; omega), h3]
    have o2 : jN (b * x5) = jN b * hi := by rw [jN_mul _ _ (by rw [h5]; omega), h5]
    have hc := jN_lt c
    have s1 : jN ((f k * x3 &&& (4294967295 : Int64)) + (b * x5 &&& (4294967295 : Int64)) + (c &&& (4294967295 : Int64))) = jN (f k * x3) % 4294967296 + jN (b * x5) % 4294967296 + jN c % 4294967296 := by
      rw [jN_add, jN_add, jN_m32, jN_m32, jN_m32]
      · rw [jN_m32, jN_m32]; omega
      · rw [jN_add, jN_m32, jN_m32, jN_m32]
        · omega
        · rw [jN_m32, jN_m32]; omega
    generalize hs : (f k * x3 &&& (4294967295 : Int64)) + (b * x5 &&& (4294967295 : Int64)) + (c &&& (4294967295 : Int64)) = s at *
    have n0 : jN ((((f k * x3).toUInt64 >>> ((32 : Int32).toInt64.toUInt64 &&& Int64.toUInt64 63)).toInt64) + (((b * x5).toUInt64 >>> ((32 : Int32).toInt64.toUInt64 &&& Int64.toUInt64 63)).toInt64)) = jN (f k * x3) / 4294967296 + jN (b * x5) / 4294967296 := by
      rw [jN_add, jN_s32, jN_s32]
      rw [jN_s32, jN_s32]; omega
    have n1 : jN ((((f k * x3).toUInt64 >>> ((32 : Int32).toInt64.toUInt64 &&& Int64.toUInt64 63)).toInt64) + (((b * x5).toUInt64 >>> ((32 : Int32).toInt64.toUInt64 &&& Int64.toUInt64 63)).toInt64) + ((c.toUInt64 >>> ((32 : Int32).toInt64.toUInt64 &&& Int64.toUInt64 63)).toInt64)) = jN (f k * x3) / 4294967296 + jN (b * x5) / 4294967296 + jN c / 4294967296 := by
      rw [jN_add, n0, jN_s32]
      rw [n0, jN_s32]; omega
    have n2 : jN ((((f k * x3).toUInt64 >>> ((32 : Int32).toInt64.toUInt64 &&& Int64.toUInt64 63)).toInt64) + (((b * x5).toUInt64 >>> ((32 : Int32).toInt64.toUInt64 &&& Int64.toUInt64 63)).toInt64) + ((c.toUInt64 >>> ((32 : Int32).toInt64.toUInt64 &&& Int64.toUInt64 63)).toInt64) + ((s.toUInt64 >>> ((32 : Int32).toInt64.toUInt64 &&& Int64.toUInt64 63)).toInt64)) = jN (f k * x3) / 4294967296 + jN (b * x5) / 4294967296 + jN c / 4294967296 + jN s / 4294967296 := by
      rw [jN_add, n1, jN_s32]
      rw [n1, jN_s32]; omega
    refine ih (k + 1) m _ _ _ (by omega) (by omega) ?_ ?_ hfk ?_ ?_
    · have e1 : vl (vp_updL r k (s &&& (4294967295 : Int64))) (k + 1) = vl r k + (jN s % 4294967296) * 4294967296 ^ k := by
        show vl _ k + jN (vp_updL r k (s &&& (4294967295 : Int64)) k) * _ = _
        rw [pk_uLs, jN_m32, vl_c (g := r) k (fun j hj => pk_uLn (by omega))]
      rw [e1, n2]
      show (vl f k + jN (f k) * 4294967296 ^ k) * v = _ + (4294967296 ^ k * 4294967296) * _
      exact tm_id h1 hv (by rw [s1, o1, o2]; omega)
    · rw [n2, s1, o1, o2]; omega
    · intro j hj
      rcases Nat.lt_or_ge j k with w | w
      · rw [pk_uLn (by omega)]; exact h4 j w
      · rw [show j = k by omega, pk_uLs, jN_m32]; omega
    · intro j hj
      rw [pk_uLn (by omega)]
      exact hr j (by omega)
theorem times_v {f : Nat → Int64} (hf : ∀ j, j < 6 → jN (f j) < 4294967296) (a : Int64) (h : vl f 6 * jN a < 4294967296 ^ 6) : ∃ r, P_Mo_times f a = some r ∧ (∀ j, j < 6 → jN (r j) < 4294967296) ∧ vl r 6 = vl f 6 * jN a := by
  unfold P_Mo_times P_Mo_times_21
  have ha := jN_lt a
  obtain ⟨r, k1, k2, t, k3⟩ := tms_l (f := f) (v := jN a) (lo := jN a % 4294967296) (hi := jN a / 4294967296) (by omega) (jN_m32 a) (jN_s32 a) (by omega) (by omega) hf 6 0 fuel 0 0 f (by omega) (by unfold fuel; omega) (by show 0 * jN a = 0 + 4294967296 ^ 0 * (0 + 0 * _); rw [Nat.zero_mul, Nat.zero_mul, Nat.mul_zero]) (by show 0 ≤ _; omega) (by show 0 < _; omega) (fun j hj => absurd hj (by omega)) (fun j _ => rfl)
  refine ⟨r, k1, k2, ?_⟩
  rcases Nat.eq_zero_or_pos t with w | w
  · rw [k3, w, Nat.mul_zero, Nat.add_zero]
  · have : 4294967296 ^ 6 * 1 ≤ 4294967296 ^ 6 * t := Nat.mul_le_mul_left _ w
    omega
theorem pr0 (f : Nat → Int64) (a b c : Int64) : ∃ r, P_Mo_product f a b c = ((P_Mo_times r a).bind fun n_2 => (P_Mo_times n_2 b).bind fun n_3 => (P_Mo_times n_3 c).bind fun n_4 => some n_4) ∧ (∀ j, j < 6 → jN (r j) < 4294967296) ∧ vl r 6 = 1 := by
  have st : ∀ (k m : Nat) (r : Nat → Int64), k < 6 → lp L_Mo_product_3 (m + 1) (a, b, c, nI k, r) = lp L_Mo_product_3 m (a, b, c, nI (k + 1), vp_updL r k (if k = 0 then 1 else 0)) := by
    intro k m r hk
    rw [e_Mo_product_3]
    unfold P_Mo_product_3b P_Mo_product_23
    rw [if_neg (show ¬ (6 : Int32) ≤ nI k from nI_ge (b := 6) (by omega) (by omega))]
    simp only [bdI hk (show 6 < 2 ^ 31 by omega), nI_clamp (show k < 2 ^ 31 by omega), nI_1]
    have q : nI k = 0 ↔ k = 0 := nI_eq (b := 0) (by omega) (by omega)
    by_cases w : k = 0
    · rw [if_pos (q.mpr w), if_pos w]
    · rw [if_neg (fun z => w (q.mp z)), if_neg w]
  unfold P_Mo_product P_Mo_product_3
  show ∃ r, lp L_Mo_product_3 (99993 + 1 + 1 + 1 + 1 + 1 + 1 + 1) (a, b, c, nI 0, f) = _ ∧ _
  rw [st 0 _ _ (by omega), st 1 _ _ (by omega), st 2 _ _ (by omega), st 3 _ _ (by omega), st 4 _ _ (by omega), st 5 _ _ (by omega), e_Mo_product_3]
  unfold P_Mo_product_3b
  rw [if_pos (by decide)]
  generalize hr : vp_updL (vp_updL (vp_updL (vp_updL (vp_updL (vp_updL f 0 (if 0 = 0 then 1 else 0)) 1 (if 1 = 0 then 1 else 0)) (1 + 1) (if 1 + 1 = 0 then 1 else 0)) (2 + 1) (if 2 + 1 = 0 then 1 else 0)) (3 + 1) (if 3 + 1 = 0 then 1 else 0)) (4 + 1) (if 4 + 1 = 0 then 1 else 0) = r
  have h0 : jN (r 0) = 1 := by rw [← hr]; rfl
  have h1 : jN (r 1) = 0 := by rw [← hr]; rfl
  have h2 : jN (r 2) = 0 := by rw [← hr]; rfl
  have h3 : jN (r 3) = 0 := by rw [← hr]; rfl
  have h4 : jN (r 4) = 0 := by rw [← hr]; rfl
  have h5 : jN (r 5) = 0 := by rw [← hr]; rfl
  refine ⟨r, rfl, fun j hj => ?_, ?_⟩
  · rcases (by omega : j = 0 ∨ j = 1 ∨ j = 2 ∨ j = 3 ∨ j = 4 ∨ j = 5) with w | w | w | w | w | w <;> subst w <;> omega
  · show 0 + jN (r 0) * 4294967296 ^ 0 + jN (r 1) * 4294967296 ^ 1 + jN (r 2) * 4294967296 ^ 2 + jN (r 3) * 4294967296 ^ 3 + jN (r 4) * 4294967296 ^ 4 + jN (r 5) * 4294967296 ^ 5 = 1
    rw [h0, h1, h2, h3, h4, h5]
theorem p63 {a b c : Nat} (ha : a < 9223372036854775808) (hb : b < 9223372036854775808) (hc : c < 9223372036854775808) : a * b * c < 4294967296 ^ 6 := by
  have h1 : a * b ≤ 9223372036854775808 * 9223372036854775808 := Nat.mul_le_mul (by omega) (by omega)
  have h2 : a * b * c ≤ 9223372036854775808 * 9223372036854775808 * 9223372036854775808 := Nat.mul_le_mul h1 (by omega)
  have : 9223372036854775808 * 9223372036854775808 * 9223372036854775808 < 4294967296 ^ 6 := by decide
  omega
theorem prod_v (f : Nat → Int64) {a b c : Int64} {A B C : Nat} (ha : a.toInt = A) (hb : b.toInt = B) (hc : c.toInt = C) : ∃ r, P_Mo_product f a b c = some r ∧ (∀ j, j < 6 → jN (r j) < 4294967296) ∧ vl r 6 = A * B * C := by
  obtain ⟨r0, k0, k1, k2⟩ := pr0 f a b c
  have a1 := Int64.toInt_lt a
  have b1 := Int64.toInt_lt b
  have c1 := Int64.toInt_lt c
  have ja : jN a = A := by have := j_of (x := a) (by omega); omega
  have jb : jN b = B := by have := j_of (x := b) (by omega); omega
  have jc : jN c = C := by have := j_of (x := c) (by omega); omega
  have t3 := p63 (a := A) (b := B) (c := C) (by omega) (by omega) (by omega)
  have t2 := p63 (a := A) (b := B) (c := 1) (by omega) (by omega) (by omega)
  have t1 := p63 (a := A) (b := 1) (c := 1) (by omega) (by omega) (by omega)
  obtain ⟨r1, e1, d1, v1⟩ := times_v k1 a (by rw [k2, ja]; omega)
  rw [k2, ja, Nat.one_mul] at v1
  obtain ⟨r2, e2, d2, v2⟩ := times_v d1 b (by rw [v1, jb]; omega)
  rw [v1, jb] at v2
  obtain ⟨r3, e3, d3, v3⟩ := times_v d2 c (by rw [v2, jc]; omega)
  rw [v2, jc] at v3
  rw [k0, e1, some_bind, e2, some_bind, e3, some_bind]
  exact ⟨r3, rfl, d3, v3⟩
theorem vl_cmp {f g : Nat → Int64} (hf : ∀ j, j < 6 → jN (f j) < 4294967296) (hg : ∀ j, j < 6 → jN (g j) < 4294967296) {k : Nat} (hk : k < 6) (h : jN (f k) < jN (g k)) : vl f (k + 1) < vl g (k + 1) := by
  have h1 := vl_lt (f := f) k (fun j hj => hf j (by omega))
  have h2 : (jN (f k) + 1) * 4294967296 ^ k ≤ jN (g k) * 4294967296 ^ k := Nat.mul_le_mul_right _ h
  rw [Nat.add_mul, Nat.one_mul] at h2
  show vl f k + jN (f k) * 4294967296 ^ k < vl g k + jN (g k) * 4294967296 ^ k
  omega
theorem jN_le {x y : Int64} (hx : jN x < 4294967296) (hy : jN y < 4294967296) : (lg_cmp x y = 0 ↔ jN x = jN y) ∧ (0 ≤ lg_cmp x y ↔ jN y ≤ jN x) := by
  have e1 : x.toInt = jN x := by
    unfold jN at hx ⊢
    rw [← Int64.toInt_toBitVec, BitVec.toInt_eq_toNat_cond, if_pos (by omega)]
  have e2 : y.toInt = jN y := by
    unfold jN at hy ⊢
    rw [← Int64.toInt_toBitVec, BitVec.toInt_eq_toNat_cond, if_pos (by omega)]
  rw [lg_cmp_eq, lg_cmp_ge, ← Int64.toInt_inj, Int64.le_iff_toInt_le, e1, e2]
  omega
theorem cmp_l {f g : Nat → Int64} (hf : ∀ j, j < 6 → jN (f j) < 4294967296) (hg : ∀ j, j < 6 → jN (g j) < 4294967296) : ∀ (k m : Nat), k ≤ 6 → k < m → (∀ j, k ≤ j → j < 6 → jN (f j) = jN (g j)) → lp L_Mo_compare_24 m (nI k + (-1), f, g) = some (sI ((vl f k : Int) - vl g k), f, g) := by
  intro k
  induction k with
  | zero =>
    intro m _ hm _
    obtain ⟨m, rfl⟩ := suc_of hm
    rw [e_Mo_compare_24]
    rfl
  | succ k ih =>
    intro m hk hm he
    obtain ⟨m, rfl⟩ := suc_of hm
    rw [e_Mo_compare_24, pk_m1]
    unfold P_Mo_compare_24b
    rw [if_neg (nI_pos (by omega))]
    simp only [bdI (show k < 6 by omega) (show 6 < 2 ^ 31 by omega), nI_clamp (show k < 2 ^ 31 by omega)]
    obtain ⟨c1, c2⟩ := jN_le (hf k (by omega)) (hg k (by omega))
    by_cases q : jN (f k) = jN (g k)
    · rw [if_pos (c1.mpr q), ih m (by omega) (by omega) (fun j h1 h2 => by
        rcases Nat.lt_or_ge k j with w | w
        · exact he j w h2
        · rw [show j = k by omega]; exact q)]
      show _ = some (sI (((vl f k + jN (f k) * 4294967296 ^ k : Nat) : Int) - ((vl g k + jN (g k) * 4294967296 ^ k : Nat) : Int)), f, g)
      rw [q]
      congr 3
      omega
    · rw [if_neg (fun w => q (c1.mp w))]
      by_cases q2 : jN (g k) ≤ jN (f k)
      · rw [if_pos (c2.mpr q2)]
        have := vl_cmp hg hf (show k < 6 by omega) (by omega)
        rw [sI_p (by omega)]
      · rw [if_neg (fun w => q2 (c2.mp w))]
        have := vl_cmp hf hg (show k < 6 by omega) (by omega)
        rw [sI_n (by omega)]
theorem cmp_v (f g : Nat → Int64) {a b c : Int64} {A B C : Nat} (ha : a.toInt = A) (hb : b.toInt = B) (hc : c.toInt = C) : ∃ n1 n2, P_Mo_compare f g a b c = some (sI ((A : Int) * A - B * B * C), n1, n2) := by
  obtain ⟨r1, e1, d1, v1⟩ := prod_v f ha ha (c := 1) (C := 1) rfl
  obtain ⟨r2, e2, d2, v2⟩ := prod_v g hb hb hc
  unfold P_Mo_compare
  rw [e1, some_bind, e2, some_bind]
  have := cmp_l d1 d2 6 fuel (by omega) (by unfold fuel; omega) (fun j h1 h2 => absurd h1 (by omega))
  rw [v1, v2] at this
  refine ⟨r1, r2, ?_⟩
  have k : P_Mo_compare_24 (5 : Int32) r1 r2 = lp L_Mo_compare_24 fuel (nI 6 + (-1), r1, r2) := rfl
  rw [k, this]
  rw [Nat.mul_one]
  rfl
theorem vl_eq {f g : Nat → Int64} (hf : ∀ j, j < 6 → jN (f j) < 4294967296) (hg : ∀ j, j < 6 → jN (g j) < 4294967296) (h : vl f 6 = vl g 6) : ∀ j, j < 6 → jN (f j) = jN (g j) := by
  have key : ∀ k, k ≤ 6 → vl f (6 - k) = vl g (6 - k) ∧ ∀ j, 6 - k ≤ j → j < 6 → jN (f j) = jN (g j) := by
    intro k
    induction k with
    | zero => intro _; exact ⟨h, fun j h1 h2 => absurd h1 (by omega)⟩
    | succ k ih =>
      intro hk
      obtain ⟨i1, i2⟩ := ih (by omega)
      obtain ⟨n, hn⟩ : ∃ n, 6 - k = n + 1 := ⟨5 - k, by omega⟩
      rw [hn] at i1
      have e : jN (f n) = jN (g n) := by
        rcases Nat.lt_trichotomy (jN (f n)) (jN (g n)) with w | w | w
        · have := vl_cmp hf hg (show n < 6 by omega) w; omega
        · exact w
        · have := vl_cmp hg hf (show n < 6 by omega) w; omega
      have i1' : vl f n + jN (f n) * 4294967296 ^ n = vl g n + jN (g n) * 4294967296 ^ n := i1
      rw [e] at i1'
      rw [show 6 - (k + 1) = n by omega]
      refine ⟨by omega, fun j h1 h2 => ?_⟩
      rcases Nat.lt_or_ge n j with w | w
      · exact i2 j (by omega) h2
      · rw [show j = n by omega]; exact e
  exact fun j hj => (key 6 (by omega)).2 j (by omega) hj
theorem thr_l {f g : Nat → Int64} (hf : ∀ j, j < 6 → jN (f j) < 4294967296) (hg : ∀ j, j < 6 → jN (g j) < 4294967296) : ∀ (e k m : Nat), k + e = 6 → e < m → (∀ j, j < k → jN (f j) = jN (g j)) → ∃ r, lp L_Mo_through_26 m (nI k, f, g) = some (r, f, g) ∧ (r = 0 ∨ r = 1) ∧ (r = 1 ↔ ∀ j, j < 6 → jN (f j) = jN (g j)) := by
  intro e
  induction e with
  | zero =>
    intro k m hk hm h
    obtain ⟨m, rfl⟩ := suc_of hm
    rw [e_Mo_through_26]
    unfold P_Mo_through_26b
    rw [if_pos (show (6 : Int32) ≤ nI k from nI_le (a := 6) (by omega) (by omega))]
    exact ⟨1, rfl, Or.inr rfl, ⟨fun _ j hj => h j (by omega), fun _ => rfl⟩⟩
  | succ e ih =>
    intro k m hk hm h
    obtain ⟨m, rfl⟩ := suc_of hm
    rw [e_Mo_through_26]
    unfold P_Mo_through_26b
    rw [if_neg (show ¬ (6 : Int32) ≤ nI k from nI_ge (b := 6) (by omega) (by omega))]
    simp only [bdI (show k < 6 by omega) (show 6 < 2 ^ 31 by omega), nI_clamp (show k < 2 ^ 31 by omega), nI_1]
    obtain ⟨c1, _⟩ := jN_le (hf k (by omega)) (hg k (by omega))
    by_cases q : jN (f k) = jN (g k)
    · rw [if_pos (c1.mpr q)]
      refine ih (k + 1) m (by omega) (by omega) (fun j hj => ?_)
      rcases Nat.lt_or_ge j k with w | w
      · exact h j w
      · rw [show j = k by omega]; exact q
    · rw [if_neg (fun w => q (c1.mp w))]
      exact ⟨0, rfl, Or.inl rfl, ⟨fun w => absurd w (by decide), fun w => absurd (w k (by omega)) q⟩⟩
theorem thr_v (f g : Nat → Int64) {a b c : Int64} {A B C : Nat} (ha : a.toInt = A) (hb : b.toInt = B) (hc : c.toInt = C) : ∃ r n1 n2, P_Mo_through f g a b c = some (r, n1, n2) ∧ (r = 0 ∨ r = 1) ∧ (r = 1 ↔ (B : Int) * B = 4 * (A * C)) := by
  obtain ⟨r1, e1, d1, v1⟩ := prod_v f hb hb (c := 1) (C := 1) rfl
  obtain ⟨r2, e2, d2, v2⟩ := prod_v g ha hc (c := 4) (C := 4) rfl
  unfold P_Mo_through P_Mo_through_26
  rw [e1, some_bind, e2, some_bind]
  obtain ⟨r, k1, k2, k3⟩ := thr_l d1 d2 6 0 fuel (by omega) (by unfold fuel; omega) (fun j hj => absurd hj (by omega))
  refine ⟨r, r1, r2, k1, k2, k3.trans ⟨fun w => ?_, fun w => ?_⟩⟩
  · have : vl r1 6 = vl r2 6 := by
      show 0 + jN (r1 0) * 4294967296 ^ 0 + jN (r1 1) * 4294967296 ^ 1 + jN (r1 2) * 4294967296 ^ 2 + jN (r1 3) * 4294967296 ^ 3 + jN (r1 4) * 4294967296 ^ 4 + jN (r1 5) * 4294967296 ^ 5 = 0 + jN (r2 0) * 4294967296 ^ 0 + jN (r2 1) * 4294967296 ^ 1 + jN (r2 2) * 4294967296 ^ 2 + jN (r2 3) * 4294967296 ^ 3 + jN (r2 4) * 4294967296 ^ 4 + jN (r2 5) * 4294967296 ^ 5
      rw [w 0 (by omega), w 1 (by omega), w 2 (by omega), w 3 (by omega), w 4 (by omega), w 5 (by omega)]
    rw [v1, v2, Nat.mul_one] at this
    have t : ((B * B : Nat) : Int) = ((A * C * 4 : Nat) : Int) := congrArg _ this
    rw [Int.natCast_mul, Int.natCast_mul, Int.natCast_mul] at t
    rw [t, Int.mul_comm]; rfl
  · refine vl_eq d1 d2 ?_
    rw [v1, v2, Nat.mul_one]
    have t : ((B * B : Nat) : Int) = ((A * C * 4 : Nat) : Int) := by
      rw [Int.natCast_mul, Int.natCast_mul, Int.natCast_mul, w, Int.mul_comm]; rfl
    exact Int.ofNat_inj.mp t
