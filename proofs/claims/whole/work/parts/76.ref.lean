/-! PURE ROWS: a piece of the reference: signOf, side, cross, line, curve -/
theorem cth_mth {ax ay bx by_ cx cy : Int} (h : cth (ax - 2 * bx + cx) (2 * (bx - ax)) ax (ay - 2 * by_ + cy) (2 * (by_ - ay)) ay) : mth ax ay bx by_ cx cy := by
  by_cases nf : ay - 2 * by_ + cy = 0 ∧ 2 * (by_ - ay) = 0
  · have e1 : by_ = ay := by omega
    have e2 : cy = ay := by omega
    subst e1 e2
    exact touch_flat.mp h
  · by_cases hz : (bx * cy - cx * by_) + (cx * ay - ax * cy) + (ax * by_ - bx * ay) = 0
    · exact (touch_0 hz nf).1 h
    · exact touch_n1 hz h
theorem mth_cth {ax ay bx by_ cx cy : Int} (h : mth ax ay bx by_ cx cy) : cth (ax - 2 * bx + cx) (2 * (bx - ax)) ax (ay - 2 * by_ + cy) (2 * (by_ - ay)) ay ∨ (cx = 0 ∧ cy = 0) := by
  by_cases nf : ay - 2 * by_ + cy = 0 ∧ 2 * (by_ - ay) = 0
  · have e1 : by_ = ay := by omega
    have e2 : cy = ay := by omega
    subst e1 e2
    exact Or.inl (touch_flat.mpr h)
  · by_cases hz : (bx * cy - cx * by_) + (cx * ay - ax * cy) + (ax * by_ - bx * ay) = 0
    · exact (touch_0 hz nf).2 h
    · rcases h with h | h
      · exact absurd h.1 hz
      · exact touch_n2 hz h.2.1.2.1 h.2.2
theorem mth_end {ax ay bx by_ cx cy : Int} (h1 : cx = 0) (h2 : cy = 0) : mth ax ay bx by_ cx cy := by
  subst h1 h2
  have u0 : bx * 0 - 0 * by_ = 0 := by rw [Int.mul_zero, Int.zero_mul]; rfl
  have v0 : 0 * ay - ax * 0 = 0 := by rw [Int.mul_zero, Int.zero_mul]; rfl
  unfold mth
  rw [u0, v0]
  by_cases w : ax * by_ - bx * ay = 0
  · left
    refine ⟨by omega, ?_⟩
    by_cases q : ax = bx ∧ bx = 0 ∧ ay = by_ ∧ by_ = 0
    · exact Or.inl ⟨q.1, q.2.1, q.2.2.1, q.2.2.2, by omega, by omega⟩
    · refine Or.inr ⟨q, ⟨rfl, rfl, w⟩, ?_⟩
      by_cases q2 : ax = bx ∧ bx = 0
      · exact Or.inr ⟨q2, Or.inr (Or.inl rfl)⟩
      · exact Or.inl ⟨q2, Or.inr (Or.inl rfl)⟩
  · right
    refine ⟨by omega, ⟨?_, ?_, ?_⟩, ?_⟩
    · rw [Int.mul_zero]; exact Int.le_refl 0
    · rw [Int.mul_zero]; exact Int.le_refl 0
    · rw [show (0 : Int) + 0 + (ax * by_ - bx * ay) = ax * by_ - bx * ay by omega]
      rcases sg_tri (ax * by_ - bx * ay) with ⟨e, k⟩ | ⟨e, k⟩ | ⟨e, k⟩ <;> rw [e] <;> omega
    · rw [Int.zero_mul, Int.zero_mul, Int.mul_zero]
theorem sg_z {x : Int} (h : x.sign = 0) : x = 0 := by
  rcases sg_tri x with ⟨e, k⟩ | ⟨e, k⟩ | ⟨e, k⟩ <;> omega
theorem nsd_u {a2 b2 c a b C : Int} (hn : ¬ cth a2 b2 c a b C) (he : ¬ (c + b2 + a2 = 0 ∧ C + b + a = 0)) (h : (0 ≤ C ∧ C + b + a < 0) ∨ ((0 ≤ C ∧ 0 ≤ C + b + a ∧ 2 * C + b < 0 ∨ C < 0 ∧ C + b + a < 0 ∧ 0 < 2 * C + b) ∧ 0 < b * b - 4 * a * C)) : sd (-1) a2 b2 c a b C ≠ 0 := by
  intro hs
  have nf : ¬ (a = 0 ∧ b = 0) := by
    intro w
    obtain ⟨rfl, rfl⟩ := w
    rcases h with h | ⟨h, hd⟩
    · omega
    · rw [Int.mul_zero, Int.mul_zero, Int.zero_mul] at hd; exact absurd hd (by decide)
  by_cases hw : wup a b C
  · exact hn (Or.inr (Or.inr ⟨nf, Or.inr ⟨hw, hs⟩⟩))
  rw [wup_v] at hw
  have hC : C = 0 := by
    rcases h with h | ⟨h, hd⟩
    · omega
    · omega
  subst hC
  have hb : b ≤ 0 := by
    rcases h with h | ⟨h, hd⟩
    · rw [dsc] at hw
      have := z_sq (2 * 0 + b)
      rw [Int.zero_mul] at hw
      omega
    · omega
  have e := sd_start (w := -1) (a2 := a2) (b2 := b2) (c := c) (a := a) (b := b) (by omega) (Or.inr (Or.inl ⟨rfl, hb⟩))
  rw [e] at hs
  exact hn (Or.inl ⟨sg_z hs, rfl⟩)
theorem nsd_d {a2 b2 c a b C : Int} (hn : ¬ cth a2 b2 c a b C) (he : ¬ (c + b2 + a2 = 0 ∧ C + b + a = 0)) (h : (C < 0 ∧ 0 ≤ C + b + a) ∨ ((0 ≤ C ∧ 0 ≤ C + b + a ∧ 2 * C + b < 0 ∨ C < 0 ∧ C + b + a < 0 ∧ 0 < 2 * C + b) ∧ 0 < b * b - 4 * a * C)) : sd 1 a2 b2 c a b C ≠ 0 := by
  intro hs
  have nf : ¬ (a = 0 ∧ b = 0) := by
    intro w
    obtain ⟨rfl, rfl⟩ := w
    rcases h with h | ⟨h, hd⟩
    · omega
    · rw [Int.mul_zero, Int.mul_zero, Int.zero_mul] at hd; exact absurd hd (by decide)
  by_cases hw : wdn a b C
  · exact hn (Or.inr (Or.inr ⟨nf, Or.inl ⟨hw, hs⟩⟩))
  rw [wdn_v] at hw
  have hE : C + b + a = 0 := by
    rcases h with h | ⟨h, hd⟩
    · omega
    · omega
  have hb : 0 ≤ b + 2 * a := by
    rcases h with h | ⟨h, hd⟩
    · rw [dsc, hE] at hw
      have := z_sq (2 * C + b)
      rw [Int.mul_zero] at hw
      omega
    · omega
  have e := sd_stop (w := 1) (a2 := a2) (b2 := b2) (c := c) (a := a) (b := b) (C := C) hE (by omega) (Or.inl ⟨rfl, hb⟩)
  rw [e] at hs
  exact he ⟨sg_z hs, hE⟩
theorem nabs_J {x : Int64} {p b : Int} (h : J b x p) (hb : b < 9223372036854775808) (k : Int64) (hk : (0 ≤ p ∧ k = x) ∨ (p < 0 ∧ k = -x)) : k.toInt = (p.natAbs : Nat) := by
  rcases hk with ⟨w, rfl⟩ | ⟨w, rfl⟩
  · rw [h.1]; omega
  · rw [(J_neg h hb).1]; omega
theorem sgn_v (f g : Nat → Int64) {x y d : Int64} {p q D b1 b2 b3 : Int} (hx : J b1 x p) (hy : J b2 y q) (hd : J b3 d D) (h1 : b1 < 9223372036854775808) (h2 : b2 < 9223372036854775808) (hD : 0 ≤ D) : ∃ n1 n2, P_Mo_signOf f g x y d = some (sI (sgR p q D), n1, n2) := by
  have key := sgR_I p q 0 1 0 (p * p - q * q * D) D (by decide) (by rw [Int.one_mul])
  have e0 : P_Mo_signOf f g x y d = P_Mo_signOf_21 x y d (sI p) (if 0 < D then sI q else 0) f g := by
    unfold P_Mo_signOf
    rw [msign_J hx, some_bind, msign_J hy, some_bind]
    by_cases w : D = 0
    · rw [if_pos ((J_eq hd J0).mpr w), if_neg (by omega)]
    · rw [if_neg (fun z => w ((J_eq hd J0).mp z)), if_pos (by omega)]
  rw [e0, key]
  generalize hsd : (if 0 < D then sI q else 0) = s
  unfold P_Mo_signOf_21
  by_cases w1 : s = 0
  · rw [if_pos w1]
    by_cases w2 : sI p = s
    · rw [if_pos w2, if_pos w1]; exact ⟨f, g, rfl⟩
    · rw [if_neg w2, if_pos w1]; exact ⟨f, g, rfl⟩
  by_cases w2 : sI p = s
  · rw [if_pos w2, if_neg w1, if_pos w2]; exact ⟨f, g, rfl⟩
  rw [if_neg w2, if_neg w1, if_neg w1, if_neg w2]
  by_cases w3 : sI p = 0
  · rw [if_pos w3, if_pos w3]; exact ⟨f, g, rfl⟩
  rw [if_neg w3, if_neg w3]
  have hop : ∃ k l, (if 0 ≤ lg_cmp x 0 then P_Mo_signOf_59 y d (sI p) s x f g else P_Mo_signOf_59 y d (sI p) s (-x) f g) = P_Mo_signOf_71 d (sI p) s l k f g ∧ k.toInt = (p.natAbs : Nat) ∧ l.toInt = (q.natAbs : Nat) := by
    unfold P_Mo_signOf_59
    by_cases z1 : 0 ≤ p <;> by_cases z2 : 0 ≤ q
    · rw [if_pos ((J_ge hx J0).mpr z1), if_pos ((J_ge hy J0).mpr z2)]
      exact ⟨x, y, rfl, nabs_J hx h1 _ (Or.inl ⟨z1, rfl⟩), nabs_J hy h2 _ (Or.inl ⟨z2, rfl⟩)⟩
    · rw [if_pos ((J_ge hx J0).mpr z1), if_neg (fun z => z2 ((J_ge hy J0).mp z))]
      exact ⟨x, -y, rfl, nabs_J hx h1 _ (Or.inl ⟨z1, rfl⟩), nabs_J hy h2 _ (Or.inr ⟨by omega, rfl⟩)⟩
    · rw [if_neg (fun z => z1 ((J_ge hx J0).mp z)), if_pos ((J_ge hy J0).mpr z2)]
      exact ⟨-x, y, rfl, nabs_J hx h1 _ (Or.inr ⟨by omega, rfl⟩), nabs_J hy h2 _ (Or.inl ⟨z2, rfl⟩)⟩
    · rw [if_neg (fun z => z1 ((J_ge hx J0).mp z)), if_neg (fun z => z2 ((J_ge hy J0).mp z))]
      exact ⟨-x, -y, rfl, nabs_J hx h1 _ (Or.inr ⟨by omega, rfl⟩), nabs_J hy h2 _ (Or.inr ⟨by omega, rfl⟩)⟩
  obtain ⟨k, l, e1, k1, k2⟩ := hop
  rw [e1]
  unfold P_Mo_signOf_71
  obtain ⟨n1, n2, e2⟩ := cmp_v f g k1 k2 (c := d) (C := D.natAbs) (by rw [hd.1]; omega)
  rw [e2, some_bind]
  simp only [unp]
  have i1 : (p.natAbs : Int) * p.natAbs = p * p := Int.natAbs_mul_self' p
  have i2 : (q.natAbs : Int) * q.natAbs = q * q := Int.natAbs_mul_self' q
  have i3 : (D.natAbs : Int) = D := by omega
  rw [i1, i2, i3]
  have hs : s = sI p * (-1) := by
    have hq : s = sI q := by
      rw [← hsd] at w1 ⊢
      by_cases z : 0 < D
      · rw [if_pos z]
      · rw [if_neg z] at w1; exact absurd rfl w1
    rw [hq] at w1 w2 ⊢
    rcases Int.lt_trichotomy p 0 with z | z | z
    · rcases Int.lt_trichotomy q 0 with y | y | y
      · rw [sI_n z, sI_n y] at w2; exact absurd rfl w2
      · exact absurd (sI_z.mpr y) w1
      · rw [sI_n z, sI_p y]; rfl
    · exact absurd (sI_z.mpr z) w3
    · rcases Int.lt_trichotomy q 0 with y | y | y
      · rw [sI_p z, sI_n y]; rfl
      · exact absurd (sI_z.mpr y) w1
      · rw [sI_p z, sI_p y] at w2; exact absurd rfl w2
  refine ⟨n1, n2, ?_⟩
  rcases Int.lt_trichotomy (p * p - q * q * D) 0 with z | z | z
  · rw [if_neg (fun w => absurd (sI_z.mp w) (by omega)), if_pos (sI_le.mpr (by omega)), hs, sI_n z]
  · rw [if_pos (sI_z.mpr z), z, sI_0, Int32.mul_zero]
  · rw [if_neg (fun w => absurd (sI_z.mp w) (by omega)), if_neg (fun w => absurd (sI_le.mp w) (by omega)), sI_p z, Int32.mul_one]
abbrev J8 (x : Int64) (v : Int) : Prop := J 80000 x v
theorem mside_v (f g : Nat → Int64) {x1 x2 x3 x4 x5 x6 : Int64} {ax ay bx by_ cx cy : Int} (h1 : J8 x1 ax) (h2 : J8 x2 ay) (h3 : J8 x3 bx) (h4 : J8 x4 by_) (h5 : J8 x5 cx) (h6 : J8 x6 cy) {w : Int} {w' : Int32} (hw : w = 1 ∧ w' = 1 ∨ w = -1 ∧ w' = -1) (hd : 0 ≤ 2 * (by_ - ay) * (2 * (by_ - ay)) - 4 * (ay - 2 * by_ + cy) * ay) : ∃ n1 n2, P_Mo_side f g x1 x2 x3 x4 x5 x6 w' = some (sI (sd w (ax - 2 * bx + cx) (2 * (bx - ax)) ax (ay - 2 * by_ + cy) (2 * (by_ - ay)) ay), n1, n2) := by
  have a2 := J_add (J_sub h1 (J_mul J2 h3 (by decide)) (by decide)) h5 (by decide)
  have b2 := J_mul J2 (J_sub h3 h1 (by decide)) (by decide)
  have a := J_add (J_sub h2 (J_mul J2 h4 (by decide)) (by decide)) h6 (by decide)
  have b := J_mul J2 (J_sub h4 h2 (by decide)) (by decide)
  unfold P_Mo_side sd
  by_cases q : ay - 2 * by_ + cy = 0
  · rw [if_pos ((J_eq a J0).mpr q), if_pos q]
    have z := msign_J (J_add (J_sub (J_mul (J_mul a2 h2 (by decide)) h2 (by decide)) (J_mul (J_mul b2 b (by decide)) h2 (by decide)) (by decide)) (J_mul (J_mul h1 b (by decide)) b (by decide)) (by decide))
    rw [z, some_bind, sI_sg]
    exact ⟨f, g, rfl⟩
  · rw [if_neg (fun w => q ((J_eq a J0).mp w)), if_neg q]
    unfold P_Mo_side_92
    have n := J_sub (J_mul a b2 (by decide)) (J_mul a2 b (by decide)) (by decide)
    have kk := J_sub (J_mul a h1 (by decide)) (J_mul a2 h2 (by decide)) (by decide)
    have m := J_sub (J_mul (J_mul J2 a (by decide)) kk (by decide)) (J_mul n b (by decide)) (by decide)
    have d := J_sub (J_mul b b (by decide)) (J_mul (J_mul J4 a (by decide)) h2 (by decide)) (by decide)
    have jw : J 1 w'.toInt64 w := by rcases hw with ⟨rfl, rfl⟩ | ⟨rfl, rfl⟩ <;> exact ⟨by decide, by decide, by decide⟩
    obtain ⟨n1, n2, e⟩ := sgn_v f g m (J_mul jw n (by decide)) d (by decide) (by decide) hd
    rw [e, some_bind]
    simp only [unp]
    rw [Int.mul_comm (2 * (by_ - ay)) ((ay - 2 * by_ + cy) * (2 * (bx - ax)) - (ax - 2 * bx + cx) * (2 * (by_ - ay)))]
    exact ⟨n1, n2, rfl⟩
theorem mcr_d (t : Int32) (T u : Int) (hu : u ≠ 0) : P_Mo_cross t (tI T) 0 1 (sI u) = some (t, tI (T + one (decide (0 < u)))) := by
  unfold P_Mo_cross P_Mo_cross_9
  rw [if_neg (fun w => hu (sI_z.mp w))]
  by_cases q : u ≤ 0
  · rw [if_pos (sI_le.mpr q), one_f _ (by omega), Int.add_zero]
  · rw [if_neg (fun w => q (sI_le.mp w)), if_neg (by decide), if_pos rfl, one_t _ (by omega), ← tI_add]; rfl
theorem mcr_u (t : Int32) (T u : Int) (hu : u ≠ 0) : P_Mo_cross t (tI T) 1 0 (sI u) = some (t, tI (T - one (decide (0 < u)))) := by
  unfold P_Mo_cross P_Mo_cross_9 P_Mo_cross_30
  rw [if_neg (fun w => hu (sI_z.mp w))]
  by_cases q : u ≤ 0
  · rw [if_pos (sI_le.mpr q), one_f _ (by omega), Int.sub_zero]
  · rw [if_neg (fun w => q (sI_le.mp w)), if_pos rfl, if_neg (by decide), if_pos rfl, one_t _ (by omega), Int.sub_eq_add_neg, ← tI_add]; rfl
theorem zero_v {x y z : Int64} {p q r : Int} (hx : J8 x p) (hy : J8 y q) (hz : J8 z r) : ∃ u, P_Mo_zero x y z = some u ∧ (u = 0 ↔ ¬ zer p q r) := by
  have e := J_lt (J_mul hy hy (by decide)) (J_mul hx hz (by decide))
  unfold P_Mo_zero zer
  by_cases q1 : p = 0
  · rw [if_pos ((J_eq hx J0).mpr q1)]
    exact ⟨1, rfl, ⟨fun w => absurd w (by decide), fun w => absurd (Or.inl q1) w⟩⟩
  rw [if_neg (fun w => q1 ((J_eq hx J0).mp w))]
  by_cases q2 : r = 0
  · rw [if_pos ((J_eq hz J0).mpr q2)]
    exact ⟨1, rfl, ⟨fun w => absurd w (by decide), fun w => absurd (Or.inr (Or.inl q2)) w⟩⟩
  rw [if_neg (fun w => q2 ((J_eq hz J0).mp w))]
  unfold P_Mo_zero_24 P_Mo_zero_36 P_Mo_zero_62
  by_cases z1 : 0 < p <;> by_cases z2 : 0 < r
  · rw [if_neg (fun w => absurd ((J_le hx J0).mp w) (by omega)), if_neg (fun w => absurd ((J_le hz J0).mp w) (by omega)), if_pos rfl, if_neg (fun w => absurd ((J_le hx J0).mp w) (by omega))]
    by_cases z3 : 0 ≤ q
    · rw [if_pos ((J_ge hy J0).mpr z3)]
      exact ⟨0, rfl, ⟨fun _ => by omega, fun _ => rfl⟩⟩
    rw [if_neg (fun w => z3 ((J_ge hy J0).mp w))]
    by_cases z4 : q * q < p * r
    · rw [if_pos (e.mpr z4)]; exact ⟨0, rfl, ⟨fun _ => by omega, fun _ => rfl⟩⟩
    · rw [if_neg (fun w => z4 (e.mp w))]; exact ⟨1, rfl, ⟨fun w => absurd w (by decide), fun w => by omega⟩⟩
  · rw [if_neg (fun w => absurd ((J_le hx J0).mp w) (by omega)), if_pos ((J_le hz J0).mpr (by omega)), if_neg (by decide)]
    exact ⟨1, rfl, ⟨fun w => absurd w (by decide), fun w => by omega⟩⟩
  · rw [if_pos ((J_le hx J0).mpr (by omega)), if_neg (fun w => absurd ((J_le hz J0).mp w) (by omega)), if_neg (by decide)]
    exact ⟨1, rfl, ⟨fun w => absurd w (by decide), fun w => by omega⟩⟩
  · rw [if_pos ((J_le hx J0).mpr (by omega)), if_pos ((J_le hz J0).mpr (by omega)), if_pos rfl, if_pos ((J_le hx J0).mpr (by omega))]
    by_cases z3 : q ≤ 0
    · rw [if_pos ((J_le hy J0).mpr z3)]
      exact ⟨0, rfl, ⟨fun _ => by omega, fun _ => rfl⟩⟩
    rw [if_neg (fun w => z3 ((J_le hy J0).mp w))]
    by_cases z4 : q * q < p * r
    · rw [if_pos (e.mpr z4)]; exact ⟨0, rfl, ⟨fun _ => by omega, fun _ => rfl⟩⟩
    · rw [if_neg (fun w => z4 (e.mp w))]; exact ⟨1, rfl, ⟨fun w => absurd w (by decide), fun w => by omega⟩⟩
theorem dsc2 (ay by_ cy : Int) : 2 * (by_ - ay) * (2 * (by_ - ay)) - 4 * (ay - 2 * by_ + cy) * ay = 4 * (by_ * by_ - ay * cy) := by grind
theorem z_np {x y : Int} (h : 0 ≤ x ∧ y < 0 ∨ x < 0 ∧ 0 ≤ y) : x * y ≤ 0 := by
  rcases h with ⟨a, b⟩ | ⟨a, b⟩
  · exact Int.mul_nonpos_of_nonneg_of_nonpos a (by omega)
  · exact Int.mul_nonpos_of_nonpos_of_nonneg (by omega) b
theorem c255 (f g : Nat → Int64) {x1 x2 x3 x4 x5 x6 : Int64} {ax ay bx by_ cx cy : Int} (h1 : J8 x1 ax) (h2 : J8 x2 ay) (h3 : J8 x3 bx) (h4 : J8 x4 by_) (h5 : J8 x5 cx) (h6 : J8 x6 cy) (T : Int) (hm : ¬ mth ax ay bx by_ cx cy) : ∃ n1 n2, P_Mo_curve_255 x1 x2 x3 x4 x5 x6 0 (tI T) f g = some (0, tI (T + mtn (ax - 2 * bx + cx) (2 * (bx - ax)) ax (ay - 2 * by_ + cy) (2 * (by_ - ay)) ay), n1, n2) := by
  have hn : ¬ cth (ax - 2 * bx + cx) (2 * (bx - ax)) ax (ay - 2 * by_ + cy) (2 * (by_ - ay)) ay := fun w => hm (cth_mth w)
  have eX : ax + 2 * (bx - ax) + (ax - 2 * bx + cx) = cx := by omega
  have eY : ay + 2 * (by_ - ay) + (ay - 2 * by_ + cy) = cy := by omega
  have he : ¬ (ax + 2 * (bx - ax) + (ax - 2 * bx + cx) = 0 ∧ ay + 2 * (by_ - ay) + (ay - 2 * by_ + cy) = 0) := fun w => hm (mth_end (by omega) (by omega))
  have nu := nsd_u hn he
  have nd := nsd_d hn he
  have eD := dsc2 ay by_ cy
  rw [eY, eD] at nu nd
  have side1 := fun (hd : ay * cy ≤ by_ * by_) (f g : Nat → Int64) => mside_v f g h1 h2 h3 h4 h5 h6 (w := 1) (w' := 1) (Or.inl ⟨rfl, rfl⟩) (by rw [eD]; omega)
  have side2 := fun (hd : ay * cy ≤ by_ * by_) (f g : Nat → Int64) => mside_v f g h1 h2 h3 h4 h5 h6 (w := -1) (w' := -1) (Or.inr ⟨rfl, rfl⟩) (by rw [eD]; omega)
  have hq := z_sq by_
  have hb := J_le (J_mul h4 h4 (by decide)) (J_mul h2 h6 (by decide))
  unfold P_Mo_curve_255 P_Mo_curve_274 P_Mo_curve_288 mtn
  rw [if_pos rfl, eY, eD]
  generalize sd 1 (ax - 2 * bx + cx) (2 * (bx - ax)) ax (ay - 2 * by_ + cy) (2 * (by_ - ay)) ay = s1 at *
  generalize sd (-1) (ax - 2 * bx + cx) (2 * (bx - ax)) ax (ay - 2 * by_ + cy) (2 * (by_ - ay)) ay = s2 at *
  by_cases q1 : ay < 0 <;> by_cases q2 : cy < 0
  · rw [if_pos ((J_lt h2 J0).mpr q1), if_pos ((J_lt h6 J0).mpr q2), if_pos rfl, if_pos rfl, if_neg (show ¬ (0 ≤ ay ∧ cy < 0) by omega), if_neg (show ¬ (ay < 0 ∧ 0 ≤ cy) by omega)]
    by_cases q3 : by_ ≤ 0
    · rw [if_pos ((J_le h4 J0).mpr q3), if_neg (by omega), Int.add_zero]
      exact ⟨f, g, rfl⟩
    rw [if_neg (fun w => q3 ((J_le h4 J0).mp w))]
    unfold P_Mo_curve_354
    by_cases q4 : by_ * by_ ≤ ay * cy
    · rw [if_pos (hb.mpr q4), if_neg (by omega), Int.add_zero]
      exact ⟨f, g, rfl⟩
    rw [if_neg (fun w => q4 (hb.mp w)), if_pos rfl, if_pos (by omega)]
    unfold P_Mo_curve_380 P_Mo_curve_401 P_Mo_curve_418 P_Mo_curve_441
    rw [if_pos rfl]
    obtain ⟨n1, n2, k1⟩ := side1 (by omega) f g
    rw [k1, some_bind]
    simp only [unp]
    rw [mcr_d 0 T s1 (nd (Or.inr ⟨by omega, by omega⟩)), some_bind]
    simp only [unp]
    rw [if_pos trivial, if_pos trivial]
    obtain ⟨n3, n4, k2⟩ := side2 (by omega) n1 n2
    rw [k2, some_bind]
    simp only [unp]
    rw [mcr_u 0 _ s2 (nu (Or.inr ⟨by omega, by omega⟩)), some_bind]
    exact ⟨n3, n4, by show some (_, _, _, _) = _; rw [Int.add_sub_assoc]⟩
  · rw [if_pos ((J_lt h2 J0).mpr q1), if_neg (fun w => q2 ((J_lt h6 J0).mp w)), if_neg (by decide), if_neg (by decide), if_neg (show ¬ (0 ≤ ay ∧ cy < 0) by omega), if_pos (show (ay < 0 ∧ 0 ≤ cy) by omega)]
    unfold P_Mo_curve_323
    have := z_np (Or.inr ⟨q1, show 0 ≤ cy by omega⟩)
    obtain ⟨n1, n2, k1⟩ := side1 (by omega) f g
    rw [k1, some_bind]
    simp only [unp]
    rw [mcr_d 0 T s1 (nd (Or.inl ⟨by omega, by omega⟩)), some_bind]
    exact ⟨n1, n2, rfl⟩
  · rw [if_neg (fun w => q1 ((J_lt h2 J0).mp w)), if_pos ((J_lt h6 J0).mpr q2), if_neg (by decide), if_pos rfl, if_pos (show (0 ≤ ay ∧ cy < 0) by omega)]
    unfold P_Mo_curve_323
    have := z_np (Or.inl ⟨show 0 ≤ ay by omega, q2⟩)
    obtain ⟨n1, n2, k1⟩ := side2 (by omega) f g
    rw [k1, some_bind]
    simp only [unp]
    rw [mcr_u 0 T s2 (nu (Or.inl ⟨by omega, by omega⟩)), some_bind]
    exact ⟨n1, n2, rfl⟩
  · rw [if_neg (fun w => q1 ((J_lt h2 J0).mp w)), if_neg (fun w => q2 ((J_lt h6 J0).mp w)), if_pos rfl, if_neg (by decide), if_neg (show ¬ (0 ≤ ay ∧ cy < 0) by omega), if_neg (show ¬ (ay < 0 ∧ 0 ≤ cy) by omega)]
    by_cases q3 : 0 ≤ by_
    · rw [if_pos ((J_ge h4 J0).mpr q3), if_neg (by omega), Int.add_zero]
      exact ⟨f, g, rfl⟩
    rw [if_neg (fun w => q3 ((J_ge h4 J0).mp w))]
    unfold P_Mo_curve_354
    by_cases q4 : by_ * by_ ≤ ay * cy
    · rw [if_pos (hb.mpr q4), if_neg (by omega), Int.add_zero]
      exact ⟨f, g, rfl⟩
    rw [if_neg (fun w => q4 (hb.mp w)), if_neg (by decide), if_pos (by omega)]
    unfold P_Mo_curve_380 P_Mo_curve_401 P_Mo_curve_418 P_Mo_curve_441
    rw [if_neg (by decide)]
    obtain ⟨n1, n2, k1⟩ := side2 (by omega) f g
    rw [k1, some_bind]
    simp only [unp]
    rw [mcr_u 0 T s2 (nu (Or.inr ⟨by omega, by omega⟩)), some_bind]
    simp only [unp]
    rw [if_neg (by decide), if_neg (by decide)]
    obtain ⟨n3, n4, k2⟩ := side1 (by omega) n1 n2
    rw [k2, some_bind]
    simp only [unp]
    rw [mcr_d 0 _ s1 (nd (Or.inr ⟨by omega, by omega⟩)), some_bind]
    exact ⟨n3, n4, by show some (_, _, _, _) = _; rw [show T - one (decide (0 < s2)) + one (decide (0 < s1)) = T + (one (decide (0 < s1)) - one (decide (0 < s2))) by omega]⟩
