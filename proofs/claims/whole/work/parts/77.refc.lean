/-! PURE ROWS: the reference's curve and line as a whole -/
def Tch (P : Prop) (t t1 : Int32) : Prop := (P → t1 = 1) ∧ (¬ P → t1 = t)
theorem c142 (t u : Int32) (f g : Nat → Int64) {x1 x2 x3 x4 x5 x6 : Int64} {ax ay bx by_ cx cy : Int} (h1 : J8 x1 ax) (h2 : J8 x2 ay) (h3 : J8 x3 bx) (h4 : J8 x4 by_) (h5 : J8 x5 cx) (h6 : J8 x6 cy) (wd ol : Prop) [Decidable wd] [Decidable ol] : ∃ t1, P_Mo_curve_142 x1 x2 x3 x4 x5 x6 (bI wd) (bI ol) t u f g = P_Mo_curve_255 x1 x2 x3 x4 x5 x6 t1 u f g ∧ Tch (ol ∧ ((wd ∧ zer ax bx cx) ∨ (¬ wd ∧ zer ay by_ cy))) t t1 := by
  unfold P_Mo_curve_142 P_Mo_curve_177 P_Mo_curve_182
  by_cases o : ol
  · rw [bI_1 o, if_neg (by decide)]
    by_cases w : wd
    · rw [bI_1 w, if_neg (by decide)]
      obtain ⟨r, e1, e2⟩ := zero_v h1 h3 h5
      rw [e1, some_bind]
      by_cases q : r = 0
      · rw [if_pos q]
        exact ⟨t, rfl, fun z => z.2.elim (fun z => absurd z.2 (e2.mp q)) (fun z => absurd w z.1), fun _ => rfl⟩
      · rw [if_neg q]
        have : zer ax bx cx := Classical.byContradiction (fun z => q (e2.mpr z))
        exact ⟨1, rfl, fun _ => rfl, fun z => absurd ⟨o, Or.inl ⟨w, this⟩⟩ z⟩
    · rw [bI_0 w, if_pos rfl]
      obtain ⟨r, e1, e2⟩ := zero_v h2 h4 h6
      rw [e1, some_bind]
      by_cases q : r = 0
      · rw [if_pos q]
        exact ⟨t, rfl, fun z => z.2.elim (fun z => absurd z.1 w) (fun z => absurd z.2 (e2.mp q)), fun _ => rfl⟩
      · rw [if_neg q]
        have : zer ay by_ cy := Classical.byContradiction (fun z => q (e2.mpr z))
        exact ⟨1, rfl, fun _ => rfl, fun z => absurd ⟨o, Or.inr ⟨w, this⟩⟩ z⟩
  · rw [bI_0 o, if_pos rfl]
    exact ⟨t, rfl, fun z => absurd z.1 o, fun _ => rfl⟩
theorem Tch_i {P Q : Prop} {t t1 : Int32} (h : Tch P t t1) (e : P ↔ Q) : Tch Q t t1 := ⟨fun q => h.1 (e.mpr q), fun q => h.2 (fun p => q (e.mp p))⟩
theorem c100 (t u : Int32) (f g : Nat → Int64) {x1 x2 x3 x4 x5 x6 : Int64} {ax ay bx by_ cx cy : Int} (h1 : J8 x1 ax) (h2 : J8 x2 ay) (h3 : J8 x3 bx) (h4 : J8 x4 by_) (h5 : J8 x5 cx) (h6 : J8 x6 cy) (wd ol : Prop) [Decidable wd] [Decidable ol] : ∃ t1, P_Mo_curve_100 x1 x2 x3 x4 x5 x6 (bI wd) (bI ol) t u f g = P_Mo_curve_255 x1 x2 x3 x4 x5 x6 t1 u f g ∧ Tch ((¬ wd ∧ ay = by_ ∧ by_ = cy ∧ ax = 0 ∧ ay = 0) ∨ (¬ (¬ wd ∧ ay = by_ ∧ by_ = cy) ∧ ol ∧ ((wd ∧ zer ax bx cx) ∨ (¬ wd ∧ zer ay by_ cy)))) t t1 := by
  obtain ⟨t0, e0, k0⟩ := c142 t u f g h1 h2 h3 h4 h5 h6 wd ol
  have r42 : ¬ (¬ wd ∧ ay = by_ ∧ by_ = cy) → ∃ t1, P_Mo_curve_142 x1 x2 x3 x4 x5 x6 (bI wd) (bI ol) t u f g = P_Mo_curve_255 x1 x2 x3 x4 x5 x6 t1 u f g ∧ Tch ((¬ wd ∧ ay = by_ ∧ by_ = cy ∧ ax = 0 ∧ ay = 0) ∨ (¬ (¬ wd ∧ ay = by_ ∧ by_ = cy) ∧ ol ∧ ((wd ∧ zer ax bx cx) ∨ (¬ wd ∧ zer ay by_ cy)))) t t1 :=
    fun hn => ⟨t0, e0, Tch_i k0 ⟨fun z => Or.inr ⟨hn, z⟩, fun z => z.elim (fun z => absurd ⟨z.1, z.2.1, z.2.2.1⟩ hn) (fun z => z.2)⟩⟩
  unfold P_Mo_curve_100
  by_cases w : wd
  · rw [bI_1 w, if_neg (by decide)]
    rw [bI_1 w] at r42
    exact r42 (fun z => z.1 w)
  rw [bI_0 w, if_pos rfl]
  rw [bI_0 w] at r42
  by_cases q1 : ay = by_
  · rw [if_pos ((J_eq h2 h4).mpr q1)]
    by_cases q2 : by_ = cy
    · rw [if_pos ((J_eq h4 h6).mpr q2)]
      unfold P_Mo_curve_182
      have no : ¬ (ax = 0 ∧ ay = 0) → Tch ((¬ wd ∧ ay = by_ ∧ by_ = cy ∧ ax = 0 ∧ ay = 0) ∨ (¬ (¬ wd ∧ ay = by_ ∧ by_ = cy) ∧ ol ∧ ((wd ∧ zer ax bx cx) ∨ (¬ wd ∧ zer ay by_ cy)))) t t :=
        fun hn => ⟨fun z => z.elim (fun z => absurd z.2.2.2 hn) (fun z => absurd ⟨w, q1, q2⟩ z.1), fun _ => rfl⟩
      by_cases q3 : ax = 0
      · rw [if_pos ((J_eq h1 J0).mpr q3)]
        by_cases q4 : ay = 0
        · rw [if_pos ((J_eq h2 J0).mpr q4)]
          exact ⟨1, rfl, fun _ => rfl, fun z => absurd (Or.inl ⟨w, q1, q2, q3, q4⟩) z⟩
        · rw [if_neg (fun z => q4 ((J_eq h2 J0).mp z))]
          exact ⟨t, rfl, no (fun z => q4 z.2)⟩
      · rw [if_neg (fun z => q3 ((J_eq h1 J0).mp z))]
        exact ⟨t, rfl, no (fun z => q3 z.1)⟩
    · rw [if_neg (fun z => q2 ((J_eq h4 h6).mp z))]
      exact r42 (fun z => q2 z.2.2)
  · rw [if_neg (fun z => q1 ((J_eq h2 h4).mp z))]
    exact r42 (fun z => q1 z.2.1)
theorem c72 (t u : Int32) (f g : Nat → Int64) {x1 x2 x3 x4 x5 x6 y1 y2 y3 : Int64} {ax ay bx by_ cx cy U V W b1 b2 b3 : Int} (h1 : J8 x1 ax) (h2 : J8 x2 ay) (h3 : J8 x3 bx) (h4 : J8 x4 by_) (h5 : J8 x5 cx) (h6 : J8 x6 cy) (hU : J b1 y1 U) (hV : J b2 y2 V) (hW : J b3 y3 W) (wd : Prop) [Decidable wd] : ∃ t1, P_Mo_curve_72 x1 x2 x3 x4 x5 x6 y1 y2 y3 (bI wd) t u f g = P_Mo_curve_255 x1 x2 x3 x4 x5 x6 t1 u f g ∧ Tch ((¬ wd ∧ ay = by_ ∧ by_ = cy ∧ ax = 0 ∧ ay = 0) ∨ (¬ (¬ wd ∧ ay = by_ ∧ by_ = cy) ∧ (U = 0 ∧ V = 0 ∧ W = 0) ∧ ((wd ∧ zer ax bx cx) ∨ (¬ wd ∧ zer ay by_ cy)))) t t1 := by
  have key := c100 t u f g h1 h2 h3 h4 h5 h6 wd (U = 0 ∧ V = 0 ∧ W = 0)
  unfold P_Mo_curve_72 P_Mo_curve_99
  by_cases q : U = 0 ∧ V = 0 ∧ W = 0
  · rw [bI_1 q] at key
    rw [if_pos ((J_eq hU J0).mpr q.1), if_pos ((J_eq hV J0).mpr q.2.1), if_pos ((J_eq hW J0).mpr q.2.2)]
    exact key
  · rw [bI_0 q] at key
    by_cases q1 : U = 0
    · rw [if_pos ((J_eq hU J0).mpr q1)]
      by_cases q2 : V = 0
      · rw [if_pos ((J_eq hV J0).mpr q2), if_neg (fun z => q ⟨q1, q2, (J_eq hW J0).mp z⟩)]
        exact key
      · rw [if_neg (fun z => q2 ((J_eq hV J0).mp z))]
        exact key
    · rw [if_neg (fun z => q1 ((J_eq hU J0).mp z))]
      exact key
theorem sI_J (v : Int) : J 1 (sI v).toInt64 v.sign := by
  rcases sg_tri v with ⟨e, k⟩ | ⟨e, k⟩ | ⟨e, k⟩
  · rw [sI_p k, e]; exact ⟨by decide, by decide, by decide⟩
  · rw [k]; exact ⟨by decide, by decide, by decide⟩
  · rw [sI_n k, e]; exact ⟨by decide, by decide, by decide⟩
theorem cur_t (t u : Int32) (f g : Nat → Int64) {x1 x2 x3 x4 x5 x6 : Int64} {ax ay bx by_ cx cy : Int} (h1 : J8 x1 ax) (h2 : J8 x2 ay) (h3 : J8 x3 bx) (h4 : J8 x4 by_) (h5 : J8 x5 cx) (h6 : J8 x6 cy) : ∃ t1 n1 n2, P_Mo_curve t u f g x1 x2 x3 x4 x5 x6 = P_Mo_curve_255 x1 x2 x3 x4 x5 x6 t1 u n1 n2 ∧ Tch (mth ax ay bx by_ cx cy) t t1 := by
  have hU := J_sub (J_mul h3 h6 (by decide)) (J_mul h5 h4 (by decide)) (by decide)
  have hV := J_sub (J_mul h5 h2 (by decide)) (J_mul h1 h6 (by decide)) (by decide)
  have hW := J_sub (J_mul h1 h4 (by decide)) (J_mul h3 h2 (by decide)) (by decide)
  have hA := J_add (J_add hU hV (by decide)) hW (by decide)
  unfold P_Mo_curve mth
  by_cases q : (bx * cy - cx * by_) + (cx * ay - ax * cy) + (ax * by_ - bx * ay) = 0
  · rw [if_pos ((J_eq hA J0).mpr q)]
    have key := c72 t u f g h1 h2 h3 h4 h5 h6 hU hV hW (¬ (ax = bx ∧ bx = cx))
    have e : (((¬ ¬ (ax = bx ∧ bx = cx)) ∧ ay = by_ ∧ by_ = cy ∧ ax = 0 ∧ ay = 0) ∨ (¬ ((¬ ¬ (ax = bx ∧ bx = cx)) ∧ ay = by_ ∧ by_ = cy) ∧ (bx * cy - cx * by_ = 0 ∧ cx * ay - ax * cy = 0 ∧ ax * by_ - bx * ay = 0) ∧ (((¬ (ax = bx ∧ bx = cx)) ∧ zer ax bx cx) ∨ ((¬ ¬ (ax = bx ∧ bx = cx)) ∧ zer ay by_ cy)))) ↔ (((bx * cy - cx * by_) + (cx * ay - ax * cy) + (ax * by_ - bx * ay) = 0 ∧ ((ax = bx ∧ bx = cx ∧ ay = by_ ∧ by_ = cy ∧ ax = 0 ∧ ay = 0) ∨ (¬ (ax = bx ∧ bx = cx ∧ ay = by_ ∧ by_ = cy) ∧ (bx * cy - cx * by_ = 0 ∧ cx * ay - ax * cy = 0 ∧ ax * by_ - bx * ay = 0) ∧ ((¬ (ax = bx ∧ bx = cx) ∧ zer ax bx cx) ∨ ((ax = bx ∧ bx = cx) ∧ zer ay by_ cy))))) ∨ ((bx * cy - cx * by_) + (cx * ay - ax * cy) + (ax * by_ - bx * ay) ≠ 0 ∧ (0 ≤ ((bx * cy - cx * by_) + (cx * ay - ax * cy) + (ax * by_ - bx * ay)).sign * (bx * cy - cx * by_) ∧ 0 ≤ ((bx * cy - cx * by_) + (cx * ay - ax * cy) + (ax * by_ - bx * ay)).sign * (cx * ay - ax * cy) ∧ 0 ≤ ((bx * cy - cx * by_) + (cx * ay - ax * cy) + (ax * by_ - bx * ay)).sign * (ax * by_ - bx * ay)) ∧ (cx * ay - ax * cy) * (cx * ay - ax * cy) = 4 * ((bx * cy - cx * by_) * (ax * by_ - bx * ay)))) := by
      rw [Decidable.not_not]
      constructor
      · rintro (z | z)
        · exact Or.inl ⟨q, Or.inl ⟨z.1.1, z.1.2, z.2.1, z.2.2.1, z.2.2.2⟩⟩
        · exact Or.inl ⟨q, Or.inr ⟨fun y => z.1 ⟨⟨y.1, y.2.1⟩, y.2.2⟩, z.2⟩⟩
      · rintro (z | z)
        · rcases z.2 with y | y
          · exact Or.inl ⟨⟨y.1, y.2.1⟩, y.2.2⟩
          · exact Or.inr ⟨fun x => y.1 ⟨x.1.1, x.1.2, x.2⟩, y.2⟩
        · exact absurd q z.1
    obtain ⟨t1, k1, k2⟩ := key
    unfold P_Mo_curve_67
    by_cases q1 : ax = bx
    · rw [if_pos ((J_eq h1 h3).mpr q1)]
      by_cases q2 : bx = cx
      · rw [if_pos ((J_eq h3 h5).mpr q2)]
        rw [bI_0 (fun z => z ⟨q1, q2⟩)] at k1
        exact ⟨t1, f, g, k1, Tch_i k2 e⟩
      · rw [if_neg (fun z => q2 ((J_eq h3 h5).mp z))]
        rw [bI_1 (show ¬ (ax = bx ∧ bx = cx) from fun z => q2 z.2)] at k1
        exact ⟨t1, f, g, k1, Tch_i k2 e⟩
    · rw [if_neg (fun z => q1 ((J_eq h1 h3).mp z))]
      rw [bI_1 (show ¬ (ax = bx ∧ bx = cx) from fun z => q1 z.1)] at k1
      exact ⟨t1, f, g, k1, Tch_i k2 e⟩
  · rw [if_neg (fun z => q ((J_eq hA J0).mp z)), msign_J hA, some_bind]
    have hS := sI_J ((bx * cy - cx * by_) + (cx * ay - ax * cy) + (ax * by_ - bx * ay))
    generalize hs : ((bx * cy - cx * by_) + (cx * ay - ax * cy) + (ax * by_ - bx * ay)).sign = s at *
    have ss : s * s = 1 := by
      rw [← hs]
      rcases sg_tri ((bx * cy - cx * by_) + (cx * ay - ax * cy) + (ax * by_ - bx * ay)) with ⟨e, k⟩ | ⟨e, k⟩ | ⟨e, k⟩
      · rw [e]; rfl
      · exact absurd k q
      · rw [e]; rfl
    have sU := J_mul hS hU (by decide)
    have sV := J_mul hS hV (by decide)
    have sW := J_mul hS hW (by decide)
    by_cases q1 : s * (bx * cy - cx * by_) < 0
    · rw [if_pos ((J_lt sU J0).mpr q1)]
      exact ⟨t, f, g, rfl, fun z => z.elim (fun z => absurd z.1 q) (fun z => by have := z.2.1.1; omega), fun _ => rfl⟩
    rw [if_neg (fun z => q1 ((J_lt sU J0).mp z))]
    by_cases q2 : s * (cx * ay - ax * cy) < 0
    · rw [if_pos ((J_lt sV J0).mpr q2)]
      exact ⟨t, f, g, rfl, fun z => z.elim (fun z => absurd z.1 q) (fun z => by have := z.2.1.2.1; omega), fun _ => rfl⟩
    rw [if_neg (fun z => q2 ((J_lt sV J0).mp z))]
    by_cases q3 : s * (ax * by_ - bx * ay) < 0
    · rw [if_pos ((J_lt sW J0).mpr q3)]
      exact ⟨t, f, g, rfl, fun z => z.elim (fun z => absurd z.1 q) (fun z => by have := z.2.1.2.2; omega), fun _ => rfl⟩
    rw [if_neg (fun z => q3 ((J_lt sW J0).mp z))]
    obtain ⟨r, n1, n2, k1, k2, k3⟩ := thr_v f g (A := (s * (bx * cy - cx * by_)).toNat) (B := (s * (cx * ay - ax * cy)).toNat) (C := (s * (ax * by_ - bx * ay)).toNat) (sU.1.trans (by omega)) (sV.1.trans (by omega)) (sW.1.trans (by omega))
    rw [Int.toNat_of_nonneg (by omega), Int.toNat_of_nonneg (by omega), Int.toNat_of_nonneg (by omega)] at k3
    have i1 : s * (cx * ay - ax * cy) * (s * (cx * ay - ax * cy)) = s * s * ((cx * ay - ax * cy) * (cx * ay - ax * cy)) := by grind
    have i2 : s * (bx * cy - cx * by_) * (s * (ax * by_ - bx * ay)) = s * s * ((bx * cy - cx * by_) * (ax * by_ - bx * ay)) := by grind
    rw [i1, i2, ss, Int.one_mul, Int.one_mul] at k3
    rw [k1, some_bind]
    simp only [unp]
    by_cases q4 : r = 0
    · rw [if_pos q4]
      refine ⟨t, n1, n2, rfl, fun z => z.elim (fun z => absurd z.1 q) (fun z => ?_), fun _ => rfl⟩
      have := k3.mpr z.2.2
      rw [q4] at this
      exact absurd this (by decide)
    · rw [if_neg q4]
      exact ⟨1, n1, n2, rfl, fun _ => rfl, fun z => absurd (Or.inr ⟨q, ⟨by omega, by omega, by omega⟩, k3.mp (k2.resolve_left q4)⟩) z⟩
theorem cur_v {t : Int32} (ht : t = 0 ∨ t = 1) (T : Int) (f g : Nat → Int64) {x1 x2 x3 x4 x5 x6 : Int64} {ax ay bx by_ cx cy : Int} (h1 : J8 x1 ax) (h2 : J8 x2 ay) (h3 : J8 x3 bx) (h4 : J8 x4 by_) (h5 : J8 x5 cx) (h6 : J8 x6 cy) : ∃ t' v n1 n2, P_Mo_curve t (tI T) f g x1 x2 x3 x4 x5 x6 = some (t', v, n1, n2) ∧ ((t = 1 ∨ mth ax ay bx by_ cx cy) → t' = 1) ∧ (t = 0 → ¬ mth ax ay bx by_ cx cy → t' = 0 ∧ v = tI (T + mtn (ax - 2 * bx + cx) (2 * (bx - ax)) ax (ay - 2 * by_ + cy) (2 * (by_ - ay)) ay)) := by
  obtain ⟨t1, n1, n2, e1, k1, k2⟩ := cur_t t (tI T) f g h1 h2 h3 h4 h5 h6
  rw [e1]
  by_cases hm : t = 1 ∨ mth ax ay bx by_ cx cy
  · have ht1 : t1 = 1 := by
      by_cases w : mth ax ay bx by_ cx cy
      · exact k1 w
      · rw [k2 w]; exact hm.resolve_right w
    rw [ht1]
    unfold P_Mo_curve_255
    rw [if_neg (by decide)]
    exact ⟨_, _, _, _, rfl, fun _ => rfl, fun w1 w2 => absurd hm (fun z => z.elim (fun z => by rw [w1] at z; exact absurd z (by decide)) w2)⟩
  · have w : ¬ mth ax ay bx by_ cx cy := fun z => hm (Or.inr z)
    have t0 : t = 0 := ht.resolve_right (fun z => hm (Or.inl z))
    rw [k2 w, t0]
    obtain ⟨m1, m2, e2⟩ := c255 n1 n2 h1 h2 h3 h4 h5 h6 T w
    rw [e2]
    exact ⟨_, _, _, _, rfl, fun z => absurd z (by rw [← t0]; exact hm), fun _ _ => ⟨rfl, rfl⟩⟩
def lth (ax ay cx cy : Int) : Prop := ax * cy - cx * ay = 0 ∧ ax * cx + ay * cy ≤ 0
theorem lin_z {ax ay cx cy : Int} (h : 0 ≤ ay ∧ cy < 0 ∨ ay < 0 ∧ 0 ≤ cy) (hc : ax * cy - cx * ay = 0) : ax * cx + ay * cy ≤ 0 := by
  have hn := z_np h
  rcases Int.lt_or_le 0 (ax * cx) with w | w
  · exfalso
    have i1 : ax * cx * (ay * cy) = (ax * cy) * (cx * ay) := by grind
    have i2 : ax * cy = cx * ay := by omega
    rw [i2] at i1
    have i3 := z_sq (cx * ay)
    rw [← i1] at i3
    have hz : ay * cy = 0 := by
      rcases Int.lt_or_le (ay * cy) 0 with z | z
      · have := Int.mul_neg_of_pos_of_neg w z; omega
      · omega
    have hx : ax ≠ 0 ∧ cx ≠ 0 := ⟨fun z => by rw [z, Int.zero_mul] at w; omega, fun z => by rw [z, Int.mul_zero] at w; omega⟩
    rcases Int.mul_eq_zero.mp hz with z | z
    · rw [z, Int.mul_zero] at i2
      rcases Int.mul_eq_zero.mp i2 with y | y
      · exact hx.1 y
      · omega
    · rw [z, Int.mul_zero] at i2
      rcases Int.mul_eq_zero.mp i2.symm with y | y
      · exact hx.2 y
      · omega
  · omega
theorem mtn_l (ax ay cx cy : Int) : mtn 0 (cx - ax) ax 0 (cy - ay) ay = if 0 ≤ ay ∧ cy < 0 then - one (decide (0 < (cy - ay).sign * (ax * cy - cx * ay).sign)) else if ay < 0 ∧ 0 ≤ cy then one (decide (0 < (cy - ay).sign * (ax * cy - cx * ay).sign)) else 0 := by
  have e : ax * (cy - ay) - (cx - ax) * ay = ax * cy - cx * ay := by grind
  unfold mtn
  rw [sd_line, sd_line, e]
  rw [show ay + (cy - ay) + 0 = cy by omega]
  by_cases q1 : 0 ≤ ay ∧ cy < 0
  · rw [if_pos q1, if_pos q1]
  rw [if_neg q1, if_neg q1]
  by_cases q2 : ay < 0 ∧ 0 ≤ cy
  · rw [if_pos q2, if_pos q2]
  · rw [if_neg q2, if_neg q2, if_neg (by omega)]
theorem lin_v {t : Int32} (ht : t = 0 ∨ t = 1) (T : Int) {x1 x2 x3 x4 : Int64} {ax ay cx cy : Int} (h1 : J8 x1 ax) (h2 : J8 x2 ay) (h3 : J8 x3 cx) (h4 : J8 x4 cy) : ∃ t' v, P_Mo_line_JJJJV t (tI T) x1 x2 x3 x4 = some (t', v) ∧ ((t = 1 ∨ lth ax ay cx cy) → t' = 1) ∧ (t = 0 → ¬ lth ax ay cx cy → t' = 0 ∧ v = tI (T + mtn 0 (cx - ax) ax 0 (cy - ay) ay)) := by
  have hc := J_sub (J_mul h1 h4 (by decide)) (J_mul h3 h2 (by decide)) (by decide)
  have hd := J_add (J_mul h1 h3 (by decide)) (J_mul h2 h4 (by decide)) (by decide)
  have e0 : ∃ t1, P_Mo_line_JJJJV t (tI T) x1 x2 x3 x4 = P_Mo_line_JJJJV_37 x2 x4 (x1 * x4 - x3 * x2) t1 (tI T) ∧ Tch (lth ax ay cx cy) t t1 := by
    unfold P_Mo_line_JJJJV
    by_cases q1 : ax * cy - cx * ay = 0
    · rw [if_pos ((J_eq hc J0).mpr q1)]
      by_cases q2 : 0 < ax * cx + ay * cy
      · rw [if_pos ((J_gt hd J0).mpr q2)]
        exact ⟨t, rfl, fun z => by have := z.2; omega, fun _ => rfl⟩
      · rw [if_neg (fun z => q2 ((J_gt hd J0).mp z))]
        exact ⟨1, rfl, fun _ => rfl, fun z => absurd ⟨q1, by omega⟩ z⟩
    · rw [if_neg (fun z => q1 ((J_eq hc J0).mp z))]
      exact ⟨t, rfl, fun z => absurd z.1 q1, fun _ => rfl⟩
  obtain ⟨t1, e1, k1, k2⟩ := e0
  have ht1 : t1 = 0 ∨ t1 = 1 := by
    by_cases w : lth ax ay cx cy
    · exact Or.inr (k1 w)
    · rw [k2 w]; exact ht
  rw [e1]
  have hs := J_sub h4 h2 (by decide)
  have eu : sI (ax * cy - cx * ay) * sI (cy - ay) = sI ((cy - ay).sign * (ax * cy - cx * ay).sign) := by
    rw [← sI_mul, sI_sg, sI_sg, Int32.mul_comm]
  have main : ∃ v, P_Mo_line_JJJJV_37 x2 x4 (x1 * x4 - x3 * x2) t1 (tI T) = some (t1, v) ∧ (¬ lth ax ay cx cy → v = tI (T + mtn 0 (cx - ax) ax 0 (cy - ay) ay)) := by
    rw [mtn_l]
    unfold P_Mo_line_JJJJV_37 P_Mo_line_JJJJV_48 P_Mo_line_JJJJV_60 P_Mo_line_JJJJV_75 P_Mo_line_JJJJV_87
    have hu : (0 ≤ ay ∧ cy < 0 ∨ ay < 0 ∧ 0 ≤ cy) → ¬ lth ax ay cx cy → (cy - ay).sign * (ax * cy - cx * ay).sign ≠ 0 := by
      intro hh hl hz
      rcases Int.mul_eq_zero.mp hz with y | y
      · have := sg_z y; omega
      · have := sg_z y
        exact hl ⟨this, lin_z hh this⟩
    have cz : ∀ (a b : Int32), (a = 1 ∧ b = 0 ∨ a = 0 ∧ b = 1) → lth ax ay cx cy → ∃ v, P_Mo_cross t1 (tI T) a b (sI ((cy - ay).sign * (ax * cy - cx * ay).sign)) = some (t1, v) := by
      intro a b _ hl
      have hz : (ax * cy - cx * ay).sign = 0 := by rw [hl.1]; rfl
      rw [hz, Int.mul_zero, sI_0, k1 hl]
      unfold P_Mo_cross P_Mo_cross_9
      rw [if_pos rfl, if_pos (by decide)]
      exact ⟨_, rfl⟩
    by_cases q1 : ay < 0 <;> by_cases q2 : cy < 0
    · rw [if_pos ((J_lt h2 J0).mpr q1), if_pos ((J_lt h4 J0).mpr q2), if_pos rfl, if_neg (by omega), if_neg (by omega), Int.add_zero]
      exact ⟨_, rfl, fun _ => rfl⟩
    · rw [if_pos ((J_lt h2 J0).mpr q1), if_neg (fun z => q2 ((J_lt h4 J0).mp z)), if_neg (by decide), if_pos ((J_lt h2 J0).mpr q1), if_neg (fun z => q2 ((J_lt h4 J0).mp z)), if_neg (show ¬ (0 ≤ ay ∧ cy < 0) by omega), if_pos (show ay < 0 ∧ 0 ≤ cy by omega), msign_J hc, some_bind, msign_J hs, some_bind, eu]
      by_cases w : lth ax ay cx cy
      · obtain ⟨v, e⟩ := cz 0 1 (Or.inr ⟨rfl, rfl⟩) w
        rw [e, some_bind]
        exact ⟨_, rfl, fun z => absurd w z⟩
      · rw [mcr_d t1 T _ (hu (Or.inr ⟨q1, by omega⟩) w), some_bind]
        exact ⟨_, rfl, fun _ => rfl⟩
    · rw [if_neg (fun z => q1 ((J_lt h2 J0).mp z)), if_pos ((J_lt h4 J0).mpr q2), if_neg (by decide), if_neg (fun z => q1 ((J_lt h2 J0).mp z)), if_pos ((J_lt h4 J0).mpr q2), if_pos (show 0 ≤ ay ∧ cy < 0 by omega), msign_J hc, some_bind, msign_J hs, some_bind, eu]
      by_cases w : lth ax ay cx cy
      · obtain ⟨v, e⟩ := cz 1 0 (Or.inl ⟨rfl, rfl⟩) w
        rw [e, some_bind]
        exact ⟨_, rfl, fun z => absurd w z⟩
      · rw [mcr_u t1 T _ (hu (Or.inl ⟨by omega, q2⟩) w), some_bind]
        exact ⟨_, rfl, fun _ => rfl⟩
    · rw [if_neg (fun z => q1 ((J_lt h2 J0).mp z)), if_neg (fun z => q2 ((J_lt h4 J0).mp z)), if_pos rfl, if_neg (by omega), if_neg (by omega), Int.add_zero]
      exact ⟨_, rfl, fun _ => rfl⟩
  obtain ⟨v, e2, k3⟩ := main
  refine ⟨t1, v, e2, fun z => ?_, fun z1 z2 => ⟨by rw [k2 z2]; exact z1, k3 z2⟩⟩
  rcases z with z | z
  · by_cases w : lth ax ay cx cy
    · exact k1 w
    · rw [k2 w]; exact z
  · exact k1 z
