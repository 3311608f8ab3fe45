/-! PURE ROWS: the class's curves as a list of pieces (printed by wip/whole/gen/trace.py) -/
def n20 (v : Int) : Prop := -20000 ≤ v ∧ v ≤ 20000
def Val (p : Pc) (v1 v2 v3 v4 v5 v6 v7 v8 v9 v10 : Int32) : Prop := PcB p ∧ v1.toInt = p.1 ∧ v2.toInt = p.2.1 ∧ (v3.toInt = min p.2.2.1 (min p.1 p.2.2.2.2.1) ∧ v4.toInt = max p.2.2.1 (max p.1 p.2.2.2.2.1) ∧ v5.toInt = min p.2.2.2.1 (min p.2.1 p.2.2.2.2.2) ∧ v6.toInt = max p.2.2.2.1 (max p.2.1 p.2.2.2.2.2)) ∧ v7.toInt = slx p ∧ v8.toInt = sly p ∧ v9.toInt = sqx p ∧ v10.toInt = sqy p
def AtA (L : List Pc) (sx : Nat → Int32) (sy : Nat → Int32) (le : Nat → Int32) (ri : Nat → Int32) (tp : Nat → Int32) (bo : Nat → Int32) (lx : Nat → Int32) (ly : Nat → Int32) (qx : Nat → Int32) (qy : Nat → Int32) : Prop := ∀ i p, L[i]? = some p → Val p (sx i) (sy i) (le i) (ri i) (tp i) (bo i) (lx i) (ly i) (qx i) (qy i)
theorem AtA_K {L : List Pc} {sx sy le ri tp bo lx ly qx qy : Nat → Int32} (h : AtA L sx sy le ri tp bo lx ly qx qy) : AtR L 0 sx sy lx ly qx qy := fun i p hp => by
  obtain ⟨h1, h2, h3, _, h4, h5, h6, h7⟩ := h i p hp
  rw [Nat.zero_add]
  exact ⟨h1, h2, h3, h4, h5, h6, h7⟩
theorem AtA_1 {L : List Pc} {sx sy le ri tp bo lx ly qx qy : Nat → Int32} (h : AtA L sx sy le ri tp bo lx ly qx qy) {p : Pc} {v1 v2 v3 v4 v5 v6 v7 v8 v9 v10 : Int32} (hv : Val p v1 v2 v3 v4 v5 v6 v7 v8 v9 v10) : AtA (L ++ [p]) (upd sx L.length v1) (upd sy L.length v2) (upd le L.length v3) (upd ri L.length v4) (upd tp L.length v5) (upd bo L.length v6) (upd lx L.length v7) (upd ly L.length v8) (upd qx L.length v9) (upd qy L.length v10) := by
  intro i q hq
  rcases Nat.lt_trichotomy i L.length with w | w | w
  · rw [List.getElem?_append_left w] at hq
    have := h i q hq
    simp only [pk_un (show i ≠ L.length by omega)]
    exact this
  · subst w
    rw [List.getElem?_append_right (Nat.le_refl _), Nat.sub_self] at hq
    cases hq
    simp only [pk_us]
    exact hv
  · rw [List.getElem?_append_right (by omega), List.getElem?_eq_none (by show 1 ≤ i - L.length; omega)] at hq
    cases hq
theorem jmin_v (a b : Int32) : ∃ r, P_Jm_min a b = some r ∧ r.toInt = min a.toInt b.toInt := by
  unfold P_Jm_min
  by_cases q : b < a
  · rw [if_pos q]; have := Int32.lt_iff_toInt_lt.mp q; exact ⟨_, rfl, by omega⟩
  · rw [if_neg q]; have : ¬ b.toInt < a.toInt := fun w => q (Int32.lt_iff_toInt_lt.mpr w); exact ⟨_, rfl, by omega⟩
theorem jmax_v (a b : Int32) : ∃ r, P_Jm_max a b = some r ∧ r.toInt = max a.toInt b.toInt := by
  unfold P_Jm_max
  by_cases q : a < b
  · rw [if_pos q]; have := Int32.lt_iff_toInt_lt.mp q; exact ⟨_, rfl, by omega⟩
  · rw [if_neg q]; have : ¬ a.toInt < b.toInt := fun w => q (Int32.lt_iff_toInt_lt.mpr w); exact ⟨_, rfl, by omega⟩
theorem box_v {p : Pc} {n : Nat} (hn : n < 256) {sx sy le ri tp bo lx ly qx qy : Nat → Int32} (h : CvK p n sx sy lx ly qx qy) (a1 a2 : Int32) : ∃ r1 r2 r3 r4, P_Cv_addBox (nI n) sx sy le ri tp bo lx ly qx qy a1 a2 = some (nI (n + 1), upd le n r1, upd ri n r2, upd tp n r3, upd bo n r4) ∧ r1.toInt = min a1.toInt (min p.1 p.2.2.2.2.1) ∧ r2.toInt = max a1.toInt (max p.1 p.2.2.2.2.1) ∧ r3.toInt = min a2.toInt (min p.2.1 p.2.2.2.2.2) ∧ r4.toInt = max a2.toInt (max p.2.1 p.2.2.2.2.2) := by
  obtain ⟨⟨b1, b2, b3, b4, b5, b6⟩, e1, e2, e3, e4, e5, e6⟩ := h
  unfold P_Cv_addBox P_Cv_addBox_34 P_Cv_addBox_56
  simp only [bdI hn (show 256 < 2 ^ 31 by omega), nI_clamp (show n < 2 ^ 31 by omega), nI_1]
  have s1 : (sx n + lx n + qx n).toInt = p.2.2.2.2.1 := by
    unfold n40 slx sqx at *
    rw [it_add, it_add] <;> (try rw [it_add]) <;> omega
  have s2 : (sy n + ly n + qy n).toInt = p.2.2.2.2.2 := by
    unfold n40 sly sqy at *
    rw [it_add, it_add] <;> (try rw [it_add]) <;> omega
  obtain ⟨u1, k1, j1⟩ := jmin_v (sx n) (sx n + lx n + qx n)
  obtain ⟨u2, k2, j2⟩ := jmin_v a1 u1
  obtain ⟨u3, k3, j3⟩ := jmax_v (sx n) (sx n + lx n + qx n)
  obtain ⟨u4, k4, j4⟩ := jmax_v a1 u3
  obtain ⟨u5, k5, j5⟩ := jmin_v (sy n) (sy n + ly n + qy n)
  obtain ⟨u6, k6, j6⟩ := jmin_v a2 u5
  obtain ⟨u7, k7, j7⟩ := jmax_v (sy n) (sy n + ly n + qy n)
  obtain ⟨u8, k8, j8⟩ := jmax_v a2 u7
  simp only [k1, k2, k3, k4, k5, k6, k7, k8, some_bind]
  rw [s1, e1] at j1 j3
  rw [s2, e2] at j5 j7
  rw [j1] at j2
  rw [j3] at j4
  rw [j5] at j6
  rw [j7] at j8
  exact ⟨u2, u4, u6, u8, rfl, j2, j4, j6, j8⟩
def Plc (x y : Nat → Int) (px py : Nat → Int32) (M : Nat) : Prop := ∀ i, i < M → (px i).toInt = x i ∧ (py i).toInt = y i ∧ n20 (x i) ∧ n20 (y i)
def lnP (x y : Nat → Int) (i a : Nat) : Pc := (2 * x i, 2 * y i, x i + x a, y i + y a, 2 * x a, 2 * y a)
def cvP (x y : Nat → Int) (on : Nat → Int32) (b i a : Nat) : Pc := (if on b = 0 then x i + x b else 2 * x b, if on b = 0 then y i + y b else 2 * y b, 2 * x i, 2 * y i, if on a = 0 then x i + x a else 2 * x a, if on a = 0 then y i + y a else 2 * y a)
theorem lnP_B {x y : Nat → Int} {i a : Nat} (h1 : n20 (x i)) (h2 : n20 (y i)) (h3 : n20 (x a)) (h4 : n20 (y a)) : PcB (lnP x y i a) := by
  unfold PcB lnP n40
  unfold n20 at *
  dsimp only
  omega
theorem cvP_B {x y : Nat → Int} {on : Nat → Int32} {b i a : Nat} (h1 : n20 (x i)) (h2 : n20 (y i)) (h3 : n20 (x a)) (h4 : n20 (y a)) (h5 : n20 (x b)) (h6 : n20 (y b)) : PcB (cvP x y on b i a) := by
  unfold PcB cvP n40
  unfold n20 at *
  dsimp only
  refine ⟨?_, ?_, ?_, ?_, ?_, ?_⟩ <;> (try split) <;> omega
theorem i2_mul {v : Int32} {x : Int} (h : v.toInt = x) (b : -1000000 ≤ x ∧ x ≤ 1000000) : ((2 : Int32) * v).toInt = 2 * x := by
  rw [it_mul (by rw [show (2 : Int32).toInt = 2 from rfl]; omega), h]; rfl
theorem addLine_v {x y : Nat → Int} {px py : Nat → Int32} {M n i a : Nat} (hP : Plc x y px py M) (hM : M ≤ 256) (hn : n < 256) (hi : i < M) (ha : a < M) (sx : Nat → Int32) (sy : Nat → Int32) (le : Nat → Int32) (ri : Nat → Int32) (tp : Nat → Int32) (bo : Nat → Int32) (lx : Nat → Int32) (ly : Nat → Int32) (qx : Nat → Int32) (qy : Nat → Int32) : ∃ v1 v2 v3 v4 v5 v6 v7 v8 v9 v10, P_Cv_addLine (nI n) sx sy le ri tp bo lx ly qx qy px py (nI i) (nI a) = some (nI (n + 1), upd sx n v1, upd sy n v2, upd le n v3, upd ri n v4, upd tp n v5, upd bo n v6, upd lx n v7, upd ly n v8, upd qx n v9, upd qy n v10) ∧ Val (lnP x y i a) v1 v2 v3 v4 v5 v6 v7 v8 v9 v10 := by
  obtain ⟨i1, i2, i3, i4⟩ := hP i hi
  obtain ⟨a1, a2, a3, a4⟩ := hP a ha
  have hi' : i < 256 := by omega
  have ha' : a < 256 := by omega
  unfold P_Cv_addLine
  simp only [bdI hn (show 256 < 2 ^ 31 by omega), bdI hi' (show 256 < 2 ^ 31 by omega), bdI ha' (show 256 < 2 ^ 31 by omega), nI_clamp (show n < 2 ^ 31 by omega), nI_clamp (show i < 2 ^ 31 by omega), nI_clamp (show a < 2 ^ 31 by omega), pk_us]
  have hB := lnP_B i3 i4 a3 a4
  unfold n20 at i3 i4 a3 a4
  have w1 := i2_mul i1 (by omega)
  have w2 := i2_mul i2 (by omega)
  have w3 := i2_mul (v := px a - px i) (x := x a - x i) (by rw [it_sub (by omega), i1, a1]) (by omega)
  have w4 := i2_mul (v := py a - py i) (x := y a - y i) (by rw [it_sub (by omega), i2, a2]) (by omega)
  have hK : CvK (lnP x y i a) n (upd sx n (2 * px i)) (upd sy n (2 * py i)) (upd lx n (2 * (px a - px i))) (upd ly n (2 * (py a - py i))) (upd qx n 0) (upd qy n 0) := by
    refine ⟨hB, ?_, ?_, ?_, ?_, ?_, ?_⟩
    · rw [pk_us]; exact w1
    · rw [pk_us]; exact w2
    · rw [pk_us, w3]; unfold slx lnP; dsimp only; omega
    · rw [pk_us, w4]; unfold sly lnP; dsimp only; omega
    · rw [pk_us]; show (0 : Int) = _; unfold sqx lnP; dsimp only; omega
    · rw [pk_us]; show (0 : Int) = _; unfold sqy lnP; dsimp only; omega
  obtain ⟨r1, r2, r3, r4, e, k1, k2, k3, k4⟩ := box_v hn hK (le := le) (ri := ri) (tp := tp) (bo := bo) (2 * px i) (2 * py i)
  rw [e, some_bind]
  simp only [unp]
  refine ⟨2 * px i, 2 * py i, r1, r2, r3, r4, 2 * (px a - px i), 2 * (py a - py i), 0, 0, rfl, hB, w1, w2, ⟨?_, ?_, ?_, ?_⟩, ?_, ?_, ?_, ?_⟩
  · rw [k1, w1]; unfold lnP; dsimp only; omega
  · rw [k2, w1]; unfold lnP; dsimp only; omega
  · rw [k3, w2]; unfold lnP; dsimp only; omega
  · rw [k4, w2]; unfold lnP; dsimp only; omega
  · rw [w3]; unfold slx lnP; dsimp only; omega
  · rw [w4]; unfold sly lnP; dsimp only; omega
  · show (0 : Int) = _; unfold sqx lnP; dsimp only; omega
  · show (0 : Int) = _; unfold sqy lnP; dsimp only; omega
theorem bend1 {px : Nat → Int32} {x : Nat → Int} {on : Nat → Int32} {b i f : Nat} (hf : f = if on b = 0 then i else b) (h1 : (px b).toInt = x b) (h2 : (px i).toInt = x i) (h3 : n20 (x b)) (h4 : n20 (x i)) : (px f + px b).toInt = if on b = 0 then x i + x b else 2 * x b := by
  unfold n20 at *
  subst hf
  split
  · rw [it_add (by omega), h1, h2]
  · rw [it_add (by omega), h1]; omega
theorem addBend_v {x y : Nat → Int} {px py on : Nat → Int32} {M n i a b f g : Nat} (hP : Plc x y px py M) (hM : M ≤ 256) (hn : n < 256) (hi : i < M) (ha : a < M) (hb : b < M) (hf : f = if on b = 0 then i else b) (hg : g = if on a = 0 then i else a) (sx : Nat → Int32) (sy : Nat → Int32) (le : Nat → Int32) (ri : Nat → Int32) (tp : Nat → Int32) (bo : Nat → Int32) (lx : Nat → Int32) (ly : Nat → Int32) (qx : Nat → Int32) (qy : Nat → Int32) : ∃ v1 v2 v3 v4 v5 v6 v7 v8 v9 v10, P_Cv_addBend (nI n) sx sy le ri tp bo lx ly qx qy px py (nI i) (nI f) (nI b) (nI g) (nI a) = some (nI (n + 1), upd sx n v1, upd sy n v2, upd le n v3, upd ri n v4, upd tp n v5, upd bo n v6, upd lx n v7, upd ly n v8, upd qx n v9, upd qy n v10) ∧ Val (cvP x y on b i a) v1 v2 v3 v4 v5 v6 v7 v8 v9 v10 := by
  obtain ⟨i1, i2, i3, i4⟩ := hP i hi
  obtain ⟨a1, a2, a3, a4⟩ := hP a ha
  obtain ⟨b1, b2, b3, b4⟩ := hP b hb
  have hi' : i < 256 := by omega
  have ha' : a < 256 := by omega
  have hb' : b < 256 := by omega
  have hf' : f < 256 := by rw [hf]; split <;> omega
  have hg' : g < 256 := by rw [hg]; split <;> omega
  unfold P_Cv_addBend
  simp only [bdI hn (show 256 < 2 ^ 31 by omega), bdI hi' (show 256 < 2 ^ 31 by omega), bdI ha' (show 256 < 2 ^ 31 by omega), bdI hb' (show 256 < 2 ^ 31 by omega), bdI hf' (show 256 < 2 ^ 31 by omega), bdI hg' (show 256 < 2 ^ 31 by omega), nI_clamp (show n < 2 ^ 31 by omega), nI_clamp (show i < 2 ^ 31 by omega), nI_clamp (show a < 2 ^ 31 by omega), nI_clamp (show b < 2 ^ 31 by omega), nI_clamp (show f < 2 ^ 31 by omega), nI_clamp (show g < 2 ^ 31 by omega), pk_us]
  have hB := cvP_B (on := on) i3 i4 a3 a4 b3 b4
  have s1 := bend1 hf b1 i1 b3 i3
  have s2 := bend1 hf b2 i2 b4 i4
  have g1 := bend1 hg a1 i1 a3 i3
  have g2 := bend1 hg a2 i2 a4 i4
  have w1 := i2_mul i1 (by unfold n20 at i3; omega)
  have w2 := i2_mul i2 (by unfold n20 at i4; omega)
  obtain ⟨c1, c2, c3, c4, c5, c6⟩ := hB
  unfold n40 at c1 c2 c3 c4 c5 c6
  have z1 : (px f + px b).toInt = (cvP x y on b i a).1 := s1
  have z2 : (py f + py b).toInt = (cvP x y on b i a).2.1 := s2
  have z3 : (px g + px a).toInt = (cvP x y on b i a).2.2.2.2.1 := g1
  have z4 : (py g + py a).toInt = (cvP x y on b i a).2.2.2.2.2 := g2
  have z5 : ((2 : Int32) * px i).toInt = (cvP x y on b i a).2.2.1 := w1
  have z6 : ((2 : Int32) * py i).toInt = (cvP x y on b i a).2.2.2.1 := w2
  generalize hp : cvP x y on b i a = p at *
  have w3 := i2_mul (v := 2 * px i - (px f + px b)) (x := p.2.2.1 - p.1) (by rw [it_sub (by omega), z5, z1]) (by omega)
  have w4 := i2_mul (v := 2 * py i - (py f + py b)) (x := p.2.2.2.1 - p.2.1) (by rw [it_sub (by omega), z6, z2]) (by omega)
  have o1 := i2_mul z5 (by omega)
  have o2 := i2_mul z6 (by omega)
  have d1 : (px f + px b - 2 * (2 * px i)).toInt = p.1 - 2 * p.2.2.1 := by rw [it_sub (by omega), z1, o1]
  have d2 : (py f + py b - 2 * (2 * py i)).toInt = p.2.1 - 2 * p.2.2.2.1 := by rw [it_sub (by omega), z2, o2]
  have w5 : (px f + px b - 2 * (2 * px i) + px g + px a).toInt = sqx p := by
    rw [Int32.add_assoc, it_add (by omega), d1, z3]; rfl
  have w6 : (py f + py b - 2 * (2 * py i) + py g + py a).toInt = sqy p := by
    rw [Int32.add_assoc, it_add (by omega), d2, z4]; rfl
  have hK : CvK p n (upd sx n (px f + px b)) (upd sy n (py f + py b)) (upd lx n (2 * (2 * px i - (px f + px b)))) (upd ly n (2 * (2 * py i - (py f + py b)))) (upd qx n (px f + px b - 2 * (2 * px i) + px g + px a)) (upd qy n (py f + py b - 2 * (2 * py i) + py g + py a)) := by
    refine ⟨⟨c1, c2, c3, c4, c5, c6⟩, ?_, ?_, ?_, ?_, ?_, ?_⟩ <;> rw [pk_us]
    · exact z1
    · exact z2
    · exact w3
    · exact w4
    · exact w5
    · exact w6
  obtain ⟨r1, r2, r3, r4, e, k1, k2, k3, k4⟩ := box_v hn hK (le := le) (ri := ri) (tp := tp) (bo := bo) (2 * px i) (2 * py i)
  rw [e, some_bind]
  simp only [unp]
  rw [z5] at k1 k2
  rw [z6] at k3 k4
  exact ⟨_, _, r1, r2, r3, r4, _, _, _, _, rfl, ⟨c1, c2, c3, c4, c5, c6⟩, z1, z2, ⟨k1, k2, k3, k4⟩, w3, w4, w5, w6⟩
def bef (f l i : Nat) : Nat := if i = f then l else i - 1
def aft (f l i : Nat) : Nat := if i = l then f else i + 1
def pcl (x y : Nat → Int) (on : Nat → Int32) (f l i : Nat) : List Pc := if f = l ∨ (¬ on i = 0 ∧ ¬ on (aft f l i) = 0) then [lnP x y i (aft f l i)] else if on i = 0 then [cvP x y on (bef f l i) i (aft f l i)] else []
def cl (x y : Nat → Int) (on : Nat → Int32) (f l : Nat) : Nat → List Pc
  | 0 => []
  | d + 1 => cl x y on f l d ++ pcl x y on f l (f + d)
theorem pcl_1 (x y : Nat → Int) (on : Nat → Int32) (f l i : Nat) : (pcl x y on f l i).length ≤ 1 := by
  unfold pcl
  split
  · exact Nat.le_refl 1
  split
  · exact Nat.le_refl 1
  · exact Nat.zero_le 1
theorem cl_le (x y : Nat → Int) (on : Nat → Int32) (f l d : Nat) : (cl x y on f l d).length ≤ d := by
  induction d with
  | zero => exact Nat.le_refl 0
  | succ d ih =>
    show (cl x y on f l d ++ pcl x y on f l (f + d)).length ≤ d + 1
    rw [List.length_append]
    have := pcl_1 x y on f l (f + d)
    omega
theorem con_s {x y : Nat → Int} {px py on : Nat → Int32} {M f l i : Nat} (hP : Plc x y px py M) (hM : M ≤ 256) (hi : f ≤ i ∧ i ≤ l) (hl : l < M) (L : List Pc) (hL : L.length < 256) (sx : Nat → Int32) (sy : Nat → Int32) (le : Nat → Int32) (ri : Nat → Int32) (tp : Nat → Int32) (bo : Nat → Int32) (lx : Nat → Int32) (ly : Nat → Int32) (qx : Nat → Int32) (qy : Nat → Int32) (hA : AtA L sx sy le ri tp bo lx ly qx qy) z : ∃ c w1 w2 w3 w4 w5 w6 w7 w8 w9 w10, P_Cv_addContour_3b px py on z (nI f) (nI l) (nI i) (nI L.length) sx sy le ri tp bo lx ly qx qy = z (nI f, nI l, nI (i + 1), nI c, w1, w2, w3, w4, w5, w6, w7, w8, w9, w10) ∧ c = (L ++ pcl x y on f l i).length ∧ AtA (L ++ pcl x y on f l i) w1 w2 w3 w4 w5 w6 w7 w8 w9 w10 := by
  have hbM : bef f l i < M := by unfold bef; split <;> omega
  have haM : aft f l i < M := by unfold aft; split <;> omega
  have hi' : i < 256 := by omega
  have hb' : bef f l i < 256 := by omega
  have ha' : aft f l i < 256 := by omega
  have e0 : P_Cv_addContour_3b px py on z (nI f) (nI l) (nI i) (nI L.length) sx sy le ri tp bo lx ly qx qy = P_Cv_addContour_39 px py on z (nI f) (nI l) (nI i) (nI (bef f l i)) (nI (aft f l i)) (nI L.length) sx sy le ri tp bo lx ly qx qy := by
    unfold P_Cv_addContour_3b P_Cv_addContour_23 bef aft
    rw [if_neg (nI_nlt (by omega) (by omega))]
    have q1 : nI i = nI f ↔ i = f := nI_eq (by omega) (by omega)
    have q2 : nI i = nI l ↔ i = l := nI_eq (by omega) (by omega)
    rw [nI_1]
    by_cases c1 : i = f <;> by_cases c2 : i = l
    · rw [if_pos (q1.mpr c1), if_pos (q2.mpr c2), if_pos c1, if_pos c2]
    · rw [if_pos (q1.mpr c1), if_neg (fun w => c2 (q2.mp w)), if_pos c1, if_neg c2]
    · rw [if_neg (fun w => c1 (q1.mp w)), if_pos (q2.mpr c2), if_neg c1, if_pos c2, show (1 : Int32) = nI 1 from rfl, pk_sub (by omega)]
    · rw [if_neg (fun w => c1 (q1.mp w)), if_neg (fun w => c2 (q2.mp w)), if_neg c1, if_neg c2, show (1 : Int32) = nI 1 from rfl, pk_sub (by omega)]
  rw [e0]
  have line : ∃ c w1 w2 w3 w4 w5 w6 w7 w8 w9 w10, P_Cv_addContour_60 px py on z (nI f) (nI l) (nI i) (nI (aft f l i)) (nI L.length) sx sy le ri tp bo lx ly qx qy = z (nI f, nI l, nI (i + 1), nI c, w1, w2, w3, w4, w5, w6, w7, w8, w9, w10) ∧ c = (L ++ [lnP x y i (aft f l i)]).length ∧ AtA (L ++ [lnP x y i (aft f l i)]) w1 w2 w3 w4 w5 w6 w7 w8 w9 w10 := by
    obtain ⟨v1, v2, v3, v4, v5, v6, v7, v8, v9, v10, e, hv⟩ := addLine_v hP hM hL (show i < M by omega) haM sx sy le ri tp bo lx ly qx qy
    unfold P_Cv_addContour_60 P_Cv_addContour_116
    rw [e, some_bind]
    simp only [unp]
    rw [nI_1]
    exact ⟨L.length + 1, upd sx L.length v1, upd sy L.length v2, upd le L.length v3, upd ri L.length v4, upd tp L.length v5, upd bo L.length v6, upd lx L.length v7, upd ly L.length v8, upd qx L.length v9, upd qy L.length v10, rfl, by rw [List.length_append]; rfl, AtA_1 hA hv⟩
  have rest : ¬ (f = l ∨ (¬ on i = 0 ∧ ¬ on (aft f l i) = 0)) → ∃ c w1 w2 w3 w4 w5 w6 w7 w8 w9 w10, P_Cv_addContour_71 px py on z (nI f) (nI l) (nI i) (nI (bef f l i)) (nI (aft f l i)) (nI L.length) sx sy le ri tp bo lx ly qx qy = z (nI f, nI l, nI (i + 1), nI c, w1, w2, w3, w4, w5, w6, w7, w8, w9, w10) ∧ c = (L ++ pcl x y on f l i).length ∧ AtA (L ++ pcl x y on f l i) w1 w2 w3 w4 w5 w6 w7 w8 w9 w10 := by
    intro hne
    unfold P_Cv_addContour_71
    rw [bdI hi' (by omega), nI_clamp (by omega)]
    by_cases c1 : on i = 0
    · rw [if_pos c1, bdI hb' (by omega), nI_clamp (show bef f l i < 2 ^ 31 by omega)]
      have ep : pcl x y on f l i = [cvP x y on (bef f l i) i (aft f l i)] := by unfold pcl; rw [if_neg hne, if_pos c1]
      rw [ep]
      obtain ⟨v1, v2, v3, v4, v5, v6, v7, v8, v9, v10, e, hv⟩ := addBend_v (on := on) hP hM hL (show i < M by omega) haM hbM rfl rfl sx sy le ri tp bo lx ly qx qy
      have e1 : (if on (bef f l i) = 0 then P_Cv_addContour_95 px py on z (nI f) (nI l) (nI i) (nI (bef f l i)) (nI (aft f l i)) (nI i) (nI i) (nI L.length) sx sy le ri tp bo lx ly qx qy else P_Cv_addContour_95 px py on z (nI f) (nI l) (nI i) (nI (bef f l i)) (nI (aft f l i)) (nI (bef f l i)) (nI i) (nI L.length) sx sy le ri tp bo lx ly qx qy) = P_Cv_addContour_111 px py on z (nI f) (nI l) (nI i) (nI (aft f l i)) (nI (if on (aft f l i) = 0 then i else aft f l i)) (nI (bef f l i)) (nI (if on (bef f l i) = 0 then i else bef f l i)) (nI i) (nI L.length) sx sy le ri tp bo lx ly qx qy := by
        unfold P_Cv_addContour_95
        rw [bdI ha' (by omega), bdI ha' (by omega), nI_clamp (show aft f l i < 2 ^ 31 by omega)]
        split <;> split <;> rfl
      rw [e1]
      unfold P_Cv_addContour_111 P_Cv_addContour_116
      rw [e, some_bind]
      simp only [unp]
      rw [nI_1]
      exact ⟨L.length + 1, upd sx L.length v1, upd sy L.length v2, upd le L.length v3, upd ri L.length v4, upd tp L.length v5, upd bo L.length v6, upd lx L.length v7, upd ly L.length v8, upd qx L.length v9, upd qy L.length v10, rfl, by rw [List.length_append]; rfl, AtA_1 hA hv⟩
    · rw [if_neg c1]
      have ep : pcl x y on f l i = [] := by unfold pcl; rw [if_neg hne, if_neg c1]
      rw [ep, List.append_nil]
      unfold P_Cv_addContour_116
      rw [nI_1]
      exact ⟨L.length, sx, sy, le, ri, tp, bo, lx, ly, qx, qy, rfl, rfl, hA⟩
  unfold P_Cv_addContour_39
  rw [bdI hi' (by omega), bdI ha' (by omega), nI_clamp (show i < 2 ^ 31 by omega), nI_clamp (show aft f l i < 2 ^ 31 by omega)]
  have qf : nI f = nI l ↔ f = l := nI_eq (by omega) (by omega)
  by_cases c0 : f = l
  · rw [if_pos (qf.mpr c0)]
    have ep : pcl x y on f l i = [lnP x y i (aft f l i)] := by unfold pcl; rw [if_pos (Or.inl c0)]
    rw [ep]; exact line
  rw [if_neg (fun w => c0 (qf.mp w))]
  by_cases c1 : on i = 0
  · rw [if_pos c1]; exact rest (fun w => w.elim c0 (fun w => w.1 c1))
  rw [if_neg c1]
  by_cases c2 : on (aft f l i) = 0
  · rw [if_pos c2]; exact rest (fun w => w.elim c0 (fun w => w.2 c2))
  · rw [if_neg c2]
    have ep : pcl x y on f l i = [lnP x y i (aft f l i)] := by unfold pcl; rw [if_pos (Or.inr ⟨c1, c2⟩)]
    rw [ep]; exact line
theorem con_l {x y : Nat → Int} {px py on : Nat → Int32} {M f l : Nat} (hP : Plc x y px py M) (hM : M ≤ 256) (hl : l < M) (hfl : f ≤ l) (L : List Pc) (hL : L.length ≤ f) : ∀ (e d m : Nat) (sx : Nat → Int32) (sy : Nat → Int32) (le : Nat → Int32) (ri : Nat → Int32) (tp : Nat → Int32) (bo : Nat → Int32) (lx : Nat → Int32) (ly : Nat → Int32) (qx : Nat → Int32) (qy : Nat → Int32), d + e = l + 1 - f → e < m → AtA (L ++ cl x y on f l d) sx sy le ri tp bo lx ly qx qy → ∃ w1 w2 w3 w4 w5 w6 w7 w8 w9 w10, lp (L_Cv_addContour_3 px py on) m (nI f, nI l, nI (f + d), nI (L ++ cl x y on f l d).length, sx, sy, le, ri, tp, bo, lx, ly, qx, qy) = some (nI (L ++ cl x y on f l (l + 1 - f)).length, w1, w2, w3, w4, w5, w6, w7, w8, w9, w10) ∧ AtA (L ++ cl x y on f l (l + 1 - f)) w1 w2 w3 w4 w5 w6 w7 w8 w9 w10 := by
  intro e
  induction e with
  | zero =>
    intro d m sx sy le ri tp bo lx ly qx qy hd hm hA
    obtain ⟨m, rfl⟩ := suc_of hm
    rw [e_Cv_addContour_3]
    unfold P_Cv_addContour_3b
    rw [if_pos (nI_lt (by omega) (by omega))]
    rw [show d = l + 1 - f by omega] at hA ⊢
    exact ⟨sx, sy, le, ri, tp, bo, lx, ly, qx, qy, rfl, hA⟩
  | succ e ih =>
    intro d m sx sy le ri tp bo lx ly qx qy hd hm hA
    obtain ⟨m, rfl⟩ := suc_of hm
    rw [e_Cv_addContour_3]
    have hlen := cl_le x y on f l d
    obtain ⟨c, w1, w2, w3, w4, w5, w6, w7, w8, w9, w10, k1, k2, k3⟩ := con_s (on := on) (f := f) (l := l) (i := f + d) hP hM (by omega) hl (L ++ cl x y on f l d) (by rw [List.length_append]; omega) sx sy le ri tp bo lx ly qx qy hA (lp (L_Cv_addContour_3 px py on) m)
    rw [k1, k2]
    rw [List.append_assoc] at k3 ⊢
    exact ih (d + 1) m w1 w2 w3 w4 w5 w6 w7 w8 w9 w10 (by omega) (by omega) k3
def fst_ (ls : Nat → Nat) (c : Nat) : Nat := if c = 0 then 0 else ls (c - 1) + 1
def tl (x y : Nat → Int) (on : Nat → Int32) (ls : Nat → Nat) : Nat → List Pc
  | 0 => []
  | c + 1 => tl x y on ls c ++ cl x y on (fst_ ls c) (ls c) (ls c + 1 - fst_ ls c)
theorem tl_le (x y : Nat → Int) (on : Nat → Int32) (ls : Nat → Nat) : ∀ c, (∀ i, i < c → fst_ ls i ≤ ls i) → (tl x y on ls c).length ≤ fst_ ls c := by
  intro c
  induction c with
  | zero => intro _; exact Nat.zero_le _
  | succ c ih =>
    intro h
    have h1 := ih (fun i hi => h i (by omega))
    have h2 := cl_le x y on (fst_ ls c) (ls c) (ls c + 1 - fst_ ls c)
    have h3 := h c (by omega)
    show (tl x y on ls c ++ cl x y on (fst_ ls c) (ls c) (ls c + 1 - fst_ ls c)).length ≤ _
    rw [List.length_append]
    have : fst_ ls (c + 1) = ls c + 1 := by unfold fst_; rw [if_neg (by omega)]; rfl
    omega
theorem tra_l {x y : Nat → Int} {px py on la xs ys : Nat → Int32} {pts un : Int32} {M C : Nat} {ls : Nat → Nat} (hP : Plc x y px py M) (hM : M ≤ 256) (hC : C ≤ 32) (hla : ∀ i, i < C → la i = nI (ls i)) (hls : ∀ i, i < C → fst_ ls i ≤ ls i ∧ ls i < M) : ∀ (e c m : Nat) (sx : Nat → Int32) (sy : Nat → Int32) (le : Nat → Int32) (ri : Nat → Int32) (tp : Nat → Int32) (bo : Nat → Int32) (lx : Nat → Int32) (ly : Nat → Int32) (qx : Nat → Int32) (qy : Nat → Int32), c + e = C → e < m → AtA (tl x y on ls c) sx sy le ri tp bo lx ly qx qy → ∃ w1 w2 w3 w4 w5 w6 w7 w8 w9 w10, lp (L_Cv_trace_101 pts (nI C) xs ys on la un) m (nI (fst_ ls c), nI c, nI (tl x y on ls c).length, sx, sy, le, ri, tp, bo, lx, ly, qx, qy, px, py) = some (1, nI (tl x y on ls C).length, w1, w2, w3, w4, w5, w6, w7, w8, w9, w10, px, py) ∧ AtA (tl x y on ls C) w1 w2 w3 w4 w5 w6 w7 w8 w9 w10 := by
  intro e
  induction e with
  | zero =>
    intro c m sx sy le ri tp bo lx ly qx qy hc hm hA
    obtain ⟨m, rfl⟩ := suc_of hm
    rw [e_Cv_trace_101]
    unfold P_Cv_trace_101b
    rw [if_pos (nI_le (by omega) (by omega))]
    rw [show c = C by omega] at hA ⊢
    exact ⟨sx, sy, le, ri, tp, bo, lx, ly, qx, qy, rfl, hA⟩
  | succ e ih =>
    intro c m sx sy le ri tp bo lx ly qx qy hc hm hA
    obtain ⟨m, rfl⟩ := suc_of hm
    rw [e_Cv_trace_101]
    unfold P_Cv_trace_101b P_Cv_addContour P_Cv_addContour_3
    rw [if_neg (nI_ge (show c < C by omega) (by omega))]
    simp only [bdI (show c < 32 by omega) (show 32 < 2 ^ 31 by omega), nI_clamp (show c < 2 ^ 31 by omega), hla c (by omega)]
    obtain ⟨h1, h2⟩ := hls c (by omega)
    have hlen := tl_le x y on ls c (fun i hi => (hls i (by omega)).1)
    obtain ⟨w1, w2, w3, w4, w5, w6, w7, w8, w9, w10, k1, k2⟩ := con_l (on := on) hP hM h2 h1 (tl x y on ls c) hlen (ls c + 1 - fst_ ls c) 0 fuel sx sy le ri tp bo lx ly qx qy (by omega) (by unfold fuel; omega) (by show AtA (_ ++ []) sx sy le ri tp bo lx ly qx qy; rw [List.append_nil]; exact hA)
    have k1' : lp (L_Cv_addContour_3 px py on) fuel (nI (fst_ ls c), nI (ls c), nI (fst_ ls c), nI (tl x y on ls c).length, sx, sy, le, ri, tp, bo, lx, ly, qx, qy) = some (nI (tl x y on ls (c + 1)).length, w1, w2, w3, w4, w5, w6, w7, w8, w9, w10) := by
      have := k1
      rw [Nat.add_zero] at this
      have e0 : tl x y on ls c ++ cl x y on (fst_ ls c) (ls c) 0 = tl x y on ls c := List.append_nil _
      rw [e0] at this
      exact this
    rw [k1', some_bind]
    simp only [unp]
    rw [nI_1, nI_1]
    have := ih (c + 1) m w1 w2 w3 w4 w5 w6 w7 w8 w9 w10 (by omega) (by omega) k2
    rw [show fst_ ls (c + 1) = ls c + 1 from by unfold fst_; rw [if_neg (by omega)]; rfl] at this
    exact this
