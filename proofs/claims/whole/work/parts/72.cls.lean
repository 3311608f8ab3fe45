/-! PURE ROWS: a piece of the class: side, covers, crossings, windingAt -/
abbrev Pc : Type := Int × Int × Int × Int × Int × Int
def sqx (p : Pc) : Int := p.1 - 2 * p.2.2.1 + p.2.2.2.2.1
def slx (p : Pc) : Int := 2 * (p.2.2.1 - p.1)
def sqy (p : Pc) : Int := p.2.1 - 2 * p.2.2.2.1 + p.2.2.2.2.2
def sly (p : Pc) : Int := 2 * (p.2.2.2.1 - p.2.1)
def n40 (v : Int) : Prop := -40000 ≤ v ∧ v ≤ 40000
def PcB (p : Pc) : Prop := n40 p.1 ∧ n40 p.2.1 ∧ n40 p.2.2.1 ∧ n40 p.2.2.2.1 ∧ n40 p.2.2.2.2.1 ∧ n40 p.2.2.2.2.2
def CvK (p : Pc) (k : Nat) (sx sy lx ly qx qy : Nat → Int32) : Prop := PcB p ∧ (sx k).toInt = p.1 ∧ (sy k).toInt = p.2.1 ∧ (lx k).toInt = slx p ∧ (ly k).toInt = sly p ∧ (qx k).toInt = sqx p ∧ (qy k).toInt = sqy p
def sdP (w : Int) (p : Pc) (x y : Int) : Int := sd w (sqx p) (slx p) (p.1 - x) (sqy p) (sly p) (p.2.1 - y)
def cthP (p : Pc) (x y : Int) : Prop := cth (sqx p) (slx p) (p.1 - x) (sqy p) (sly p) (p.2.1 - y)
def ctnP (p : Pc) (x y : Int) : Int := ctn (sqx p) (slx p) (p.1 - x) (sqy p) (sly p) (p.2.1 - y)
theorem Jsx {p : Pc} (h : PcB p) {v : Int32} (e : v.toInt = sqx p) : J 160000 v.toInt64 (sqx p) := J_i e (by obtain ⟨h1, h2, h3, h4, h5, h6⟩ := h; unfold n40 at *; unfold sqx; omega)
theorem Jsy {p : Pc} (h : PcB p) {v : Int32} (e : v.toInt = sqy p) : J 160000 v.toInt64 (sqy p) := J_i e (by obtain ⟨h1, h2, h3, h4, h5, h6⟩ := h; unfold n40 at *; unfold sqy; omega)
theorem Jlx {p : Pc} (h : PcB p) {v : Int32} (e : v.toInt = slx p) : J 160000 v.toInt64 (slx p) := J_i e (by obtain ⟨h1, h2, h3, h4, h5, h6⟩ := h; unfold n40 at *; unfold slx; omega)
theorem Jly {p : Pc} (h : PcB p) {v : Int32} (e : v.toInt = sly p) : J 160000 v.toInt64 (sly p) := J_i e (by obtain ⟨h1, h2, h3, h4, h5, h6⟩ := h; unfold n40 at *; unfold sly; omega)
theorem Jd {v x : Int32} {a b : Int} (e : v.toInt = a) (e' : x.toInt = b) (h : n40 a) (h' : n40 b) : J 80000 (v - x).toInt64 (a - b) := by
  unfold n40 at *
  exact J_i (by rw [it_sub (by omega), e, e']) (by omega)
theorem sgR_I (k n j p q d D : Int) (hp : 0 < p) (hD : k * k - n * n * D = p * d) : sI (sgR k n D) = if (if 0 < D then sI n else 0) = 0 then sI k else if sI k = (if 0 < D then sI n else 0) then sI k else if sI k = 0 then (if 0 < D then sI n else 0) else sI k * sI d := by
  unfold sgR
  by_cases q1 : 0 < D
  · rw [if_pos q1, if_pos q1]
    by_cases q2 : n = 0
    · rw [if_pos (Or.inl (by rw [q2]; rfl)), if_pos (sI_z.mpr q2), sI_sg]
    rw [if_neg (fun w => q2 (sI_z.mp w))]
    have q2' : n.sign ≠ 0 := fun w => q2 (by rcases sg_tri n with ⟨e, h⟩ | ⟨e, h⟩ | ⟨e, h⟩ <;> omega)
    by_cases q3 : sI k = sI n
    · rw [if_pos q3, if_pos (Or.inr (sI_inj q3)), sI_sg]
    rw [if_neg q3, if_neg (fun w => w.elim q2' (fun w => q3 (by rw [← sI_sg k, w, sI_sg])))]
    by_cases q4 : k = 0
    · rw [if_pos (by rw [q4]; rfl), if_pos (sI_z.mpr q4), sI_sg]
    · rw [if_neg (fun w => q4 (by rcases sg_tri k with ⟨e, h⟩ | ⟨e, h⟩ | ⟨e, h⟩ <;> omega)), if_neg (fun w => q4 (sI_z.mp w)), ← sI_mul, sI_sg, sI_sg, hD, ← sI_sg (p * d), sg_sc hp, sI_sg]
  · rw [if_neg q1, if_neg q1, if_pos (Or.inl rfl), if_pos rfl, sI_sg]
theorem w_sI {w : Int} {w' : Int32} (hw : w = 1 ∧ w' = 1 ∨ w = -1 ∧ w' = -1) (n : Int) : w' * sI n = sI (w * n) := by
  rcases hw with ⟨rfl, rfl⟩ | ⟨rfl, rfl⟩
  · rw [show (1 : Int32) = sI 1 from rfl, sI_mul]
  · rw [show (-1 : Int32) = sI (-1) from rfl, sI_mul]
theorem side_v {p : Pc} {k : Nat} {sx sy lx ly qx qy : Nat → Int32} (hk : k < 256) (h : CvK p k sx sy lx ly qx qy) {w : Int} {w' : Int32} (hw : w = 1 ∧ w' = 1 ∨ w = -1 ∧ w' = -1) {x y : Int32} {X Y : Int} (hx : x.toInt = X) (hy : y.toInt = Y) (bx : n40 X) (by_ : n40 Y) : P_Cv_side sx sy lx ly qx qy (nI k) w' x y = some (sI (sdP w p X Y)) := by
  obtain ⟨hB, e1, e2, e3, e4, e5, e6⟩ := h
  unfold P_Cv_side
  simp only [bdI hk (show 256 < 2 ^ 31 by omega), nI_clamp (show k < 2 ^ 31 by omega)]
  have a2 := Jsx hB e5
  have b2 := Jlx hB e3
  have c := Jd e1 hx hB.1 bx
  have a := Jsy hB e6
  have b := Jly hB e4
  have C := Jd e2 hy hB.2.1 by_
  unfold sdP sd
  by_cases q : sqy p = 0
  · rw [if_pos ((J_eq a J0).mpr q), if_pos q]
    have z := signum_J (J_add (J_sub (J_mul (J_mul a2 C (by decide)) C (by decide)) (J_mul (J_mul b2 b (by decide)) C (by decide)) (by decide)) (J_mul (J_mul c b (by decide)) b (by decide)) (by decide))
    rw [z, some_bind, sI_sg]
  · rw [if_neg (fun w => q ((J_eq a J0).mp w)), if_neg q]
    have n := J_sub (J_mul a b2 (by decide)) (J_mul a2 b (by decide)) (by decide)
    have kk := J_sub (J_mul a c (by decide)) (J_mul a2 C (by decide)) (by decide)
    have j := J_sub (J_mul b c (by decide)) (J_mul b2 C (by decide)) (by decide)
    have m := J_sub (J_mul (J_mul J2 a (by decide)) kk (by decide)) (J_mul b n (by decide)) (by decide)
    have d := J_le (J_mul b b (by decide)) (J_mul (J_mul J4 a (by decide)) C (by decide))
    unfold P_Cv_side_109 P_Cv_side_184
    rw [signum_J m, some_bind]
    have key := mnk (sqx p) (slx p) (p.1 - X) (sqy p) (sly p) (p.2.1 - Y)
    have wid : w * w = 1 := by rcases hw with ⟨rfl, _⟩ | ⟨rfl, _⟩ <;> rfl
    have key2 := sgR_I (2 * sqy p * (sqy p * (p.1 - X) - sqx p * (p.2.1 - Y)) - sly p * (sqy p * slx p - sqx p * sly p)) (w * (sqy p * slx p - sqx p * sly p)) 0 (4 * (sqy p * sqy p)) 0 ((sqy p * (p.1 - X) - sqx p * (p.2.1 - Y)) * (sqy p * (p.1 - X) - sqx p * (p.2.1 - Y)) - (sqy p * slx p - sqx p * sly p) * (sly p * (p.1 - X) - slx p * (p.2.1 - Y))) (sly p * sly p - 4 * sqy p * (p.2.1 - Y)) (by have := z_pp q; omega) (by rw [← key, w4id, wid, Int.one_mul])
    rw [key2]
    by_cases q1 : sly p * sly p ≤ 4 * sqy p * (p.2.1 - Y)
    · rw [if_pos (d.mpr q1), if_neg (show ¬ 0 < sly p * sly p - 4 * sqy p * (p.2.1 - Y) by omega)]
      rw [if_pos rfl, if_pos rfl]
    · rw [if_neg (fun w => q1 (d.mp w)), if_pos (show 0 < sly p * sly p - 4 * sqy p * (p.2.1 - Y) by omega), signum_J n, some_bind, w_sI hw]
      rw [sl_v (J_w kk (by decide)) (J_w n (by decide)) (J_w j (by decide)), some_bind]
      split
      · rfl
      split
      · rfl
      split
      · rfl
      · rfl
theorem flat_v {p : Pc} {k : Nat} {sx sy lx ly qx qy : Nat → Int32} (hk : k < 256) (h : CvK p k sx sy lx ly qx qy) : P_Cv_isFlat ly qy (nI k) = some (bI (sqy p = 0 ∧ sly p = 0)) := by
  obtain ⟨hB, e1, e2, e3, e4, e5, e6⟩ := h
  unfold P_Cv_isFlat
  simp only [bdI hk (show 256 < 2 ^ 31 by omega), nI_clamp (show k < 2 ^ 31 by omega)]
  have z1 : ly k = 0 ↔ sly p = 0 := by rw [← e4, ← Int32.toInt_inj]; exact Iff.rfl
  have z2 : qy k = 0 ↔ sqy p = 0 := by rw [← e6, ← Int32.toInt_inj]; exact Iff.rfl
  by_cases q1 : sly p = 0
  · rw [if_pos (z1.mpr q1)]
    by_cases q2 : sqy p = 0
    · rw [if_pos (z2.mpr q2), bI_1 ⟨q2, q1⟩]
    · rw [if_neg (fun w => q2 (z2.mp w)), bI_0 (fun w => q2 w.1)]
  · rw [if_neg (fun w => q1 (z1.mp w)), bI_0 (fun w => q1 w.2)]
theorem cov_v {p : Pc} {k : Nat} {sx sy lx ly qx qy : Nat → Int32} (hk : k < 256) (h : CvK p k sx sy lx ly qx qy) {x : Int32} {X : Int} (hx : x.toInt = X) (bx : n40 X) : ∃ r, P_Cv_covers sx lx qx (nI k) x = some r ∧ (r = 0 ↔ ¬ cov (sqx p) (slx p) (p.1 - X)) := by
  obtain ⟨hB, e1, e2, e3, e4, e5, e6⟩ := h
  unfold P_Cv_covers
  simp only [bdI hk (show 256 < 2 ^ 31 by omega), nI_clamp (show k < 2 ^ 31 by omega)]
  have a2 := Jsx hB e5
  have b2 := Jlx hB e3
  have c := Jd e1 hx hB.1 bx
  have E := J_add (J_add c b2 (by decide)) a2 (by decide)
  have cb := cb_v (J_w a2 (by decide)) (J_w b2 (by decide)) (J_w c (by decide))
  unfold P_Cv_covers_29 P_Cv_covers_53 P_Cv_covers_65
  simp only [bdI hk (show 256 < 2 ^ 31 by omega), nI_clamp (show k < 2 ^ 31 by omega), cb, some_bind]
  unfold cov
  by_cases q1 : p.1 - X = 0
  · rw [if_pos ((J_eq c J0).mpr q1)]
    exact ⟨_, rfl, ⟨fun w => absurd w (by decide), fun w => absurd (Or.inl q1) w⟩⟩
  rw [if_neg (fun w => q1 ((J_eq c J0).mp w))]
  by_cases q2 : p.1 - X + slx p + sqx p = 0
  · rw [if_pos ((J_eq E J0).mpr q2)]
    exact ⟨_, rfl, ⟨fun w => absurd w (by decide), fun w => absurd (Or.inr (Or.inl q2)) w⟩⟩
  rw [if_neg (fun w => q2 ((J_eq E J0).mp w))]
  have fin : ∀ (P : Prop), ((0 < p.1 - X ↔ 0 < p.1 - X + slx p + sqx p)) → ∃ r : Int32, (if bI (cbk (sqx p) (slx p) (p.1 - X)) = 0 then some 0 else some 1) = some r ∧ (r = 0 ↔ ¬ (p.1 - X = 0 ∨ p.1 - X + slx p + sqx p = 0 ∨ ¬ (0 < p.1 - X ↔ 0 < p.1 - X + slx p + sqx p) ∨ cbk (sqx p) (slx p) (p.1 - X))) := by
    intro _ hh
    by_cases q5 : cbk (sqx p) (slx p) (p.1 - X)
    · rw [bI_1 q5, if_neg (by decide)]
      exact ⟨_, rfl, ⟨fun w => absurd w (by decide), fun w => absurd (Or.inr (Or.inr (Or.inr q5))) w⟩⟩
    · rw [bI_0 q5, if_pos rfl]
      exact ⟨_, rfl, ⟨fun _ w => w.elim q1 (fun w => w.elim q2 (fun w => w.elim (fun w => w hh) q5)), fun _ => rfl⟩⟩
  by_cases q3 : 0 < p.1 - X <;> by_cases q4 : 0 < p.1 - X + slx p + sqx p
  · rw [if_neg (fun w => absurd ((J_le c J0).mp w) (by omega)), if_neg (fun w => absurd ((J_le E J0).mp w) (by omega)), if_pos trivial]
    exact fin True ⟨fun _ => q4, fun _ => q3⟩
  · rw [if_neg (fun w => absurd ((J_le c J0).mp w) (by omega)), if_pos ((J_le E J0).mpr (by omega)), if_neg (by decide)]
    exact ⟨_, rfl, ⟨fun w => absurd w (by decide), fun w => absurd (Or.inr (Or.inr (Or.inl (fun z => q4 (z.mp q3))))) w⟩⟩
  · rw [if_pos ((J_le c J0).mpr (by omega)), if_neg (fun w => absurd ((J_le E J0).mp w) (by omega)), if_neg (by decide)]
    exact ⟨_, rfl, ⟨fun w => absurd w (by decide), fun w => absurd (Or.inr (Or.inr (Or.inl (fun z => q3 (z.mpr q4))))) w⟩⟩
  · rw [if_pos ((J_le c J0).mpr (by omega)), if_pos ((J_le E J0).mpr (by omega)), if_pos trivial]
    exact fin True ⟨fun w => absurd w q3, fun w => absurd w q4⟩
theorem crs_v {p : Pc} {k : Nat} {sx sy lx ly qx qy : Nat → Int32} (hk : k < 256) (h : CvK p k sx sy lx ly qx qy) {y : Int32} {Y : Int} (hy : y.toInt = Y) (by_ : n40 Y) : ∃ r, P_Cv_crossings sy ly qy (nI k) y = some r ∧ ((r &&& 1) = 0 ↔ ¬ wdn (sqy p) (sly p) (p.2.1 - Y)) ∧ ((r &&& 2) = 0 ↔ ¬ wup (sqy p) (sly p) (p.2.1 - Y)) := by
  obtain ⟨hB, e1, e2, e3, e4, e5, e6⟩ := h
  unfold P_Cv_crossings
  simp only [bdI hk (show 256 < 2 ^ 31 by omega), nI_clamp (show k < 2 ^ 31 by omega)]
  have a2 := Jsy hB e6
  have b2 := Jly hB e4
  have c := Jd e2 hy hB.2.1 by_
  have E := J_add (J_add c b2 (by decide)) a2 (by decide)
  have cb := cb_v (J_w a2 (by decide)) (J_w b2 (by decide)) (J_w c (by decide))
  unfold P_Cv_crossings_29 P_Cv_crossings_40 P_Cv_crossings_52
  simp only [bdI hk (show 256 < 2 ^ 31 by omega), nI_clamp (show k < 2 ^ 31 by omega), cb, some_bind]
  have fin : (0 < p.2.1 - Y ↔ 0 < p.2.1 - Y + sly p + sqy p) → ∃ r : Int32, (if bI (cbk (sqy p) (sly p) (p.2.1 - Y)) = 0 then some 0 else some 3) = some r ∧ ((r &&& 1) = 0 ↔ ¬ wdn (sqy p) (sly p) (p.2.1 - Y)) ∧ ((r &&& 2) = 0 ↔ ¬ wup (sqy p) (sly p) (p.2.1 - Y)) := by
    intro hh
    by_cases q5 : cbk (sqy p) (sly p) (p.2.1 - Y)
    · rw [bI_1 q5, if_neg (by decide)]
      exact ⟨_, rfl, ⟨fun w => absurd w (by decide), fun w => absurd (Or.inr ⟨hh, q5⟩) w⟩, ⟨fun w => absurd w (by decide), fun w => absurd (Or.inr ⟨hh, q5⟩) w⟩⟩
    · rw [bI_0 q5, if_pos rfl]
      refine ⟨_, rfl, ⟨fun _ w => ?_, fun _ => by decide⟩, ⟨fun _ w => ?_, fun _ => by decide⟩⟩
      · rcases w with w | w
        · exact w.1 (hh.mpr w.2)
        · exact q5 w.2
      · rcases w with w | w
        · exact w.2 (hh.mp w.1)
        · exact q5 w.2
  by_cases q3 : 0 < p.2.1 - Y <;> by_cases q4 : 0 < p.2.1 - Y + sly p + sqy p
  · rw [if_neg (fun w => absurd ((J_le c J0).mp w) (by omega)), if_neg (fun w => absurd ((J_le E J0).mp w) (by omega)), if_pos trivial]
    exact fin ⟨fun _ => q4, fun _ => q3⟩
  · rw [if_neg (fun w => absurd ((J_le c J0).mp w) (by omega)), if_pos ((J_le E J0).mpr (by omega)), if_neg (by decide), if_pos ((J_le E J0).mpr (by omega))]
    refine ⟨_, rfl, ⟨fun _ w => ?_, fun _ => by decide⟩, ⟨fun w => absurd w (by decide), fun w => absurd (Or.inl ⟨q3, q4⟩) w⟩⟩
    rcases w with w | w
    · exact w.1 q3
    · exact q4 (w.1.mp q3)
  · rw [if_pos ((J_le c J0).mpr (by omega)), if_neg (fun w => absurd ((J_le E J0).mp w) (by omega)), if_neg (by decide), if_neg (fun w => absurd ((J_le E J0).mp w) (by omega))]
    refine ⟨_, rfl, ⟨fun w => absurd w (by decide), fun w => absurd (Or.inl ⟨q3, q4⟩) w⟩, ⟨fun _ w => ?_, fun _ => by decide⟩⟩
    rcases w with w | w
    · exact q3 w.1
    · exact q3 (w.1.mpr q4)
  · rw [if_pos ((J_le c J0).mpr (by omega)), if_pos ((J_le E J0).mpr (by omega)), if_pos trivial]
    exact fin ⟨fun w => absurd w q3, fun w => absurd w q4⟩
def tI (v : Int) : Int32 := Int32.ofInt v
theorem tI_add (v w : Int) : tI v + tI w = tI (v + w) := (Int32.ofInt_add v w).symm
theorem tI_sub (v w : Int) : tI v - tI w = tI (v - w) := (Int32.ofInt_sub v w).symm
theorem bI_t (p : Prop) [Decidable p] : bI p = tI (one (decide p)) := by
  by_cases h : p
  · rw [bI_1 h, one_t _ h]; rfl
  · rw [bI_0 h, one_f _ h]; rfl
def fD (p : Pc) (Y : Int) (v : Int) : Int := if wdn (sqy p) (sly p) (p.2.1 - Y) then v else -1
def fU (p : Pc) (Y : Int) (v : Int) : Int := if wup (sqy p) (sly p) (p.2.1 - Y) then v else -1
theorem win134 {cnt : Int32} {sx sy lx ly qx qy : Nat → Int32} (z : Int32 × Int32 × Int32 × Int32 → Option Int32) (x y t : Int32) (k : Nat) (u v : Int) : ((u = 0 ∨ v = 0) → P_Cv_windingAt_134 cnt sx sy lx ly qx qy z x y t (nI k) (sI u) (sI v) = some 1000) ∧ (¬ (u = 0 ∨ v = 0) → P_Cv_windingAt_134 cnt sx sy lx ly qx qy z x y t (nI k) (sI u) (sI v) = z (x, y, t + tI (one (decide (0 < u)) - one (decide (0 < v))), nI (k + 1))) := by
  unfold P_Cv_windingAt_134 P_Cv_windingAt_161 P_Cv_windingAt_171
  by_cases q1 : u = 0
  · rw [if_pos (sI_z.mpr q1)]
    exact ⟨fun _ => rfl, fun w => absurd (Or.inl q1) w⟩
  rw [if_neg (fun w => q1 (sI_z.mp w))]
  by_cases q2 : v = 0
  · rw [if_pos (sI_z.mpr q2)]
    exact ⟨fun _ => rfl, fun w => absurd (Or.inr q2) w⟩
  rw [if_neg (fun w => q2 (sI_z.mp w))]
  refine ⟨fun w => absurd w (fun w => w.elim q1 q2), fun _ => ?_⟩
  rw [← tI_sub, ← bI_t, ← bI_t, nI_1]
  by_cases q3 : u ≤ 0 <;> by_cases q4 : v ≤ 0
  · rw [if_pos (sI_le.mpr q3), if_pos (sI_le.mpr q4), bI_0 (show ¬ 0 < u by omega), bI_0 (show ¬ 0 < v by omega)]
  · rw [if_pos (sI_le.mpr q3), if_neg (fun w => q4 (sI_le.mp w)), bI_0 (show ¬ 0 < u by omega), bI_1 (show 0 < v by omega)]
  · rw [if_neg (fun w => q3 (sI_le.mp w)), if_pos (sI_le.mpr q4), bI_1 (show 0 < u by omega), bI_0 (show ¬ 0 < v by omega)]
  · rw [if_neg (fun w => q3 (sI_le.mp w)), if_neg (fun w => q4 (sI_le.mp w)), bI_1 (show 0 < u by omega), bI_1 (show 0 < v by omega)]
theorem dec_iff {p q : Prop} (i : Decidable p) (j : Decidable q) (h : p ↔ q) : one (decide p) = one (decide q) := by
  by_cases hp : p
  · rw [one_t _ hp, one_t _ (h.mp hp)]
  · rw [one_f _ hp, one_f _ (fun w => hp (h.mpr w))]
theorem win70 {p : Pc} {k : Nat} {cnt : Int32} {sx sy lx ly qx qy : Nat → Int32} (hk : k < 256) (h : CvK p k sx sy lx ly qx qy) {x y : Int32} {X Y : Int} (hx : x.toInt = X) (hy : y.toInt = Y) (bx : n40 X) (by_ : n40 Y) (z : Int32 × Int32 × Int32 × Int32 → Option Int32) (t : Int32) (h1 : ¬ (p.1 - X = 0 ∧ p.2.1 - Y = 0)) (h2 : ¬ (sqy p = 0 ∧ sly p = 0 ∧ p.2.1 - Y = 0 ∧ cov (sqx p) (slx p) (p.1 - X))) : (cthP p X Y → P_Cv_windingAt_70 cnt sx sy lx ly qx qy z x y t (nI k) = some 1000) ∧ (¬ cthP p X Y → P_Cv_windingAt_70 cnt sx sy lx ly qx qy z x y t (nI k) = z (x, y, t + tI (ctnP p X Y), nI (k + 1))) := by
  unfold P_Cv_windingAt_70
  rw [flat_v hk h, some_bind]
  by_cases q : sqy p = 0 ∧ sly p = 0
  · rw [bI_1 q, if_neg (by decide)]
    have e : P_Cv_windingAt_90 cnt sx sy lx ly qx qy z x y t (nI k) 0 = P_Cv_windingAt_134 cnt sx sy lx ly qx qy z x y t (nI k) (sI (-1)) (sI (-1)) := by
      unfold P_Cv_windingAt_90 P_Cv_windingAt_112
      rw [if_pos (by decide), if_pos (by decide), sI_n (by decide)]
    rw [e]
    obtain ⟨w1, w2⟩ := win134 (cnt := cnt) (sx := sx) (sy := sy) (lx := lx) (ly := ly) (qx := qx) (qy := qy) z x y t k (-1) (-1)
    refine ⟨fun w => ?_, fun _ => ?_⟩
    · rcases w with w | w | w
      · exact absurd w h1
      · exact absurd w h2
      · exact absurd q w.1
    · rw [w2 (by omega)]
      unfold ctnP ctn
      rw [if_pos q, show one (decide (0 < (-1 : Int))) - one (decide (0 < (-1 : Int))) = 0 from by decide]
  rw [bI_0 q, if_pos rfl]
  obtain ⟨r, e1, e2, e3⟩ := crs_v hk h hy by_
  rw [e1, some_bind]
  have s1 := side_v hk h (w := 1) (w' := 1) (Or.inl ⟨rfl, rfl⟩) hx hy bx by_
  have s2 := side_v hk h (w := -1) (w' := -1) (Or.inr ⟨rfl, rfl⟩) hx hy bx by_
  have e : P_Cv_windingAt_90 cnt sx sy lx ly qx qy z x y t (nI k) r = P_Cv_windingAt_134 cnt sx sy lx ly qx qy z x y t (nI k) (sI (fD p Y (sdP 1 p X Y))) (sI (fU p Y (sdP (-1) p X Y))) := by
    unfold P_Cv_windingAt_90 P_Cv_windingAt_112 fD fU
    rw [s1, s2]
    simp only [some_bind]
    by_cases d1 : wdn (sqy p) (sly p) (p.2.1 - Y) <;> by_cases d2 : wup (sqy p) (sly p) (p.2.1 - Y)
    · rw [if_neg (fun w => (e2.mp w) d1), if_neg (fun w => (e3.mp w) d2), if_pos d1, if_pos d2]
    · rw [if_neg (fun w => (e2.mp w) d1), if_pos (e3.mpr d2), if_pos d1, if_neg d2, sI_n (show (-1 : Int) < 0 by decide)]
    · rw [if_pos (e2.mpr d1), if_neg (fun w => (e3.mp w) d2), if_neg d1, if_pos d2, sI_n (show (-1 : Int) < 0 by decide)]
    · rw [if_pos (e2.mpr d1), if_pos (e3.mpr d2), if_neg d1, if_neg d2, sI_n (show (-1 : Int) < 0 by decide)]
  rw [e]
  obtain ⟨w1, w2⟩ := win134 (cnt := cnt) (sx := sx) (sy := sy) (lx := lx) (ly := ly) (qx := qx) (qy := qy) z x y t k (fD p Y (sdP 1 p X Y)) (fU p Y (sdP (-1) p X Y))
  have z1 : fD p Y (sdP 1 p X Y) = 0 ↔ wdn (sqy p) (sly p) (p.2.1 - Y) ∧ sdP 1 p X Y = 0 := by
    unfold fD
    by_cases d : wdn (sqy p) (sly p) (p.2.1 - Y)
    · rw [if_pos d]; exact ⟨fun w => ⟨d, w⟩, fun w => w.2⟩
    · rw [if_neg d]; exact ⟨fun w => absurd w (by decide), fun w => absurd w.1 d⟩
  have z2 : fU p Y (sdP (-1) p X Y) = 0 ↔ wup (sqy p) (sly p) (p.2.1 - Y) ∧ sdP (-1) p X Y = 0 := by
    unfold fU
    by_cases d : wup (sqy p) (sly p) (p.2.1 - Y)
    · rw [if_pos d]; exact ⟨fun w => ⟨d, w⟩, fun w => w.2⟩
    · rw [if_neg d]; exact ⟨fun w => absurd w (by decide), fun w => absurd w.1 d⟩
  have z3 : 0 < fD p Y (sdP 1 p X Y) ↔ wdn (sqy p) (sly p) (p.2.1 - Y) ∧ 0 < sdP 1 p X Y := by
    unfold fD
    by_cases d : wdn (sqy p) (sly p) (p.2.1 - Y)
    · rw [if_pos d]; exact ⟨fun w => ⟨d, w⟩, fun w => w.2⟩
    · rw [if_neg d]; exact ⟨fun w => absurd w (by decide), fun w => absurd w.1 d⟩
  have z4 : 0 < fU p Y (sdP (-1) p X Y) ↔ wup (sqy p) (sly p) (p.2.1 - Y) ∧ 0 < sdP (-1) p X Y := by
    unfold fU
    by_cases d : wup (sqy p) (sly p) (p.2.1 - Y)
    · rw [if_pos d]; exact ⟨fun w => ⟨d, w⟩, fun w => w.2⟩
    · rw [if_neg d]; exact ⟨fun w => absurd w (by decide), fun w => absurd w.1 d⟩
  refine ⟨fun w => w1 ?_, fun w => ?_⟩
  · rcases w with w | w | ⟨_, w | w⟩
    · exact absurd w h1
    · exact absurd w h2
    · exact Or.inl (z1.mpr w)
    · exact Or.inr (z2.mpr w)
  · rw [w2 (fun v => w (Or.inr (Or.inr ⟨q, v.imp z1.mp z2.mp⟩)))]
    unfold ctnP ctn
    rw [if_neg q, dec_iff _ (inferInstance) z3, dec_iff _ (inferInstance) z4]
    unfold sdP
    exact congrArg z (Prod.ext rfl (Prod.ext rfl (Prod.ext rfl rfl)))
theorem win_b {p : Pc} {k N : Nat} {sx sy lx ly qx qy : Nat → Int32} (hN : N ≤ 256) (hk : k < N) (h : CvK p k sx sy lx ly qx qy) {x y : Int32} {X Y : Int} (hx : x.toInt = X) (hy : y.toInt = Y) (bx : n40 X) (by_ : n40 Y) (z : Int32 × Int32 × Int32 × Int32 → Option Int32) (t : Int32) : (cthP p X Y → P_Cv_windingAt_5b (nI N) sx sy lx ly qx qy z x y t (nI k) = some 1000) ∧ (¬ cthP p X Y → P_Cv_windingAt_5b (nI N) sx sy lx ly qx qy z x y t (nI k) = z (x, y, t + tI (ctnP p X Y), nI (k + 1))) := by
  have hk' : k < 256 := by omega
  unfold P_Cv_windingAt_5b
  rw [if_neg (nI_ge hk (by omega))]
  simp only [bdI hk' (show 256 < 2 ^ 31 by omega), nI_clamp (show k < 2 ^ 31 by omega)]
  have x1 : sx k = x ↔ p.1 - X = 0 := by rw [← Int32.toInt_inj, h.2.1, hx]; omega
  have y1 : sy k = y ↔ p.2.1 - Y = 0 := by rw [← Int32.toInt_inj, h.2.2.1, hy]; omega
  by_cases q : p.1 - X = 0 ∧ p.2.1 - Y = 0
  · rw [if_pos (x1.mpr q.1), if_pos (y1.mpr q.2)]
    exact ⟨fun _ => rfl, fun w => absurd (Or.inl q) w⟩
  have e : (if sx k = x then if sy k = y then some 1000 else P_Cv_windingAt_36 (nI N) sx sy lx ly qx qy z x y t (nI k) else P_Cv_windingAt_36 (nI N) sx sy lx ly qx qy z x y t (nI k)) = P_Cv_windingAt_36 (nI N) sx sy lx ly qx qy z x y t (nI k) := by
    by_cases d1 : sx k = x
    · rw [if_pos d1, if_neg (fun w => q ⟨x1.mp d1, y1.mp w⟩)]
    · rw [if_neg d1]
  rw [e]
  unfold P_Cv_windingAt_36
  rw [flat_v hk' h, some_bind]
  simp only [bdI hk' (show 256 < 2 ^ 31 by omega), nI_clamp (show k < 2 ^ 31 by omega)]
  by_cases f : sqy p = 0 ∧ sly p = 0
  · rw [bI_1 f, if_neg (by decide)]
    by_cases g : p.2.1 - Y = 0
    · rw [if_pos (y1.mpr g)]
      obtain ⟨r, e1, e2⟩ := cov_v hk' h hx bx
      rw [e1, some_bind]
      by_cases c : r = 0
      · rw [if_pos c]
        exact win70 hk' h hx hy bx by_ z t q (fun w => (e2.mp c) w.2.2.2)
      · rw [if_neg c]
        have c' : cov (sqx p) (slx p) (p.1 - X) := Decidable.byContradiction (dec := Classical.propDecidable _) (fun w => c (e2.mpr w))
        exact ⟨fun _ => rfl, fun w => absurd (Or.inr (Or.inl ⟨f.1, f.2, g, c'⟩)) w⟩
    · rw [if_neg (fun w => g (y1.mp w))]
      exact win70 hk' h hx hy bx by_ z t q (fun w => g w.2.2.1)
  · rw [bI_0 f, if_pos rfl]
    exact win70 hk' h hx hy bx by_ z t q (fun w => f ⟨w.1, w.2.1⟩)
def sumL (f : Pc → Int) : List Pc → Int
  | [] => 0
  | p :: t => f p + sumL f t
theorem sumL_app (f : Pc → Int) (a b : List Pc) : sumL f (a ++ b) = sumL f a + sumL f b := by
  induction a with
  | nil => show sumL f b = 0 + sumL f b; omega
  | cons p t ih => show f p + sumL f (t ++ b) = f p + sumL f t + sumL f b; omega
noncomputable def ic (Q : Prop) : Int := @ite Int Q (Classical.propDecidable Q) 1 0
theorem ic_1 {Q : Prop} (h : Q) : ic Q = 1 := if_pos h
theorem ic_0 {Q : Prop} (h : ¬ Q) : ic Q = 0 := if_neg h
theorem ic_b (Q : Prop) : ic Q = 0 ∨ ic Q = 1 := by
  by_cases h : Q
  · exact Or.inr (ic_1 h)
  · exact Or.inl (ic_0 h)
noncomputable def icP (x y : Int) (p : Pc) : Int := ic (cthP p x y)
theorem sum_ic (Q : Pc → Prop) (L : List Pc) : 0 ≤ sumL (fun p => ic (Q p)) L ∧ (sumL (fun p => ic (Q p)) L = 0 ↔ ∀ p, p ∈ L → ¬ Q p) := by
  induction L with
  | nil => exact ⟨Int.le_refl 0, ⟨fun _ p hp => absurd hp List.not_mem_nil, fun _ => rfl⟩⟩
  | cons p t ih =>
    obtain ⟨i1, i2⟩ := ih
    show 0 ≤ ic (Q p) + _ ∧ (ic (Q p) + _ = 0 ↔ _)
    rcases ic_b (Q p) with b | b
    · have nq : ¬ Q p := fun w => by rw [ic_1 w] at b; exact absurd b (by decide)
      rw [b, Int.zero_add]
      refine ⟨i1, fun w q hq => ?_, fun w => i2.mpr (fun q hq => w q (List.mem_cons_of_mem _ hq))⟩
      rcases List.mem_cons.mp hq with rfl | hq
      · exact nq
      · exact i2.mp w q hq
    · have yq : Q p := Classical.byContradiction (fun w => by rw [ic_0 w] at b; exact absurd b (by decide))
      rw [b]
      exact ⟨by omega, ⟨fun w => by omega, fun w => absurd yq (w p List.mem_cons_self)⟩⟩
def AtR (L : List Pc) (k : Nat) (sx sy lx ly qx qy : Nat → Int32) : Prop := ∀ i p, L[i]? = some p → CvK p (k + i) sx sy lx ly qx qy
theorem AtR_t {p : Pc} {L : List Pc} {k : Nat} {sx sy lx ly qx qy : Nat → Int32} (h : AtR (p :: L) k sx sy lx ly qx qy) : CvK p k sx sy lx ly qx qy ∧ AtR L (k + 1) sx sy lx ly qx qy := by
  refine ⟨h 0 p rfl, fun i q hq => ?_⟩
  have := h (i + 1) q (by rw [List.getElem?_cons_succ]; exact hq)
  rwa [show k + (i + 1) = k + 1 + i by omega] at this
theorem win_l {N : Nat} (hN : N ≤ 256) {sx sy lx ly qx qy : Nat → Int32} {x y : Int32} {X Y : Int} (hx : x.toInt = X) (hy : y.toInt = Y) (bx : n40 X) (by_ : n40 Y) : ∀ (L : List Pc) (k m : Nat) (t : Int), AtR L k sx sy lx ly qx qy → k + L.length = N → L.length < m → ((¬ sumL (icP X Y) L = 0) → lp (L_Cv_windingAt_5 (nI N) sx sy lx ly qx qy) m (x, y, tI t, nI k) = some 1000) ∧ (sumL (icP X Y) L = 0 → lp (L_Cv_windingAt_5 (nI N) sx sy lx ly qx qy) m (x, y, tI t, nI k) = some (tI (t + sumL (fun p => ctnP p X Y) L))) := by
  intro L
  induction L with
  | nil =>
    intro k m t _ hk hm
    obtain ⟨m, rfl⟩ := suc_of hm
    rw [e_Cv_windingAt_5]
    unfold P_Cv_windingAt_5b
    rw [if_pos (nI_le (show N ≤ k by have : ([] : List Pc).length = 0 := rfl; omega) (by have : ([] : List Pc).length = 0 := rfl; omega))]
    exact ⟨fun w => absurd rfl w, fun _ => congrArg some (congrArg tI (show t = t + 0 by omega))⟩
  | cons p L ih =>
    intro k m t hA hk hm
    have hl : (p :: L).length = L.length + 1 := rfl
    obtain ⟨m, rfl⟩ := suc_of hm
    obtain ⟨hp, hA'⟩ := AtR_t hA
    rw [e_Cv_windingAt_5]
    obtain ⟨w1, w2⟩ := win_b hN (show k < N by omega) hp hx hy bx by_ (lp (L_Cv_windingAt_5 (nI N) sx sy lx ly qx qy) m) (tI t)
    have hnn := (sum_ic (fun p => cthP p X Y) L).1
    show ((¬ icP X Y p + sumL (icP X Y) L = 0) → _) ∧ (icP X Y p + sumL (icP X Y) L = 0 → _)
    by_cases c : cthP p X Y
    · rw [w1 c]
      refine ⟨fun _ => rfl, fun w => ?_⟩
      exfalso
      have : icP X Y p = 1 := ic_1 c
      have h0 : 0 ≤ sumL (icP X Y) L := hnn
      omega
    · rw [w2 c, tI_add]
      have : icP X Y p = 0 := ic_0 c
      rw [this, Int.zero_add]
      obtain ⟨i1, i2⟩ := ih (k + 1) m (t + ctnP p X Y) hA' (by omega) (by omega)
      refine ⟨i1, fun w => ?_⟩
      rw [i2 w]
      show _ = some (tI (t + (ctnP p X Y + sumL (fun p => ctnP p X Y) L)))
      rw [Int.add_assoc]
theorem win_v {L : List Pc} (hN : L.length ≤ 256) {sx sy lx ly qx qy : Nat → Int32} {x y : Int32} {X Y : Int} (hx : x.toInt = X) (hy : y.toInt = Y) (bx : n40 X) (by_ : n40 Y) (hA : AtR L 0 sx sy lx ly qx qy) : ((¬ sumL (icP X Y) L = 0) → P_Cv_windingAt (nI L.length) sx sy lx ly qx qy x y = some 1000) ∧ (sumL (icP X Y) L = 0 → P_Cv_windingAt (nI L.length) sx sy lx ly qx qy x y = some (tI (sumL (fun p => ctnP p X Y) L))) := by
  have := win_l hN hx hy bx by_ L 0 fuel 0 hA (by omega) (by unfold fuel; omega)
  rw [Int.zero_add] at this
  exact this
