/-! PURE ROWS: the points placed, class and reference (printed by wip/whole/gen/place.py) -/
def plx (z U : Nat) (X : Int) (xs : Nat → Int32) (k : Nat) : Int := X + scl z U (xs k).toInt
def ply (z U : Nat) (Y : Int) (ys : Nat → Int32) (k : Nat) : Int := Y - scl z U (ys k).toInt
theorem i20 : (20000 : Int32).toInt = 20000 := by decide
theorem im20 : (-20000 : Int32).toInt = -20000 := by decide
theorem near_v (v : Int32) : ∃ r, P_Cv_isNear v = some r ∧ (r = 0 ↔ ¬ n20 v.toInt) ∧ (r = 0 ∨ r = 1) := by
  unfold P_Cv_isNear n20
  by_cases q1 : v < (-20000 : Int32)
  · rw [if_pos q1]
    rw [Int32.lt_iff_toInt_lt, im20] at q1
    exact ⟨0, rfl, ⟨fun _ => by omega, fun _ => rfl⟩, Or.inl rfl⟩
  rw [if_neg q1]
  rw [Int32.lt_iff_toInt_lt, im20] at q1
  by_cases q2 : (20000 : Int32) < v
  · rw [if_pos q2]
    rw [Int32.lt_iff_toInt_lt, i20] at q2
    exact ⟨0, rfl, ⟨fun _ => by omega, fun _ => rfl⟩, Or.inl rfl⟩
  rw [if_neg q2]
  rw [Int32.lt_iff_toInt_lt, i20] at q2
  exact ⟨1, rfl, ⟨fun w => absurd w (by decide), fun w => absurd ⟨by omega, by omega⟩ w⟩, Or.inr rfl⟩
theorem scl_s {z U : Nat} (hz : z ≤ 64) (hU : 16 ≤ U ∧ U ≤ 16384) {v : Int32} (hv : sml v) : -9000000 ≤ scl z U v.toInt ∧ scl z U v.toInt ≤ 9000000 := by
  unfold sml at hv
  have := scl_b (K := 32768) hz hU (v := v.toInt) (by omega)
  omega
theorem pla_c {z U n C : Nat} (hz : z ≤ 64) (hU : 16 ≤ U ∧ U ≤ 16384) (hn : n ≤ 256) {xs ys on la : Nat → Int32} (hs : ∀ k, k < n → sml (xs k) ∧ sml (ys k)) {a b : Int32} {X Y : Int} (ha : a.toInt = X) (hb : b.toInt = Y) (hX : n20 X) (hY : n20 Y) {cnt : Int32} (sx : Nat → Int32) (sy : Nat → Int32) (le : Nat → Int32) (ri : Nat → Int32) (tp : Nat → Int32) (bo : Nat → Int32) (lx : Nat → Int32) (ly : Nat → Int32) (qx : Nat → Int32) (qy : Nat → Int32) : ∀ (e k m : Nat) (px py : Nat → Int32), k + e = n → e < m → Plc (plx z U X xs) (ply z U Y ys) px py k → (∃ px' py', lp (L_Cv_trace_8 (nI n) (nI C) xs ys on la (nI U)) m (nI z, a, b, nI k, cnt, sx, sy, le, ri, tp, bo, lx, ly, qx, qy, px, py) = P_Cv_trace_101 (nI n) (nI C) xs ys on la (nI U) 0 0 cnt sx sy le ri tp bo lx ly qx qy px' py' ∧ Plc (plx z U X xs) (ply z U Y ys) px' py' n) ∨ (∃ px' py', lp (L_Cv_trace_8 (nI n) (nI C) xs ys on la (nI U)) m (nI z, a, b, nI k, cnt, sx, sy, le, ri, tp, bo, lx, ly, qx, qy, px, py) = some (0, cnt, sx, sy, le, ri, tp, bo, lx, ly, qx, qy, px', py') ∧ ∃ j, j < n ∧ ¬ (n20 (plx z U X xs j) ∧ n20 (ply z U Y ys j))) := by
  intro e
  induction e with
  | zero =>
    intro k m px py hk hm hP
    obtain ⟨m, rfl⟩ := suc_of hm
    rw [e_Cv_trace_8]
    unfold P_Cv_trace_8b
    rw [if_pos (nI_le (by omega) (by omega))]
    rw [show k = n by omega] at hP
    exact Or.inl ⟨px, py, rfl, hP⟩
  | succ e ih =>
    intro k m px py hk hm hP
    obtain ⟨m, rfl⟩ := suc_of hm
    rw [e_Cv_trace_8]
    unfold P_Cv_trace_8b
    rw [if_neg (nI_ge (show k < n by omega) (by omega))]
    obtain ⟨h1, h2⟩ := hs k (by omega)
    obtain ⟨r1, c1, _, c3⟩ := sc_b hz hU (v := xs k) (by unfold sml at h1; omega)
    obtain ⟨r2, d1, _, d3⟩ := sc_b hz hU (v := ys k) (by unfold sml at h2; omega)
    have b1 := scl_s hz hU h1
    have b2 := scl_s hz hU h2
    simp only [bdI (show k < 256 by omega) (show 256 < 2 ^ 31 by omega), nI_clamp (show k < 2 ^ 31 by omega), c1, d1, some_bind, pk_us]
    unfold n20 at hX hY
    have z1 : (a + r1).toInt = plx z U X xs k := by rw [it_add (by omega), ha, c3]; rfl
    have z2 : (b - r2).toInt = ply z U Y ys k := by rw [it_sub (by omega), hb, d3]; rfl
    obtain ⟨s1, t1, t2, _⟩ := near_v (a + r1)
    obtain ⟨s2, t3, t4, _⟩ := near_v (b - r2)
    rw [t1, t3, some_bind, some_bind]
    rw [z1] at t2
    rw [z2] at t4
    by_cases q1 : s1 = 0
    · rw [if_pos q1]
      exact Or.inr ⟨_, _, rfl, k, by omega, fun w => (t2.mp q1) w.1⟩
    rw [if_neg q1]
    by_cases q2 : s2 = 0
    · rw [if_pos q2]
      exact Or.inr ⟨_, _, rfl, k, by omega, fun w => (t4.mp q2) w.2⟩
    rw [if_neg q2, nI_1]
    refine ih (k + 1) m _ _ (by omega) (by omega) (fun i hi => ?_)
    rcases Nat.lt_or_ge i k with w | w
    · rw [pk_un (by omega), pk_un (by omega)]; exact hP i w
    · have : i = k := by omega
      subst this
      rw [pk_us, pk_us]
      exact ⟨z1, z2, Classical.byContradiction (fun w => q1 (t2.mpr w)), Classical.byContradiction (fun w => q2 (t4.mpr w))⟩
theorem tra_v {z U n C : Nat} (hz : z ≤ 64) (hU : 16 ≤ U ∧ U ≤ 16384) (hn : n ≤ 256) {xs ys on la : Nat → Int32} (hs : ∀ k, k < n → sml (xs k) ∧ sml (ys k)) {a b : Int32} {X Y : Int} (ha : a.toInt = X) (hb : b.toInt = Y) (hX : n20 X) (hY : n20 Y) (hC : C ≤ 32) {ls : Nat → Nat} (hla : ∀ i, i < C → la i = nI (ls i)) (hls : ∀ i, i < C → fst_ ls i ≤ ls i ∧ ls i < n) (cnt : Int32) (sx : Nat → Int32) (sy : Nat → Int32) (le : Nat → Int32) (ri : Nat → Int32) (tp : Nat → Int32) (bo : Nat → Int32) (lx : Nat → Int32) (ly : Nat → Int32) (qx : Nat → Int32) (qy : Nat → Int32) (px py : Nat → Int32) : (∃ w1 w2 w3 w4 w5 w6 w7 w8 w9 w10 px' py', P_Cv_trace cnt sx sy le ri tp bo lx ly qx qy px py (nI n) (nI C) xs ys on la (nI U) (nI z) a b = some (1, nI (tl (plx z U X xs) (ply z U Y ys) on ls C).length, w1, w2, w3, w4, w5, w6, w7, w8, w9, w10, px', py') ∧ AtA (tl (plx z U X xs) (ply z U Y ys) on ls C) w1 w2 w3 w4 w5 w6 w7 w8 w9 w10 ∧ ∀ j, j < n → n20 (plx z U X xs j) ∧ n20 (ply z U Y ys j)) ∨ (∃ c w1 w2 w3 w4 w5 w6 w7 w8 w9 w10 px' py', P_Cv_trace cnt sx sy le ri tp bo lx ly qx qy px py (nI n) (nI C) xs ys on la (nI U) (nI z) a b = some (0, c, w1, w2, w3, w4, w5, w6, w7, w8, w9, w10, px', py') ∧ ∃ j, j < n ∧ ¬ (n20 (plx z U X xs j) ∧ n20 (ply z U Y ys j))) := by
  unfold P_Cv_trace P_Cv_trace_8
  rcases pla_c (C := C) (on := on) (la := la) (cnt := 0) hz hU hn hs ha hb hX hY sx sy le ri tp bo lx ly qx qy n 0 fuel px py (by omega) (by unfold fuel; omega) (fun i hi => absurd hi (by omega)) with ⟨px', py', k1, k2⟩ | ⟨px', py', k1, k2⟩
  · have k1 : lp (L_Cv_trace_8 (nI n) (nI C) xs ys on la (nI U)) fuel (nI z, a, b, (0 : Int32), (0 : Int32), sx, sy, le, ri, tp, bo, lx, ly, qx, qy, px, py) = _ := k1
    rw [k1]
    unfold P_Cv_trace_101
    have hA : AtA (tl (plx z U X xs) (ply z U Y ys) on ls 0) sx sy le ri tp bo lx ly qx qy := fun i p hp => by cases (show (([] : List Pc)[i]? = some p) from hp)
    obtain ⟨w1, w2, w3, w4, w5, w6, w7, w8, w9, w10, k3, k4⟩ := tra_l (pts := nI n) (un := nI U) (xs := xs) (ys := ys) (on := on) (la := la) k2 hn hC hla hls C 0 fuel sx sy le ri tp bo lx ly qx qy (by omega) (by unfold fuel; omega) hA
    exact Or.inl ⟨w1, w2, w3, w4, w5, w6, w7, w8, w9, w10, px', py', k3, k4, fun j hj => (k2 j hj).2.2⟩
  · have k1 : lp (L_Cv_trace_8 (nI n) (nI C) xs ys on la (nI U)) fuel (nI z, a, b, (0 : Int32), (0 : Int32), sx, sy, le, ri, tp, bo, lx, ly, qx, qy, px, py) = _ := k1
    rw [k1]
    exact Or.inr ⟨_, _, _, _, _, _, _, _, _, _, _, _, _, rfl, k2⟩
def Pl2 (x y : Nat → Int) (px py : Nat → Int64) (M : Nat) : Prop := ∀ i, i < M → (px i).toInt = 2 * x i ∧ (py i).toInt = 2 * y i ∧ n20 (x i) ∧ n20 (y i)
theorem pla_m {z U n g : Nat} (hz : z ≤ 64) (hU : 16 ≤ U ∧ U ≤ 16384) (hn : n ≤ 256) (hg : g < 64) {ps mx my xs ys : Nat → Int32} (hp : ps g = nI n) (hm : ∀ k, k < n → mx (256 * g + k) = xs k ∧ my (256 * g + k) = ys k) (hs : ∀ k, k < n → sml (xs k) ∧ sml (ys k)) {a b : Int32} {X Y : Int} (ha : a.toInt = X) (hb : b.toInt = Y) (hX : n20 X) (hY : n20 Y) : ∀ (e k m : Nat) (px py : Nat → Int64), k + e = n → e < m → Pl2 (plx z U X xs) (ply z U Y ys) px py k → (∃ px' py', lp (L_Mo_place_33 (nI z) (nI U) ps mx my) m (nI g, a, b, nI k, px, py) = some (1, px', py') ∧ Pl2 (plx z U X xs) (ply z U Y ys) px' py' n) ∨ (∃ px' py', lp (L_Mo_place_33 (nI z) (nI U) ps mx my) m (nI g, a, b, nI k, px, py) = some (0, px', py') ∧ ∃ j, j < n ∧ ¬ (n20 (plx z U X xs j) ∧ n20 (ply z U Y ys j))) := by
  intro e
  induction e with
  | zero =>
    intro k m px py hk hm' hP
    obtain ⟨m, rfl⟩ := suc_of hm'
    rw [e_Mo_place_33]
    unfold P_Mo_place_33b
    rw [bdI (show g < 64 by omega) (by omega), nI_clamp (show g < 2 ^ 31 by omega), hp, if_pos (nI_le (by omega) (by omega))]
    rw [show k = n by omega] at hP
    exact Or.inl ⟨px, py, rfl, hP⟩
  | succ e ih =>
    intro k m px py hk hm' hP
    obtain ⟨m, rfl⟩ := suc_of hm'
    rw [e_Mo_place_33]
    unfold P_Mo_place_33b
    rw [bdI (show g < 64 by omega) (by omega), nI_clamp (show g < 2 ^ 31 by omega), hp, if_neg (nI_ge (show k < n by omega) (by omega))]
    obtain ⟨h1, h2⟩ := hs k (by omega)
    obtain ⟨g1, g2⟩ := hm k (by omega)
    obtain ⟨r1, _, c1, c3⟩ := sc_b hz hU (v := xs k) (by unfold sml at h1; omega)
    obtain ⟨r2, _, d1, d3⟩ := sc_b hz hU (v := ys k) (by unfold sml at h2; omega)
    have b1 := scl_s hz hU h1
    have b2 := scl_s hz hU h2
    rw [show (256 : Int32) * nI g = nI (256 * g) from pk_mul 256 g, nI_add]
    simp only [bdI (show k < 256 by omega) (show 256 < 2 ^ 31 by omega), bdI (show 256 * g + k < 16384 by omega) (show 16384 < 2 ^ 31 by omega), nI_clamp (show k < 2 ^ 31 by omega), nI_clamp (show 256 * g + k < 2 ^ 31 by omega), g1, g2, c1, d1, some_bind]
    unfold n20 at hX hY
    have z1 : J 9020000 (a.toInt64 + r1.toInt64) (plx z U X xs k) := J_add (a := 20000) (b := 9000000) (J_i ha hX) (J_i c3 b1) (by decide)
    have z2 : J 9020000 (b.toInt64 - r2.toInt64) (ply z U Y ys k) := J_sub (a := 20000) (b := 9000000) (J_i hb hY) (J_i d3 b2) (by decide)
    have Jp : J 20000 (20000 : Int64) 20000 := ⟨by decide, by decide, by decide⟩
    have Jm : J 20000 (-20000 : Int64) (-20000) := ⟨by decide, by decide, by decide⟩
    have bad : ∀ (px py : Nat → Int64), ¬ (n20 (plx z U X xs k) ∧ n20 (ply z U Y ys k)) → ((∃ px' py', some ((0 : Int32), px, py) = some (1, px', py') ∧ Pl2 (plx z U X xs) (ply z U Y ys) px' py' n) ∨ (∃ px' py', some ((0 : Int32), px, py) = some (0, px', py') ∧ ∃ j, j < n ∧ ¬ (n20 (plx z U X xs j) ∧ n20 (ply z U Y ys j)))) := fun px py w => Or.inr ⟨px, py, rfl, k, by omega, w⟩
    by_cases q1 : plx z U X xs k < -20000
    · rw [if_pos ((J_lt z1 Jm).mpr q1)]
      exact bad px py (fun w => by unfold n20 at w; omega)
    rw [if_neg (fun w => q1 ((J_lt z1 Jm).mp w))]
    by_cases q2 : 20000 < plx z U X xs k
    · rw [if_pos ((J_gt z1 Jp).mpr q2)]
      exact bad px py (fun w => by unfold n20 at w; omega)
    rw [if_neg (fun w => q2 ((J_gt z1 Jp).mp w))]
    by_cases q3 : ply z U Y ys k < -20000
    · rw [if_pos ((J_lt z2 Jm).mpr q3)]
      exact bad px py (fun w => by unfold n20 at w; omega)
    rw [if_neg (fun w => q3 ((J_lt z2 Jm).mp w))]
    by_cases q4 : ply z U Y ys k ≤ 20000
    · rw [if_pos ((J_le z2 Jp).mpr q4), nI_1]
      refine ih (k + 1) m _ _ (by omega) (by omega) (fun i hi => ?_)
      rcases Nat.lt_or_ge i k with w | w
      · rw [pk_uLn (by omega), pk_uLn (by omega)]; exact hP i w
      · have : i = k := by omega
        subst this
        rw [pk_uLs, pk_uLs]
        exact ⟨(J_mul J2 z1 (by decide)).1, (J_mul J2 z2 (by decide)).1, ⟨by omega, by omega⟩, ⟨by omega, by omega⟩⟩
    · rw [if_neg (fun w => q4 ((J_le z2 Jp).mp w))]
      exact bad px py (fun w => by unfold n20 at w; omega)
theorem place_v {z U n g : Nat} (hz : z ≤ 64) (hU : 16 ≤ U ∧ U ≤ 16384) (hn : n ≤ 256) (hg : g < 64) {ps mx my xs ys : Nat → Int32} (hp : ps g = nI n) (hm : ∀ k, k < n → mx (256 * g + k) = xs k ∧ my (256 * g + k) = ys k) (hs : ∀ k, k < n → sml (xs k) ∧ sml (ys k)) {a b : Int32} {X Y : Int} (ha : a.toInt = X) (hb : b.toInt = Y) (px py : Nat → Int64) : (∃ px' py', P_Mo_place (nI z) px py (nI U) ps mx my (nI g) a b = some (1, px', py') ∧ n20 X ∧ n20 Y ∧ Pl2 (plx z U X xs) (ply z U Y ys) px' py' n) ∨ (∃ px' py', P_Mo_place (nI z) px py (nI U) ps mx my (nI g) a b = some (0, px', py') ∧ (¬ n20 X ∨ ¬ n20 Y ∨ ∃ j, j < n ∧ ¬ (n20 (plx z U X xs j) ∧ n20 (ply z U Y ys j)))) := by
  unfold P_Mo_place
  by_cases q1 : a < (-20000 : Int32)
  · rw [if_pos q1]
    rw [Int32.lt_iff_toInt_lt, im20] at q1
    exact Or.inr ⟨_, _, rfl, Or.inl (fun w => by unfold n20 at w; omega)⟩
  rw [if_neg q1]
  rw [Int32.lt_iff_toInt_lt, im20] at q1
  by_cases q2 : (20000 : Int32) < a
  · rw [if_pos q2]
    rw [Int32.lt_iff_toInt_lt, i20] at q2
    exact Or.inr ⟨_, _, rfl, Or.inl (fun w => by unfold n20 at w; omega)⟩
  rw [if_neg q2]
  rw [Int32.lt_iff_toInt_lt, i20] at q2
  by_cases q3 : b < (-20000 : Int32)
  · rw [if_pos q3]
    rw [Int32.lt_iff_toInt_lt, im20] at q3
    exact Or.inr ⟨_, _, rfl, Or.inr (Or.inl (fun w => by unfold n20 at w; omega))⟩
  rw [if_neg q3]
  rw [Int32.lt_iff_toInt_lt, im20] at q3
  by_cases q4 : b ≤ (20000 : Int32)
  · rw [if_pos q4]
    rw [Int32.le_iff_toInt_le, i20] at q4
    have hX : n20 X := by unfold n20; omega
    have hY : n20 Y := by unfold n20; omega
    rcases pla_m hz hU hn hg hp hm hs ha hb hX hY n 0 fuel px py (by omega) (by unfold fuel; omega) (fun i hi => absurd hi (by omega)) with ⟨px', py', k1, k2⟩ | ⟨px', py', k1, k2⟩
    · exact Or.inl ⟨px', py', k1, hX, hY, k2⟩
    · exact Or.inr ⟨px', py', k1, Or.inr (Or.inr k2)⟩
  · rw [if_neg q4]
    rw [Int32.le_iff_toInt_le, i20] at q4
    exact Or.inr ⟨_, _, rfl, Or.inr (Or.inl (fun w => by unfold n20 at w; omega))⟩
