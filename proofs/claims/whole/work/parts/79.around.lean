/-! PURE ROWS: the reference's way around a contour -/
def Iv (t0 : Int32) (T0 φ0 : Int) (t v : Int32) (S K a b : Int) : Prop := (t = 0 ∨ t = 1) ∧ 0 ≤ S ∧ (t0 = 1 → t = 1) ∧ (t0 = 0 → (t = 0 → S = 0 ∧ v = tI (T0 + K + phi a b - φ0)) ∧ (t = 1 → S ≠ 0 ∨ (a = 0 ∧ b = 0)))
theorem tI_all (v : Int32) : v = tI v.toInt := (Int32.ofInt_toInt v).symm
theorem Iv_s {t0 t v t' v' : Int32} {T0 φ0 S K X Y T : Int} {p : Pc} {M : Prop} (h : Iv t0 T0 φ0 t v S K (p.1 - X) (p.2.1 - Y)) (hv : v = tI T) (m1 : cthP p X Y → M) (m2 : M → cthP p X Y ∨ (p.2.2.2.2.1 - X = 0 ∧ p.2.2.2.2.2 - Y = 0)) (m3 : (p.2.2.2.2.1 - X = 0 ∧ p.2.2.2.2.2 - Y = 0) → M) (k1 : (t = 1 ∨ M) → t' = 1) (k2 : t = 0 → ¬ M → t' = 0 ∧ v' = tI (T + mtn (sqx p) (slx p) (p.1 - X) (sqy p) (sly p) (p.2.1 - Y))) : Iv t0 T0 φ0 t' v' (S + icP X Y p) (K + ctnP p X Y) (p.2.2.2.2.1 - X) (p.2.2.2.2.2 - Y) := by
  obtain ⟨h1, h2, h3, h4⟩ := h
  have hi : icP X Y p = 0 ∨ icP X Y p = 1 := ic_b _
  have ex : p.1 - X + slx p + sqx p = p.2.2.2.2.1 - X := by unfold slx sqx; omega
  have ey : p.2.1 - Y + sly p + sqy p = p.2.2.2.2.2 - Y := by unfold sly sqy; omega
  have ht' : t' = 0 ∨ t' = 1 := by
    by_cases w : t = 1 ∨ M
    · exact Or.inr (k1 w)
    · exact Or.inl (k2 (h1.resolve_right (fun z => w (Or.inl z))) (fun z => w (Or.inr z))).1
  refine ⟨ht', by omega, fun w => k1 (Or.inl (h3 w)), fun w => ?_⟩
  obtain ⟨h5, h6⟩ := h4 w
  rcases h1 with t_0 | t_1
  · obtain ⟨s0, vv⟩ := h5 t_0
    by_cases hM : M
    · have e1 := k1 (Or.inr hM)
      refine ⟨fun z => by rw [e1] at z; exact absurd z (by decide), fun _ => ?_⟩
      rcases m2 hM with c | c
      · left
        have : icP X Y p = 1 := ic_1 c
        omega
      · exact Or.inr c
    · obtain ⟨e1, e2⟩ := k2 t_0 hM
      have nc : ¬ cthP p X Y := fun z => hM (m1 z)
      have i0 : icP X Y p = 0 := ic_0 nc
      refine ⟨fun _ => ⟨by omega, ?_⟩, fun z => by rw [e1] at z; exact absurd z (by decide)⟩
      have te := turn_eq (a2 := sqx p) (b2 := slx p) (c := p.1 - X) (a := sqy p) (b := sly p) (C := p.2.1 - Y) nc (fun z => hM (m3 (by rw [ex, ey] at z; exact z)))
      rw [ex, ey] at te
      rw [e2, te]
      have ct : ctnP p X Y = ctn (sqx p) (slx p) (p.1 - X) (sqy p) (sly p) (p.2.1 - Y) := rfl
      rw [← ct]
      have e3 : tI T = tI (T0 + K + phi (p.1 - X) (p.2.1 - Y) - φ0) := by rw [← hv, vv]
      rw [← tI_add T, e3, tI_add]
      congr 1
      omega
  · have e1 := k1 (Or.inl t_1)
    refine ⟨fun z => by rw [e1] at z; exact absurd z (by decide), fun _ => ?_⟩
    left
    rcases h6 t_1 with z | z
    · omega
    · have : icP X Y p = 1 := ic_1 (Or.inl z)
      omega
theorem cvp_M {x y : Nat → Int} {on : Nat → Int32} {b i a : Nat} {X Y : Int} : (cthP (cvP x y on b i a) X Y → mth ((cvP x y on b i a).1 - X) ((cvP x y on b i a).2.1 - Y) (2 * x i - X) (2 * y i - Y) ((cvP x y on b i a).2.2.2.2.1 - X) ((cvP x y on b i a).2.2.2.2.2 - Y)) ∧ (mth ((cvP x y on b i a).1 - X) ((cvP x y on b i a).2.1 - Y) (2 * x i - X) (2 * y i - Y) ((cvP x y on b i a).2.2.2.2.1 - X) ((cvP x y on b i a).2.2.2.2.2 - Y) → cthP (cvP x y on b i a) X Y ∨ ((cvP x y on b i a).2.2.2.2.1 - X = 0 ∧ (cvP x y on b i a).2.2.2.2.2 - Y = 0)) := by
  have e3 : (cvP x y on b i a).2.2.1 = 2 * x i := rfl
  have e4 : (cvP x y on b i a).2.2.2.1 = 2 * y i := rfl
  generalize hp : cvP x y on b i a = p at *
  rw [← e3, ← e4]
  have s1 : (p.1 - X) - 2 * (p.2.2.1 - X) + (p.2.2.2.2.1 - X) = sqx p := by unfold sqx; omega
  have s2 : 2 * ((p.2.2.1 - X) - (p.1 - X)) = slx p := by unfold slx; omega
  have s3 : (p.2.1 - Y) - 2 * (p.2.2.2.1 - Y) + (p.2.2.2.2.2 - Y) = sqy p := by unfold sqy; omega
  have s4 : 2 * ((p.2.2.2.1 - Y) - (p.2.1 - Y)) = sly p := by unfold sly; omega
  refine ⟨fun h => cth_mth ?_, fun h => ?_⟩
  · rw [s1, s2, s3, s4]; exact h
  · have := mth_cth h
    rw [s1, s2, s3, s4] at this
    exact this
theorem dzI_n {α : Type} {n : Nat} (h : 0 < n) (h' : n < 2 ^ 31) (k : Option α) : dzI (nI n) k = k := by
  unfold dzI
  rw [if_neg (show ¬ nI n = 0 from fun w => absurd ((nI_eq (b := 0) h' (by omega)).mp w) (by omega))]
theorem Jmid {a b : Int64} {u v : Int} (ha : a.toInt = 2 * u) (hb : b.toInt = 2 * v) (hu : n20 u) (hv : n20 v) : J 40000 ((a + b) / (2 : Int64)) (u + v) := by
  unfold n20 at *
  have e : (a + b).toInt = 2 * u + 2 * v := by rw [jt_add (by omega), ha, hb]
  refine ⟨?_, by omega, by omega⟩
  rw [jt_div (by decide), e, show (2 : Int64).toInt = 2 from rfl, show 2 * u + 2 * v = (u + v) * 2 by omega, Int.mul_tdiv_cancel _ (by decide)]
def SAx (x : Nat → Int) (on : Nat → Int32) (f n σ j : Nat) : Int := if on (rr f n σ (j + n - 1)) = 0 then x (rr f n σ j) + x (rr f n σ (j + n - 1)) else 2 * x (rr f n σ (j + n - 1))
theorem ar_l {x y : Nat → Int} {on om : Nat → Int32} {px py : Nat → Int64} {M f n s k0 B : Nat} {X Y : Int} {xq yq : Int64} (hP : Pl2 x y px py M) (hM : M ≤ 256) (hf : f + n ≤ M) (hn : 2 ≤ n) (hs : s < n) (hk0 : k0 ≤ 1) (hB : B + 256 ≤ 16384) (ho : ∀ i, i < M → om (B + i) = on i) (hx : J 40000 xq X) (hy : J 40000 yq Y) (hE : ¬ on (rr f n (s + k0) (n - 1)) = 0 ∨ ∀ i, on (rr f n (s + k0) i) = 0) {t0 : Int32} {T0 φ0 : Int} : ∀ (e j m : Nat) (ax ay : Int64) (t v : Int32) (f1 f2 : Nat → Int64), j + e = n → e < m → J8 ax (SAx x on f n (s + k0) j - X) → J8 ay (SAx y on f n (s + k0) j - Y) → (on (rr f n (s + k0) (j + n - 1)) = 0 → on (rr f n (s + k0) j) = 0) → Iv t0 T0 φ0 t v (smz (Hr x y on f n (s + k0) (icP X Y)) j) (smz (Hr x y on f n (s + k0) (fun p => ctnP p X Y)) j) (SAx x on f n (s + k0) j - X) (SAx y on f n (s + k0) j - Y) → ∃ t' v' g1 g2, lp (L_Mo_around_222 px py om) m (nI B, nI f, xq, yq, nI n, nI (f + s), ax, ay, nI (k0 + j), nI (k0 + n), t, v, f1, f2) = some (t', v', g1, g2) ∧ Iv t0 T0 φ0 t' v' (smz (Hr x y on f n (s + k0) (icP X Y)) n) (smz (Hr x y on f n (s + k0) (fun p => ctnP p X Y)) n) (SAx x on f n (s + k0) n - X) (SAx y on f n (s + k0) n - Y) := by
  intro e
  induction e using Nat.strongRecOn with
  | ind e ih =>
    intro j m ax ay t v f1 f2 hj hm hax hay hpc hI
    obtain ⟨m, rfl⟩ := suc_of hm
    rw [e_Mo_around_222]
    unfold P_Mo_around_222b
    rcases Nat.eq_zero_or_pos e with he | he
    · rw [if_pos (nI_le (by omega) (by omega))]
      rw [show j = n by omega] at hI
      exact ⟨t, v, f1, f2, rfl, hI⟩
    rw [if_neg (nI_ge (show k0 + j < k0 + n by omega) (by omega))]
    have hmod : ∀ i, (s + k0 + i) % n < n := fun i => Nat.mod_lt _ (by omega)
    have hrM : ∀ i, rr f n (s + k0) i < M := fun i => by have := hmod i; unfold rr; omega
    have e1 : nI (f + s) - nI f + nI (k0 + j) = nI (s + k0 + j) := by
      rw [pk_sub (by omega), nI_add]; congr 1; omega
    have e2 : nI (s + k0 + j) - nI (s + k0 + j) / nI n * nI n = nI ((s + k0 + j) % n) := pk_rem (by omega) (by omega) (by omega)
    have e3 : nI (s + k0 + j + 1) - nI (s + k0 + j + 1) / nI n * nI n = nI ((s + k0 + (j + 1)) % n) := pk_rem (by omega) (by omega) (by omega)
    have e4 : nI f + nI ((s + k0 + j) % n) = nI (rr f n (s + k0) j) := nI_add _ _
    have e5 : nI f + nI ((s + k0 + (j + 1)) % n) = nI (rr f n (s + k0) (j + 1)) := nI_add _ _
    have r0 := hrM j
    have r1 := hrM (j + 1)
    have rp := hrM (j + n - 1)
    rw [e1, nI_1 (s + k0 + j), e2, e3, e4, e5, nI_add, nI_add, dzI_n (by omega) (by omega), dzI_n (by omega) (by omega)]
    rw [bdI (show B + rr f n (s + k0) j < 16384 by omega) (by omega), bdI (show B + rr f n (s + k0) (j + 1) < 16384 by omega) (by omega), nI_clamp (show B + rr f n (s + k0) j < 2 ^ 31 by omega), nI_clamp (show B + rr f n (s + k0) (j + 1) < 2 ^ 31 by omega), ho _ r0, ho _ r1]
    obtain ⟨c1, c2, c3, c4⟩ := hP _ r0
    obtain ⟨d1, d2, d3, d4⟩ := hP _ r1
    have jcx : J8 (px (rr f n (s + k0) j) - xq) (2 * x (rr f n (s + k0) j) - X) := J_sub (a := 40000) (b := 40000) ⟨c1, by unfold n20 at c3; omega, by unfold n20 at c3; omega⟩ hx (by decide)
    have jcy : J8 (py (rr f n (s + k0) j) - yq) (2 * y (rr f n (s + k0) j) - Y) := J_sub (a := 40000) (b := 40000) ⟨c2, by unfold n20 at c4; omega, by unfold n20 at c4; omega⟩ hy (by decide)
    have jdx : J8 (px (rr f n (s + k0) (j + 1)) - xq) (2 * x (rr f n (s + k0) (j + 1)) - X) := J_sub (a := 40000) (b := 40000) ⟨d1, by unfold n20 at d3; omega, by unfold n20 at d3; omega⟩ hx (by decide)
    have jdy : J8 (py (rr f n (s + k0) (j + 1)) - yq) (2 * y (rr f n (s + k0) (j + 1)) - Y) := J_sub (a := 40000) (b := 40000) ⟨d2, by unfold n20 at d4; omega, by unfold n20 at d4; omega⟩ hy (by decide)
    have jmx : J8 ((px (rr f n (s + k0) j) + px (rr f n (s + k0) (j + 1))) / 2 - xq) (x (rr f n (s + k0) j) + x (rr f n (s + k0) (j + 1)) - X) := J_sub (Jmid c1 d1 c3 d3) hx (by decide)
    have jmy : J8 ((py (rr f n (s + k0) j) + py (rr f n (s + k0) (j + 1))) / 2 - yq) (y (rr f n (s + k0) j) + y (rr f n (s + k0) (j + 1)) - Y) := J_sub (Jmid c2 d2 c4 d4) hy (by decide)
    have cl0 := nI_clamp (show rr f n (s + k0) j < 2 ^ 31 by omega)
    have cl1 := nI_clamp (show rr f n (s + k0) (j + 1) < 2 ^ 31 by omega)
    have bd0 : ∀ {α : Type} (k : Option α), bd (nI (rr f n (s + k0) j)) 256 k = k := fun k => bdI (show rr f n (s + k0) j < 256 by omega) (by omega) k
    have bd1 : ∀ {α : Type} (k : Option α), bd (nI (rr f n (s + k0) (j + 1))) 256 k = k := fun k => bdI (show rr f n (s + k0) (j + 1) < 256 by omega) (by omega) k
    have ht := hI.1
    have eprev : rr f n (s + k0) (j + 1 + n - 1) = rr f n (s + k0) j := by rw [show j + 1 + n - 1 = j + n by omega, rr_n]
    by_cases q : on (rr f n (s + k0) j) = 0
    · rw [if_pos q]
      obtain ⟨m1, m2⟩ := cvp_M (x := x) (y := y) (on := on) (b := rr f n (s + k0) (j + n - 1)) (i := rr f n (s + k0) j) (a := rr f n (s + k0) (j + 1)) (X := X) (Y := Y)
      have hH : ∀ F, Hr x y on f n (s + k0) F j = F (cvP x y on (rr f n (s + k0) (j + n - 1)) (rr f n (s + k0) j) (rr f n (s + k0) (j + 1))) := fun F => by unfold Hr; rw [if_pos q]
      have pa : (cvP x y on (rr f n (s + k0) (j + n - 1)) (rr f n (s + k0) j) (rr f n (s + k0) (j + 1))).1 = SAx x on f n (s + k0) j := rfl
      have pb : (cvP x y on (rr f n (s + k0) (j + n - 1)) (rr f n (s + k0) j) (rr f n (s + k0) (j + 1))).2.1 = SAx y on f n (s + k0) j := rfl
      have pbx : (cvP x y on (rr f n (s + k0) (j + n - 1)) (rr f n (s + k0) j) (rr f n (s + k0) (j + 1))).2.2.1 = 2 * x (rr f n (s + k0) j) := rfl
      have pby : (cvP x y on (rr f n (s + k0) (j + n - 1)) (rr f n (s + k0) j) (rr f n (s + k0) (j + 1))).2.2.2.1 = 2 * y (rr f n (s + k0) j) := rfl
      by_cases q2 : on (rr f n (s + k0) (j + 1)) = 0
      · have pcx : (cvP x y on (rr f n (s + k0) (j + n - 1)) (rr f n (s + k0) j) (rr f n (s + k0) (j + 1))).2.2.2.2.1 = x (rr f n (s + k0) j) + x (rr f n (s + k0) (j + 1)) := if_pos q2
        have pcy : (cvP x y on (rr f n (s + k0) (j + n - 1)) (rr f n (s + k0) j) (rr f n (s + k0) (j + 1))).2.2.2.2.2 = y (rr f n (s + k0) j) + y (rr f n (s + k0) (j + 1)) := if_pos q2
        generalize hp : cvP x y on (rr f n (s + k0) (j + n - 1)) (rr f n (s + k0) j) (rr f n (s + k0) (j + 1)) = p at *
        unfold P_Mo_around_346 P_Mo_around_386 P_Mo_around_428 P_Mo_around_482
        simp only [if_pos q2, bd0, bd1, cl0, cl1]
        rw [tI_all v]
        obtain ⟨t', v', g1, g2, k1, k2, k3⟩ := cur_v ht v.toInt f1 f2 hax hay jcx jcy jmx jmy
        rw [k1, some_bind]
        simp only [unp, if_pos q2]
        rw [nI_1, show k0 + j + 1 = k0 + (j + 1) by omega]
        have hs1 : SAx x on f n (s + k0) (j + 1) = p.2.2.2.2.1 := by unfold SAx; rw [eprev, if_pos q, pcx, Int.add_comm]
        have hs2 : SAx y on f n (s + k0) (j + 1) = p.2.2.2.2.2 := by unfold SAx; rw [eprev, if_pos q, pcy, Int.add_comm]
        refine ih (e - 1) (by omega) (j + 1) m _ _ t' v' g1 g2 (by omega) (by omega) (by rw [hs1, pcx]; exact jmx) (by rw [hs2, pcy]; exact jmy) (fun _ => q2) ?_
        show Iv t0 T0 φ0 t' v' (smz _ j + Hr x y on f n (s + k0) (icP X Y) j) (smz _ j + Hr x y on f n (s + k0) (fun p => ctnP p X Y) j) _ _
        rw [hH, hH, hs1, hs2]
        rw [← pa, ← pb] at hI k2 k3
        rw [← pcx, ← pcy] at k2 k3
        rw [← pbx, ← pby] at m1 m2 k2 k3
        refine Iv_s hI (tI_all v) m1 m2 (fun z => mth_end z.1 z.2) k2 (fun z1 z2 => ?_)
        obtain ⟨w1, w2⟩ := k3 z1 z2
        refine ⟨w1, w2.trans ?_⟩
        rw [show (p.1 - X) - 2 * (p.2.2.1 - X) + (p.2.2.2.2.1 - X) = sqx p from by unfold sqx; omega, show 2 * ((p.2.2.1 - X) - (p.1 - X)) = slx p from by unfold slx; omega, show (p.2.1 - Y) - 2 * (p.2.2.2.1 - Y) + (p.2.2.2.2.2 - Y) = sqy p from by unfold sqy; omega, show 2 * ((p.2.2.2.1 - Y) - (p.2.1 - Y)) = sly p from by unfold sly; omega]
      · have pcx : (cvP x y on (rr f n (s + k0) (j + n - 1)) (rr f n (s + k0) j) (rr f n (s + k0) (j + 1))).2.2.2.2.1 = 2 * x (rr f n (s + k0) (j + 1)) := if_neg q2
        have pcy : (cvP x y on (rr f n (s + k0) (j + n - 1)) (rr f n (s + k0) j) (rr f n (s + k0) (j + 1))).2.2.2.2.2 = 2 * y (rr f n (s + k0) (j + 1)) := if_neg q2
        generalize hp : cvP x y on (rr f n (s + k0) (j + n - 1)) (rr f n (s + k0) j) (rr f n (s + k0) (j + 1)) = p at *
        unfold P_Mo_around_346 P_Mo_around_386 P_Mo_around_428 P_Mo_around_482
        simp only [if_neg q2, bd0, bd1, cl0, cl1]
        rw [tI_all v]
        obtain ⟨t', v', g1, g2, k1, k2, k3⟩ := cur_v ht v.toInt f1 f2 hax hay jcx jcy jdx jdy
        rw [k1, some_bind]
        simp only [unp, if_neg q2]
        rw [show nI (k0 + j) + 2 = nI (k0 + (j + 2)) from nI_add (k0 + j) 2]
        have hj2 : j + 2 ≤ n := by
          rcases hE with w | w
          · rcases Nat.lt_or_ge (j + 1) n with z | z
            · omega
            · rw [show n - 1 = j by omega] at w; exact absurd q w
          · exact absurd (w (j + 1)) q2
        have eprev2 : rr f n (s + k0) (j + 2 + n - 1) = rr f n (s + k0) (j + 1) := by rw [show j + 2 + n - 1 = j + 1 + n by omega, rr_n]
        have hs1 : SAx x on f n (s + k0) (j + 2) = p.2.2.2.2.1 := by unfold SAx; rw [eprev2, if_neg q2, pcx]
        have hs2 : SAx y on f n (s + k0) (j + 2) = p.2.2.2.2.2 := by unfold SAx; rw [eprev2, if_neg q2, pcy]
        have hH1 : ∀ F, Hr x y on f n (s + k0) F (j + 1) = 0 := fun F => by unfold Hr; rw [if_neg q2, eprev, if_pos q]
        refine ih (e - 2) (by omega) (j + 2) m _ _ t' v' g1 g2 (by omega) (by omega) (by rw [hs1, pcx]; exact jdx) (by rw [hs2, pcy]; exact jdy) (fun w => by rw [eprev2] at w; exact absurd w q2) ?_
        show Iv t0 T0 φ0 t' v' (smz _ j + Hr x y on f n (s + k0) (icP X Y) j + Hr x y on f n (s + k0) (icP X Y) (j + 1)) (smz _ j + Hr x y on f n (s + k0) (fun p => ctnP p X Y) j + Hr x y on f n (s + k0) (fun p => ctnP p X Y) (j + 1)) _ _
        rw [hH, hH, hH1, hH1, Int.add_zero, Int.add_zero, hs1, hs2]
        rw [← pa, ← pb] at hI k2 k3
        rw [← pcx, ← pcy] at k2 k3
        rw [← pbx, ← pby] at m1 m2 k2 k3
        refine Iv_s hI (tI_all v) m1 m2 (fun z => mth_end z.1 z.2) k2 (fun z1 z2 => ?_)
        obtain ⟨w1, w2⟩ := k3 z1 z2
        refine ⟨w1, w2.trans ?_⟩
        rw [show (p.1 - X) - 2 * (p.2.2.1 - X) + (p.2.2.2.2.1 - X) = sqx p from by unfold sqx; omega, show 2 * ((p.2.2.1 - X) - (p.1 - X)) = slx p from by unfold slx; omega, show (p.2.1 - Y) - 2 * (p.2.2.2.1 - Y) + (p.2.2.2.2.2 - Y) = sqy p from by unfold sqy; omega, show 2 * ((p.2.2.2.1 - Y) - (p.2.1 - Y)) = sly p from by unfold sly; omega]
    · rw [if_neg q]
      have qp : ¬ on (rr f n (s + k0) (j + n - 1)) = 0 := fun w => q (hpc w)
      simp only [bd0, cl0]
      rw [tI_all v]
      obtain ⟨t', v', k1, k2, k3⟩ := lin_v ht v.toInt hax hay jcx jcy
      rw [k1, some_bind]
      simp only [unp]
      rw [nI_1, show k0 + j + 1 = k0 + (j + 1) by omega]
      have hs1 : SAx x on f n (s + k0) (j + 1) = 2 * x (rr f n (s + k0) j) := by unfold SAx; rw [eprev, if_neg q]
      have hs2 : SAx y on f n (s + k0) (j + 1) = 2 * y (rr f n (s + k0) j) := by unfold SAx; rw [eprev, if_neg q]
      have hH : ∀ F, Hr x y on f n (s + k0) F j = F (lnP x y (rr f n (s + k0) (j + n - 1)) (rr f n (s + k0) j)) := fun F => by unfold Hr; rw [if_neg q, if_neg qp]
      have pa : SAx x on f n (s + k0) j = (lnP x y (rr f n (s + k0) (j + n - 1)) (rr f n (s + k0) j)).1 := if_neg qp
      have pb : SAx y on f n (s + k0) j = (lnP x y (rr f n (s + k0) (j + n - 1)) (rr f n (s + k0) j)).2.1 := if_neg qp
      have pc : 2 * x (rr f n (s + k0) j) = (lnP x y (rr f n (s + k0) (j + n - 1)) (rr f n (s + k0) j)).2.2.2.2.1 := rfl
      have pd : 2 * y (rr f n (s + k0) j) = (lnP x y (rr f n (s + k0) (j + n - 1)) (rr f n (s + k0) j)).2.2.2.2.2 := rfl
      have px0 : sqx (lnP x y (rr f n (s + k0) (j + n - 1)) (rr f n (s + k0) j)) = 0 := by unfold sqx lnP; dsimp only; omega
      have py0 : sqy (lnP x y (rr f n (s + k0) (j + n - 1)) (rr f n (s + k0) j)) = 0 := by unfold sqy lnP; dsimp only; omega
      have px1 : slx (lnP x y (rr f n (s + k0) (j + n - 1)) (rr f n (s + k0) j)) = ((lnP x y (rr f n (s + k0) (j + n - 1)) (rr f n (s + k0) j)).2.2.2.2.1 - X) - ((lnP x y (rr f n (s + k0) (j + n - 1)) (rr f n (s + k0) j)).1 - X) := by unfold slx lnP; dsimp only; omega
      have py1 : sly (lnP x y (rr f n (s + k0) (j + n - 1)) (rr f n (s + k0) j)) = ((lnP x y (rr f n (s + k0) (j + n - 1)) (rr f n (s + k0) j)).2.2.2.2.2 - Y) - ((lnP x y (rr f n (s + k0) (j + n - 1)) (rr f n (s + k0) j)).2.1 - Y) := by unfold sly lnP; dsimp only; omega
      refine ih (e - 1) (by omega) (j + 1) m _ _ t' v' f1 f2 (by omega) (by omega) (by rw [hs1]; exact jcx) (by rw [hs2]; exact jcy) (fun w => by rw [eprev] at w; exact absurd w q) ?_
      show Iv t0 T0 φ0 t' v' (smz _ j + Hr x y on f n (s + k0) (icP X Y) j) (smz _ j + Hr x y on f n (s + k0) (fun p => ctnP p X Y) j) _ _
      rw [hH, hH, hs1, hs2]
      rw [pa, pb, pc, pd] at k2 k3
      rw [pa, pb] at hI
      rw [pc, pd]
      generalize lnP x y (rr f n (s + k0) (j + n - 1)) (rr f n (s + k0) j) = p at *
      have cp : cthP p X Y ↔ cth 0 (p.2.2.2.2.1 - X - (p.1 - X)) (p.1 - X) 0 (p.2.2.2.2.2 - Y - (p.2.1 - Y)) (p.2.1 - Y) := by unfold cthP; rw [px0, py0, px1, py1]
      refine Iv_s hI (tI_all v) (fun z => touch_l1 (cp.mp z)) (fun z => (touch_l2 z.1 z.2).imp cp.mpr id) (fun z => ⟨by rw [z.1, z.2, Int.mul_zero, Int.zero_mul]; rfl, by rw [z.1, z.2, Int.mul_zero, Int.mul_zero]; decide⟩) k2 (fun z1 z2 => ?_)
      obtain ⟨w1, w2⟩ := k3 z1 z2
      exact ⟨w1, by rw [px0, py0, px1, py1]; exact w2⟩
def Jv (t0 : Int32) (T0 : Int) (t v : Int32) (S K : Int) : Prop := (t = 0 ∨ t = 1) ∧ (t0 = 1 → t = 1) ∧ (t0 = 0 → (t = 0 → S = 0 ∧ v = tI (T0 + K)) ∧ (t = 1 → S ≠ 0))
theorem ic_n (X Y : Int) (p : Pc) : 0 ≤ icP X Y p := by rcases ic_b (cthP p X Y) with h | h <;> (unfold icP; omega)
theorem Hr_n (x y : Nat → Int) (on : Nat → Int32) (f n σ : Nat) (X Y : Int) (j : Nat) : 0 ≤ Hr x y on f n σ (icP X Y) j := by
  unfold Hr
  split
  · exact ic_n X Y _
  split
  · exact Int.le_refl 0
  · exact ic_n X Y _
theorem ar_222 {x y : Nat → Int} {on om : Nat → Int32} {px py : Nat → Int64} {M f n s k0 B : Nat} {X Y : Int} {xq yq : Int64} (hP : Pl2 x y px py M) (hM : M ≤ 256) (hf : f + n ≤ M) (hn : 2 ≤ n) (hs : s < n) (hk0 : k0 ≤ 1) (hB : B + 256 ≤ 16384) (ho : ∀ i, i < M → om (B + i) = on i) (hx : J 40000 xq X) (hy : J 40000 yq Y) (hE : ¬ on (rr f n (s + k0) (n - 1)) = 0 ∨ ∀ i, on (rr f n (s + k0) i) = 0) {t0 : Int32} (ht0 : t0 = 0 ∨ t0 = 1) (T0 : Int) (ax ay : Int64) (f1 f2 : Nat → Int64) (hax : J8 ax (SAx x on f n (s + k0) 0 - X)) (hay : J8 ay (SAx y on f n (s + k0) 0 - Y)) (hpc : on (rr f n (s + k0) (0 + n - 1)) = 0 → on (rr f n (s + k0) 0) = 0) : ∃ t' v' g1 g2, P_Mo_around_222 px py om (nI B) (nI f) xq yq (nI n) (nI (f + s)) ax ay (nI k0) (nI (k0 + n)) t0 (tI T0) f1 f2 = some (t', v', g1, g2) ∧ Jv t0 T0 t' v' (sumL (icP X Y) (cl x y on f (f + n - 1) n)) (sumL (fun p => ctnP p X Y) (cl x y on f (f + n - 1) n)) := by
  unfold P_Mo_around_222
  have h0 : Iv t0 T0 (phi (SAx x on f n (s + k0) 0 - X) (SAx y on f n (s + k0) 0 - Y)) t0 (tI T0) (smz (Hr x y on f n (s + k0) (icP X Y)) 0) (smz (Hr x y on f n (s + k0) (fun p => ctnP p X Y)) 0) (SAx x on f n (s + k0) 0 - X) (SAx y on f n (s + k0) 0 - Y) := by
    refine ⟨ht0, Int.le_refl 0, id, fun w => ⟨fun _ => ⟨rfl, ?_⟩, fun z => by rw [w] at z; exact absurd z (by decide)⟩⟩
    show tI T0 = tI (T0 + 0 + _ - _)
    congr 1
    omega
  obtain ⟨t', v', g1, g2, k1, k2⟩ := ar_l hP hM hf hn hs hk0 hB ho hx hy hE n 0 fuel ax ay t0 (tI T0) f1 f2 (by omega) (by unfold fuel; omega) hax hay hpc h0
  rw [Nat.add_zero] at k1
  refine ⟨t', v', g1, g2, k1, ?_⟩
  rw [cl_s x y on f n (s + k0) hn, cl_s x y on f n (s + k0) hn]
  have en : rr f n (s + k0) n = rr f n (s + k0) 0 := by have := rr_n f n (s + k0) 0; rwa [Nat.zero_add] at this
  have ep : rr f n (s + k0) (n + n - 1) = rr f n (s + k0) (0 + n - 1) := by rw [show n + n - 1 = n - 1 + n by omega, rr_n, Nat.zero_add]
  have sx : SAx x on f n (s + k0) n = SAx x on f n (s + k0) 0 := by unfold SAx; rw [en, ep]
  have sy : SAx y on f n (s + k0) n = SAx y on f n (s + k0) 0 := by unfold SAx; rw [en, ep]
  rw [sx, sy] at k2
  obtain ⟨i1, i2, i3, i4⟩ := k2
  refine ⟨i1, i3, fun w => ?_⟩
  obtain ⟨i5, i6⟩ := i4 w
  refine ⟨fun z => ⟨(i5 z).1, (i5 z).2.trans (congrArg tI (by omega))⟩, fun z => ?_⟩
  rcases i6 z with c | c
  · exact c
  · have hle := (smz_0 (f := Hr x y on f n (s + k0) (icP X Y)) n (fun i _ => Hr_n x y on f n (s + k0) X Y i)).2 0 (by omega)
    have h1 : Hr x y on f n (s + k0) (icP X Y) 0 = 1 := by
      unfold Hr
      by_cases q : on (rr f n (s + k0) 0) = 0
      · rw [if_pos q]
        exact ic_1 (Or.inl c)
      · rw [if_neg q]
        have qp : ¬ on (rr f n (s + k0) (0 + n - 1)) = 0 := fun w => q (hpc w)
        rw [if_neg qp]
        refine ic_1 (Or.inl ?_)
        unfold SAx at c
        rw [if_neg qp, if_neg qp] at c
        exact c
    omega
theorem one_c {x y : Nat → Int} {f : Nat} {X Y : Int} : (cthP (lnP x y f f) X Y ↔ (2 * x f = X ∧ 2 * y f = Y)) ∧ ctnP (lnP x y f f) X Y = 0 := by
  have a1 : sqx (lnP x y f f) = 0 := by unfold sqx lnP; dsimp only; omega
  have a2 : slx (lnP x y f f) = 0 := by unfold slx lnP; dsimp only; omega
  have a3 : sqy (lnP x y f f) = 0 := by unfold sqy lnP; dsimp only; omega
  have a4 : sly (lnP x y f f) = 0 := by unfold sly lnP; dsimp only; omega
  have a5 : (lnP x y f f).1 = 2 * x f := rfl
  have a6 : (lnP x y f f).2.1 = 2 * y f := rfl
  unfold cthP ctnP ctn cth cov
  rw [a1, a2, a3, a4, a5, a6, if_pos ⟨rfl, rfl⟩]
  refine ⟨⟨fun h => ?_, fun h => Or.inl ⟨by omega, by omega⟩⟩, rfl⟩
  rcases h with h | h | h
  · omega
  · obtain ⟨_, _, h1, h2⟩ := h
    rcases h2 with h2 | h2 | h2 | h2
    · omega
    · omega
    · omega
    · have := h2.1; omega
  · exact absurd ⟨rfl, rfl⟩ h.1
theorem ar_v {x y : Nat → Int} {on om : Nat → Int32} {px py : Nat → Int64} {M f n B : Nat} {X Y : Int} {xq yq : Int64} (hP : Pl2 x y px py M) (hM : M ≤ 256) (hf : f + n ≤ M) (hn : 1 ≤ n) (hB : B + 256 ≤ 16384) (ho : ∀ i, i < M → om (B + i) = on i) (hx : J 40000 xq X) (hy : J 40000 yq Y) {t0 : Int32} (ht0 : t0 = 0 ∨ t0 = 1) (T0 : Int) (f1 f2 : Nat → Int64) : ∃ t' v' g1 g2, P_Mo_around t0 (tI T0) px py f1 f2 om (nI B) (nI f) (nI (f + n)) xq yq = some (t', v', g1, g2) ∧ Jv t0 T0 t' v' (sumL (icP X Y) (cl x y on f (f + n - 1) n)) (sumL (fun p => ctnP p X Y) (cl x y on f (f + n - 1) n)) := by
  unfold P_Mo_around
  rw [pk_sub (by omega), show f + n - f = n by omega]
  have pJ : ∀ i, i < M → J 40000 (px i) (2 * x i) ∧ J 40000 (py i) (2 * y i) := fun i hi => by
    obtain ⟨a, b, c, d⟩ := hP i hi
    unfold n20 at c d
    exact ⟨⟨a, by omega, by omega⟩, ⟨b, by omega, by omega⟩⟩
  by_cases h1 : n = 1
  · subst h1
    rw [if_pos (show nI 1 = 1 from rfl)]
    rw [bdI (show f < 256 by omega) (by omega), bdI (show f < 256 by omega) (by omega), nI_clamp (show f < 2 ^ 31 by omega)]
    obtain ⟨jx, jy⟩ := pJ f (by omega)
    obtain ⟨o1, o2⟩ := one_c (x := x) (y := y) (f := f) (X := X) (Y := Y)
    rw [show f + 1 - 1 = f by omega, cl_1, cl_1, o2]
    have res : ∀ t', ((2 * x f = X ∧ 2 * y f = Y) → t' = 1) → (¬ (2 * x f = X ∧ 2 * y f = Y) → t' = t0) → Jv t0 T0 t' (tI T0) (icP X Y (lnP x y f f)) 0 := by
      intro t' w1 w2
      by_cases z : 2 * x f = X ∧ 2 * y f = Y
      · rw [w1 z]
        refine ⟨Or.inr rfl, fun _ => rfl, fun _ => ⟨fun w => absurd w (by decide), fun _ => ?_⟩⟩
        have : icP X Y (lnP x y f f) = 1 := ic_1 (o1.mpr z)
        omega
      · rw [w2 z]
        have : icP X Y (lnP x y f f) = 0 := ic_0 (fun w => z (o1.mp w))
        refine ⟨ht0, id, fun w => ⟨fun _ => ⟨this, by rw [Int.add_zero]⟩, fun y => by rw [w] at y; exact absurd y (by decide)⟩⟩
    by_cases q1 : 2 * x f = X
    · rw [if_pos ((J_eq jx hx).mpr q1)]
      by_cases q2 : 2 * y f = Y
      · rw [if_pos ((J_eq jy hy).mpr q2)]
        exact ⟨_, _, _, _, rfl, res 1 (fun _ => rfl) (fun w => absurd ⟨q1, q2⟩ w)⟩
      · rw [if_neg (fun w => q2 ((J_eq jy hy).mp w))]
        exact ⟨_, _, _, _, rfl, res t0 (fun w => absurd w.2 q2) (fun _ => rfl)⟩
    · rw [if_neg (fun w => q1 ((J_eq jx hx).mp w))]
      exact ⟨_, _, _, _, rfl, res t0 (fun w => absurd w.1 q1) (fun _ => rfl)⟩
  have hn2 : 2 ≤ n := by omega
  rw [if_neg (show ¬ nI n = 1 from fun w => h1 ((nI_eq (b := 1) (by omega) (by omega)).mp w))]
  have srch : ∀ (e i m : Nat), i + e = n → e < m → (∀ j, j < i → on (f + j) = 0) → ∃ s, s ≤ n ∧ (∀ j, j < s → on (f + j) = 0) ∧ (s < n → ¬ on (f + s) = 0) ∧ lp (L_Mo_around_44 px py om) m (nI B, nI f, nI (f + n), xq, yq, nI n, nI (f + i), t0, tI T0, f1, f2) = P_Mo_around_71 px py om (nI B) (nI f) (nI (f + n)) xq yq (nI n) (nI (f + s)) t0 (tI T0) f1 f2 := by
    intro e
    induction e with
    | zero =>
      intro i m hi hm h
      obtain ⟨m, rfl⟩ := suc_of hm
      rw [e_Mo_around_44]
      unfold P_Mo_around_44b
      rw [if_pos (nI_le (by omega) (by omega))]
      exact ⟨i, by omega, h, fun w => absurd w (by omega), rfl⟩
    | succ e ih =>
      intro i m hi hm h
      obtain ⟨m, rfl⟩ := suc_of hm
      rw [e_Mo_around_44]
      unfold P_Mo_around_44b
      rw [if_neg (nI_ge (show f + i < f + n by omega) (by omega)), nI_add, bdI (show B + (f + i) < 16384 by omega) (by omega), nI_clamp (show B + (f + i) < 2 ^ 31 by omega), ho _ (by omega)]
      by_cases q : on (f + i) = 0
      · rw [if_pos q, nI_1]
        exact ih (i + 1) m (by omega) (by omega) (fun j hj => by
          rcases Nat.lt_or_ge j i with w | w
          · exact h j w
          · rw [show j = i by omega]; exact q)
      · rw [if_neg q]
        exact ⟨i, by omega, h, fun _ => q, rfl⟩
  obtain ⟨s, s1, s2, s3, s4⟩ := srch n 0 fuel (by omega) (by unfold fuel; omega) (fun j hj => absurd hj (by omega))
  unfold P_Mo_around_44
  rw [Nat.add_zero] at s4
  rw [s4]
  unfold P_Mo_around_71 P_Mo_around_82
  rcases Nat.lt_or_ge s n with hs | hs
  · have on_s := s3 hs
    rw [if_neg (fun w => absurd ((nI_eq (by omega) (by omega)).mp w) (by omega)), if_pos rfl]
    unfold P_Mo_around_92 P_Mo_around_108
    have e92 : ∀ a b : Int32, (if nI (f + s) = nI f then (if (0 : Int32) = 0 then bd (nI (f + s)) 256 (P_Mo_around_150 px py om (nI B) (nI f) xq yq (nI n) (nI (f + s)) 0 a (px (nI (f + s)).toNatClampNeg - xq) t0 (tI T0) f1 f2) else bd a 256 (bd (nI (f + s)) 256 (P_Mo_around_150 px py om (nI B) (nI f) xq yq (nI n) (nI (f + s)) 0 a ((px a.toNatClampNeg + px (nI (f + s)).toNatClampNeg) / 2 - xq) t0 (tI T0) f1 f2))) else (if (0 : Int32) = 0 then bd (nI (f + s)) 256 (P_Mo_around_150 px py om (nI B) (nI f) xq yq (nI n) (nI (f + s)) 0 b (px (nI (f + s)).toNatClampNeg - xq) t0 (tI T0) f1 f2) else bd b 256 (bd (nI (f + s)) 256 (P_Mo_around_150 px py om (nI B) (nI f) xq yq (nI n) (nI (f + s)) 0 b ((px b.toNatClampNeg + px (nI (f + s)).toNatClampNeg) / 2 - xq) t0 (tI T0) f1 f2)))) = P_Mo_around_222 px py om (nI B) (nI f) xq yq (nI n) (nI (f + s)) (px (f + s) - xq) (py (f + s) - yq) (nI 1) (nI (1 + n)) t0 (tI T0) f1 f2 := by
      intro a b
      rw [if_pos rfl, if_pos rfl]
      unfold P_Mo_around_150 P_Mo_around_192 P_Mo_around_204 P_Mo_around_220
      rw [if_pos rfl, if_pos rfl, if_pos rfl, if_pos rfl]
      rw [bdI (show f + s < 256 by omega) (by omega), bdI (show f + s < 256 by omega) (by omega), nI_clamp (show f + s < 2 ^ 31 by omega), nI_1 n, Nat.add_comm n 1]
      split <;> rfl
    rw [e92]
    have hmod : rr f n (s + 1) (n - 1) = f + s := by
      unfold rr
      rw [show s + 1 + (n - 1) = s + n by omega, Nat.add_mod_right, Nat.mod_eq_of_lt hs]
    obtain ⟨jx, jy⟩ := pJ (f + s) (by omega)
    have hz : rr f n (s + 1) (0 + n - 1) = f + s := by rw [Nat.zero_add]; exact hmod
    refine ar_222 hP hM hf hn2 hs (Nat.le_refl 1) hB ho hx hy (Or.inl (by rw [hmod]; exact on_s)) ht0 T0 _ _ f1 f2 ?_ ?_ (fun w => by rw [hz] at w; exact absurd w on_s)
    · have : SAx x on f n (s + 1) 0 = 2 * x (f + s) := by unfold SAx; rw [hz, if_neg on_s]
      rw [this]; exact J_sub jx hx (by decide)
    · have : SAx y on f n (s + 1) 0 = 2 * y (f + s) := by unfold SAx; rw [hz, if_neg on_s]
      rw [this]; exact J_sub jy hy (by decide)
  · have es : s = n := by omega
    subst es
    rw [if_pos rfl, if_neg (by decide)]
    unfold P_Mo_around_92 P_Mo_around_108
    rw [if_pos rfl, if_neg (by decide)]
    unfold P_Mo_around_150 P_Mo_around_192 P_Mo_around_204 P_Mo_around_220
    rw [if_neg (by decide), if_neg (by decide), if_neg (by decide)]
    rw [show (1 : Int32) = nI 1 from rfl, pk_sub (by omega)]
    simp only [bdI (show f + s - 1 < 256 by omega) (show 256 < 2 ^ 31 by omega), bdI (show f < 256 by omega) (show 256 < 2 ^ 31 by omega), nI_clamp (show f + s - 1 < 2 ^ 31 by omega), nI_clamp (show f < 2 ^ 31 by omega)]
    have alloff : ∀ i, on (rr f s (0 + 0) i) = 0 := fun i => s2 _ (Nat.mod_lt _ (by omega))
    have h0 : rr f s (0 + 0) 0 = f := by unfold rr; rw [show 0 + 0 + 0 = 0 from rfl, Nat.zero_mod]; rfl
    have hp : rr f s (0 + 0) (0 + s - 1) = f + s - 1 := by
      unfold rr
      rw [show 0 + 0 + (0 + s - 1) = s - 1 by omega, Nat.mod_eq_of_lt (by omega)]; omega
    obtain ⟨a1, a2, a3, a4⟩ := hP (f + s - 1) (by omega)
    obtain ⟨b1, b2, b3, b4⟩ := hP f (by omega)
    have key := ar_222 (s := 0) (k0 := 0) hP hM hf hn2 (by omega) (by omega) hB ho hx hy (Or.inr alloff) ht0 T0 ((px (f + s - 1) + px f) / 2 - xq) ((py (f + s - 1) + py f) / 2 - yq) f1 f2 (by
      have : SAx x on f s (0 + 0) 0 = x (f + s - 1) + x f := by unfold SAx; rw [if_pos (alloff _), h0, hp, Int.add_comm]
      rw [this]; exact J_sub (Jmid a1 b1 a3 b3) hx (by decide)) (by
      have : SAx y on f s (0 + 0) 0 = y (f + s - 1) + y f := by unfold SAx; rw [if_pos (alloff _), h0, hp, Int.add_comm]
      rw [this]; exact J_sub (Jmid a2 b2 a4 b4) hy (by decide)) (fun _ => alloff 0)
    rw [Nat.zero_add, Nat.add_zero] at key
    exact key
