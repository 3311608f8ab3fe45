/-! PURE ROWS: the class's fill (printed by wip/whole/gen/fill.py) -/
def sfx (tu : Nat → Int32) (W : Nat) : Nat → Int32
  | 0 => 0
  | n + 1 => sfx tu W n + tu (W - n)
theorem sfx_u (tu : Nat → Int32) (W c : Nat) (w : Int32) (hc : c ≤ W) : ∀ n, n ≤ W → sfx (upd tu c (tu c + w)) W n = sfx tu W n + (if W - c < n then w else 0) := by
  intro n
  induction n with
  | zero => intro _; rw [if_neg (by omega)]; rfl
  | succ n ih =>
    intro hn
    show sfx (upd tu c (tu c + w)) W n + upd tu c (tu c + w) (W - n) = sfx tu W n + tu (W - n) + _
    rw [ih (by omega)]
    rcases Nat.lt_trichotomy (W - c) n with z | z | z
    · rw [if_pos z, if_pos (by omega), pk_un (by omega)]
      simp only [Int32.add_assoc]
      rw [Int32.add_comm w]
    · rw [if_neg (by omega), if_pos (by omega), show W - n = c by omega, pk_us, Int32.add_zero]
      simp only [Int32.add_assoc]
    · rw [if_neg (by omega), if_neg (by omega), pk_un (by omega), Int32.add_zero, Int32.add_zero]
theorem sfx_z {tu : Nat → Int32} {W : Nat} (h : ∀ k, k ≤ W → tu k = 0) : ∀ n, n ≤ W → sfx tu W n = 0 := by
  intro n
  induction n with
  | zero => intro _; rfl
  | succ n ih => intro hn; show sfx tu W n + tu (W - n) = 0; rw [ih (by omega), h _ (by omega)]; rfl
def cx (i : Nat) : Int := 128 * (i : Int) + 64
def RowI (P : List Pc) (W : Nat) (Y : Int) (t : Int64) (tu : Nat → Int32) : Prop := (∀ i, tb t i ↔ i < W ∧ ∃ p, p ∈ P ∧ cthP p (cx i) Y) ∧ ∀ i, i < W → sfx tu W (W - i) = tI (sumL (fun p => ctnP p (cx i) Y) P)
theorem RowI_s {P : List Pc} {p : Pc} {W : Nat} {Y : Int} {t t' : Int64} {tu tu' : Nat → Int32} (h : RowI P W Y t tu) (h1 : ∀ i, tb t' i ↔ tb t i ∨ (i < W ∧ cthP p (cx i) Y)) (h2 : ∀ i, i < W → sfx tu' W (W - i) = sfx tu W (W - i) + tI (ctnP p (cx i) Y)) : RowI (P ++ [p]) W Y t' tu' := by
  refine ⟨fun i => ?_, fun i hi => ?_⟩
  · rw [h1, h.1]
    constructor
    · rintro (⟨z1, q, z2, z3⟩ | ⟨z1, z2⟩)
      · exact ⟨z1, q, List.mem_append_left _ z2, z3⟩
      · exact ⟨z1, p, List.mem_append_right _ List.mem_cons_self, z2⟩
    · rintro ⟨z1, q, z2, z3⟩
      rcases List.mem_append.mp z2 with v | v
      · exact Or.inl ⟨z1, q, v, z3⟩
      · rcases List.mem_cons.mp v with v | v
        · subst v; exact Or.inr ⟨z1, z3⟩
        · exact absurd v List.not_mem_nil
  · rw [h2 i hi, h.2 i hi, sumL_app, tI_add]
    congr 1
    show sumL _ P + ctnP p (cx i) Y = sumL _ P + (ctnP p (cx i) Y + 0)
    omega
theorem tI_one (q : Prop) (i : Decidable q) (w' : Int32) (w : Int) (hw : w' = tI w) (b : Prop) (j : Decidable b) (e : b ↔ q) : (if b then w' else 0) = tI (w * one (decide q)) := by
  by_cases h : b
  · rw [if_pos h, one_t _ (e.mp h), Int.mul_one, hw]
  · rw [if_neg h, one_f _ (fun z => h (e.mpr z)), Int.mul_zero]; rfl
theorem row77 {p : Pc} {P : List Pc} {k W cnt R : Nat} {Y : Int} {jj y : Int32} {sx sy le ri tp bo lx ly qx qy : Nat → Int32} (hk : k < 256) (hW : W ≤ 64) (hV : Val p (sx k) (sy k) (le k) (ri k) (tp k) (bo k) (lx k) (ly k) (qx k) (qy k)) (hy : y.toInt = Y) (by_ : n40 Y) (hin : (tp k).toInt ≤ Y ∧ Y ≤ (bo k).toInt) (z : Int32 × Int32 × Int32 × Int64 × (Nat → Int64) × (Nat → Int32) → Option (Int32 × Int64 × (Nat → Int64) × (Nat → Int32))) (rows : Nat → Int64) (t t1 : Int64) (tu : Nat → Int32) (hR : RowI P W Y t tu) (ht1 : ∀ i, tb t1 i ↔ tb t i ∨ (i < W ∧ (p.1 - cx i = 0 ∧ p.2.1 - Y = 0))) : ∃ t' tu', P_Pg_fillRow_77 (nI W) R (W + 1) (nI cnt) sx sy le ri tp bo lx ly qx qy z jj y (nI k) t1 rows tu = z (jj, y, nI (k + 1), t', rows, tu') ∧ RowI (P ++ [p]) W Y t' tu' := by
  obtain ⟨hB, v1, v2, ⟨v3, v4, v5, v6⟩, v7, v8, v9, v10⟩ := hV
  have hK : CvK p k sx sy lx ly qx qy := ⟨hB, v1, v2, v7, v8, v9, v10⟩
  unfold P_Pg_fillRow_77
  rw [flat_v hk hK, some_bind]
  by_cases q : sqy p = 0 ∧ sly p = 0
  · rw [bI_1 q, if_neg (by decide)]
    obtain ⟨t', e1, e2⟩ := tfl_v hk hW hK v3 v4 t1
    rw [e1, some_bind]
    unfold P_Pg_fillRow_137
    rw [nI_1]
    have hC : p.2.1 - Y = 0 := by
      unfold sqy sly at q
      omega
    refine ⟨t', tu, rfl, RowI_s hR (fun i => ?_) (fun i hi => ?_)⟩
    · rw [e2, ht1]
      constructor
      · rintro ((v | v) | v)
        · exact Or.inl v
        · exact Or.inr ⟨v.1, Or.inl v.2⟩
        · exact Or.inr ⟨v.1, Or.inr (Or.inl ⟨q.1, q.2, hC, v.2⟩)⟩
      · rintro (v | ⟨v, x⟩)
        · exact Or.inl (Or.inl v)
        · rcases x with x | x | x
          · exact Or.inl (Or.inr ⟨v, x⟩)
          · exact Or.inr ⟨v, x.2.2.2⟩
          · exact absurd q x.1
    · unfold ctnP ctn
      rw [if_pos q]
      show _ = _ + (0 : Int32)
      rw [Int32.add_zero]
  rw [bI_0 q, if_pos rfl]
  obtain ⟨r, e1, e2, e3⟩ := crs_v hk hK hy by_
  rw [e1, some_bind]
  have dn : ∃ t2 tu2, (if r &&& 1 = 0 then P_Pg_fillRow_121 (nI W) R (W + 1) (nI cnt) sx sy le ri tp bo lx ly qx qy z jj y (nI k) r t1 rows tu else (P_Pg_cross (nI W) t1 (W + 1) tu sx sy le ri lx ly qx qy (nI k) 1 y).bind (unp fun n_5 n_6 => P_Pg_fillRow_121 (nI W) R (W + 1) (nI cnt) sx sy le ri tp bo lx ly qx qy z jj y (nI k) r n_5 rows n_6)) = P_Pg_fillRow_121 (nI W) R (W + 1) (nI cnt) sx sy le ri tp bo lx ly qx qy z jj y (nI k) r t2 rows tu2 ∧ (∀ i, tb t2 i ↔ tb t1 i ∨ (i < W ∧ wdn (sqy p) (sly p) (p.2.1 - Y) ∧ sdP 1 p (cx i) Y = 0)) ∧ ∀ i, i < W → sfx tu2 W (W - i) = sfx tu W (W - i) + tI (one (decide (wdn (sqy p) (sly p) (p.2.1 - Y) ∧ 0 < sdP 1 p (cx i) Y))) := by
    by_cases d : wdn (sqy p) (sly p) (p.2.1 - Y)
    · rw [if_neg (fun x => (e2.mp x) d)]
      obtain ⟨t2, c, f1, f2, f3, f4⟩ := crs_x (tu := tu) hk hW hK v3 v4 (w := 1) (w' := 1) (Or.inl ⟨rfl, rfl⟩) hy by_ (Or.inl ⟨rfl, d⟩) q t1
      rw [f1, some_bind]
      refine ⟨t2, _, rfl, fun i => (f4 i).trans ⟨fun x => x.imp id (fun x => ⟨x.1, d, x.2⟩), fun x => x.imp id (fun x => ⟨x.1, x.2.2⟩)⟩, fun i hi => ?_⟩
      rw [sfx_u tu W c 1 f2 _ (by omega), tI_one (wdn (sqy p) (sly p) (p.2.1 - Y) ∧ 0 < sdP 1 p (cx i) Y) inferInstance 1 1 rfl _ _ ⟨fun x => ⟨d, (f3 i hi).mp (by omega)⟩, fun x => by have := (f3 i hi).mpr x.2; omega⟩, Int.one_mul]
    · rw [if_pos (e2.mpr d)]
      refine ⟨t1, tu, rfl, fun i => ⟨Or.inl, fun x => x.elim id (fun x => absurd x.2.1 d)⟩, fun i hi => ?_⟩
      rw [one_f _ (fun x => d x.1)]
      show _ = _ + (0 : Int32)
      rw [Int32.add_zero]
  obtain ⟨t2, tu2, g1, g2, g3⟩ := dn
  rw [g1]
  unfold P_Pg_fillRow_121
  have up : ∃ t3 tu3, (if r &&& 2 = 0 then P_Pg_fillRow_137 (nI W) R (W + 1) (nI cnt) sx sy le ri tp bo lx ly qx qy z jj y (nI k) t2 rows tu2 else (P_Pg_cross (nI W) t2 (W + 1) tu2 sx sy le ri lx ly qx qy (nI k) (-1) y).bind (unp fun n_2 n_3 => P_Pg_fillRow_137 (nI W) R (W + 1) (nI cnt) sx sy le ri tp bo lx ly qx qy z jj y (nI k) n_2 rows n_3)) = P_Pg_fillRow_137 (nI W) R (W + 1) (nI cnt) sx sy le ri tp bo lx ly qx qy z jj y (nI k) t3 rows tu3 ∧ (∀ i, tb t3 i ↔ tb t2 i ∨ (i < W ∧ wup (sqy p) (sly p) (p.2.1 - Y) ∧ sdP (-1) p (cx i) Y = 0)) ∧ ∀ i, i < W → sfx tu3 W (W - i) = sfx tu2 W (W - i) + tI (-1 * one (decide (wup (sqy p) (sly p) (p.2.1 - Y) ∧ 0 < sdP (-1) p (cx i) Y))) := by
    by_cases d : wup (sqy p) (sly p) (p.2.1 - Y)
    · rw [if_neg (fun x => (e3.mp x) d)]
      obtain ⟨t3, c, f1, f2, f3, f4⟩ := crs_x (tu := tu2) hk hW hK v3 v4 (w := -1) (w' := -1) (Or.inr ⟨rfl, rfl⟩) hy by_ (Or.inr ⟨rfl, d⟩) q t2
      rw [f1, some_bind]
      refine ⟨t3, _, rfl, fun i => (f4 i).trans ⟨fun x => x.imp id (fun x => ⟨x.1, d, x.2⟩), fun x => x.imp id (fun x => ⟨x.1, x.2.2⟩)⟩, fun i hi => ?_⟩
      rw [sfx_u tu2 W c (-1) f2 _ (by omega), tI_one (wup (sqy p) (sly p) (p.2.1 - Y) ∧ 0 < sdP (-1) p (cx i) Y) inferInstance (-1) (-1) (by decide) _ _ ⟨fun x => ⟨d, (f3 i hi).mp (by omega)⟩, fun x => by have := (f3 i hi).mpr x.2; omega⟩]
    · rw [if_pos (e3.mpr d)]
      refine ⟨t2, tu2, rfl, fun i => ⟨Or.inl, fun x => x.elim id (fun x => absurd x.2.1 d)⟩, fun i hi => ?_⟩
      rw [one_f _ (fun x => d x.1)]
      show _ = _ + (0 : Int32)
      rw [Int32.add_zero]
  obtain ⟨t3, tu3, k1, k2, k3⟩ := up
  rw [k1]
  unfold P_Pg_fillRow_137
  rw [nI_1]
  refine ⟨t3, tu3, rfl, RowI_s hR (fun i => ?_) (fun i hi => ?_)⟩
  · rw [k2, g2, ht1]
    constructor
    · rintro (((x | x) | x) | x)
      · exact Or.inl x
      · exact Or.inr ⟨x.1, Or.inl x.2⟩
      · exact Or.inr ⟨x.1, Or.inr (Or.inr ⟨q, Or.inl x.2⟩)⟩
      · exact Or.inr ⟨x.1, Or.inr (Or.inr ⟨q, Or.inr x.2⟩)⟩
    · rintro (x | ⟨x, w⟩)
      · exact Or.inl (Or.inl (Or.inl x))
      · rcases w with w | w | ⟨_, w | w⟩
        · exact Or.inl (Or.inl (Or.inr ⟨x, w⟩))
        · exact absurd ⟨w.1, w.2.1⟩ q
        · exact Or.inl (Or.inr ⟨x, w⟩)
        · exact Or.inr ⟨x, w⟩
  · rw [k3 i hi, g3 i hi, Int32.add_assoc, tI_add]
    congr 2
    unfold ctnP ctn
    rw [if_neg q]
    unfold sdP
    omega
theorem row_s {p : Pc} {P : List Pc} {k W cnt R : Nat} {Y : Int} {jj y : Int32} {sx sy le ri tp bo lx ly qx qy : Nat → Int32} (hk : k < cnt) (hcnt : cnt ≤ 256) (hW : W ≤ 64) (hV : Val p (sx k) (sy k) (le k) (ri k) (tp k) (bo k) (lx k) (ly k) (qx k) (qy k)) (hy : y.toInt = Y) (by_ : n40 Y) (z : Int32 × Int32 × Int32 × Int64 × (Nat → Int64) × (Nat → Int32) → Option (Int32 × Int64 × (Nat → Int64) × (Nat → Int32))) (rows : Nat → Int64) (t : Int64) (tu : Nat → Int32) (hR : RowI P W Y t tu) : ∃ t' tu', P_Pg_fillRow_21b (nI W) R (W + 1) (nI cnt) sx sy le ri tp bo lx ly qx qy z jj y (nI k) t rows tu = z (jj, y, nI (k + 1), t', rows, tu') ∧ RowI (P ++ [p]) W Y t' tu' := by
  have hk' : k < 256 := by omega
  unfold P_Pg_fillRow_21b
  rw [if_neg (nI_ge hk (by omega))]
  simp only [bdI hk' (show 256 < 2 ^ 31 by omega), nI_clamp (show k < 2 ^ 31 by omega)]
  have hV' := hV
  obtain ⟨hB, v1, v2, ⟨v3, v4, v5, v6⟩, v7, v8, v9, v10⟩ := hV
  have skip : (Y < p.2.1 ∧ Y < p.2.2.2.1 ∧ Y < p.2.2.2.2.2) ∨ (p.2.1 < Y ∧ p.2.2.2.1 < Y ∧ p.2.2.2.2.2 < Y) → RowI (P ++ [p]) W Y t tu := fun ho =>
    RowI_s hR (fun i => ⟨Or.inl, fun x => x.elim id (fun x => absurd x.2 (out_y ho).1)⟩) (fun i hi => by
      rw [(out_y ho).2]
      show _ = _ + (0 : Int32)
      rw [Int32.add_zero])
  by_cases q1 : Y < (tp k).toInt
  · rw [if_pos (by rw [Int32.lt_iff_toInt_lt, hy]; exact q1)]
    unfold P_Pg_fillRow_137
    rw [nI_1]
    exact ⟨t, tu, rfl, skip (Or.inl (by omega))⟩
  rw [if_neg (fun w => q1 (by rw [Int32.lt_iff_toInt_lt, hy] at w; exact w))]
  by_cases q2 : Y ≤ (bo k).toInt
  · rw [if_pos (by rw [Int32.le_iff_toInt_le, hy]; exact q2)]
    by_cases q3 : p.2.1 - Y = 0
    · rw [if_pos (by rw [← Int32.toInt_inj, v2, hy]; omega)]
      obtain ⟨t1, e1, e2⟩ := tst_v hW t v1 hB.1
      rw [e1, some_bind]
      refine row77 hk' hW hV' hy by_ ⟨by omega, q2⟩ z rows t t1 tu hR (fun i => (e2 i).trans ⟨fun x => x.imp id (fun x => ⟨x.1, by unfold cx; omega, q3⟩), fun x => x.imp id (fun x => ⟨x.1, by have := x.2.1; unfold cx at this; omega⟩)⟩)
    · rw [if_neg (fun w => q3 (by rw [← Int32.toInt_inj, v2, hy] at w; omega))]
      exact row77 hk' hW hV' hy by_ ⟨by omega, q2⟩ z rows t t tu hR (fun i => ⟨Or.inl, fun x => x.elim id (fun x => absurd x.2.2 q3)⟩)
  · rw [if_neg (fun w => q2 (by rw [Int32.le_iff_toInt_le, hy] at w; exact w))]
    unfold P_Pg_fillRow_137
    rw [nI_1]
    exact ⟨t, tu, rfl, skip (Or.inr (by omega))⟩
theorem trn_v {W : Nat} (hW : 1 ≤ W ∧ W ≤ 64) (tu : Nat → Int32) : ∃ b, P_Pg_turnedPixels (nI W) (W + 1) tu = some b ∧ ∀ i, tb b i ↔ i < W ∧ sfx tu W (W - i) ≠ 0 := by
  have loop : ∀ (n m : Nat) (b : Int64), n ≤ W → n < m → (∀ i, tb b i ↔ n ≤ i ∧ i < W ∧ sfx tu W (W - i) ≠ 0) → ∃ b', lp (L_Pg_turnedPixels_12 (nI W) (W + 1) tu) m (b, sfx tu W (W - n), nI n + (-1)) = some b' ∧ ∀ i, tb b' i ↔ i < W ∧ sfx tu W (W - i) ≠ 0 := by
    intro n
    induction n with
    | zero =>
      intro m b _ hm hb
      obtain ⟨m, rfl⟩ := suc_of hm
      rw [e_Pg_turnedPixels_12]
      unfold P_Pg_turnedPixels_12b
      rw [if_pos (by decide)]
      exact ⟨b, rfl, fun i => (hb i).trans ⟨fun x => x.2, fun x => ⟨Nat.zero_le _, x⟩⟩⟩
    | succ n ih =>
      intro m b hn hm hb
      obtain ⟨m, rfl⟩ := suc_of hm
      rw [e_Pg_turnedPixels_12, pk_m1]
      unfold P_Pg_turnedPixels_12b P_Pg_turnedPixels_40
      rw [if_neg (nI_pos (by omega)), nI_1, bdI (show n + 1 < W + 1 by omega) (by omega), nI_clamp (show n + 1 < 2 ^ 31 by omega)]
      have e : sfx tu W (W - (n + 1)) + tu (n + 1) = sfx tu W (W - n) := by
        rw [show W - n = W - (n + 1) + 1 by omega]
        show _ = sfx tu W (W - (n + 1)) + tu (W - (W - (n + 1)))
        rw [show W - (W - (n + 1)) = n + 1 by omega]
      rw [e]
      by_cases q : sfx tu W (W - n) = 0
      · rw [if_pos q]
        refine ih m b (by omega) (by omega) (fun i => (hb i).trans ⟨fun x => ⟨by omega, x.2⟩, fun x => ⟨?_, x.2⟩⟩)
        rcases Nat.lt_or_ge n i with z | z
        · exact z
        · have : i = n := by omega
          subst this
          exact absurd q x.2.2
      · rw [if_neg q]
        refine ih m _ (by omega) (by omega) (fun i => (tb_set (by omega) b i).trans ⟨fun x => ?_, fun x => ?_⟩)
        · rcases x with x | x
          · have := (hb i).mp x; exact ⟨by omega, this.2⟩
          · subst x; exact ⟨Nat.le_refl _, by omega, q⟩
        · rcases Nat.lt_or_ge n i with z | z
          · exact Or.inl ((hb i).mpr ⟨z, x.2⟩)
          · exact Or.inr (by omega)
  unfold P_Pg_turnedPixels P_Pg_turnedPixels_12
  have key := loop W fuel 0 (Nat.le_refl W) (by unfold fuel; omega) (fun i => ⟨fun x => absurd x (tb_0 i), fun x => by omega⟩)
  rw [Nat.sub_self] at key
  have e : nI W - 1 = nI W + (-1) := by
    rw [← Int32.toInt_inj]
    have h1 : (nI W).toInt = W := nI_ti (by omega)
    rw [it_sub (by rw [h1, show (1 : Int32).toInt = 1 from rfl]; omega), it_add (by rw [h1, show (-1 : Int32).toInt = -1 from by decide]; omega), h1, show (-1 : Int32).toInt = -1 from by decide]
    rfl
  rw [e]
  exact key
def In (L : List Pc) (X Y : Int) : Prop := ¬ sumL (icP X Y) L = 0 ∨ ¬ sumL (fun p => ctnP p X Y) L = 0
theorem ctn_b (p : Pc) (X Y : Int) : -1 ≤ ctnP p X Y ∧ ctnP p X Y ≤ 1 := by
  unfold ctnP ctn
  split
  · omega
  · have h1 := one_b (decide (wdn (sqy p) (sly p) (p.2.1 - Y) ∧ 0 < sd 1 (sqx p) (slx p) (p.1 - X) (sqy p) (sly p) (p.2.1 - Y)))
    have h2 := one_b (decide (wup (sqy p) (sly p) (p.2.1 - Y) ∧ 0 < sd (-1) (sqx p) (slx p) (p.1 - X) (sqy p) (sly p) (p.2.1 - Y)))
    omega
theorem sum_b (X Y : Int) (L : List Pc) : -(L.length : Int) ≤ sumL (fun p => ctnP p X Y) L ∧ sumL (fun p => ctnP p X Y) L ≤ L.length := by
  induction L with
  | nil => exact ⟨Int.le_refl 0, Int.le_refl 0⟩
  | cons p t ih =>
    have := ctn_b p X Y
    show -(((t.length + 1 : Nat)) : Int) ≤ ctnP p X Y + sumL _ t ∧ ctnP p X Y + sumL _ t ≤ ((t.length + 1 : Nat) : Int)
    omega
theorem tI_z {v : Int} (h : -1000 ≤ v ∧ v ≤ 1000) : tI v = 0 ↔ v = 0 := by
  rw [← Int32.toInt_inj]
  unfold tI
  rw [Int32.toInt_ofInt_of_le (by omega) (by omega)]
  exact Iff.rfl
theorem In_i {L : List Pc} (hL : L.length ≤ 256) {X Y : Int} : In L X Y ↔ (∃ p, p ∈ L ∧ cthP p X Y) ∨ ¬ tI (sumL (fun p => ctnP p X Y) L) = 0 := by
  have h1 := (sum_ic (fun p => cthP p X Y) L).2
  have h2 := sum_b X Y L
  rw [tI_z (by omega)]
  constructor
  · rintro (x | x)
    · refine Or.inl (Classical.byContradiction (fun w => x (h1.mpr (fun p hp hc => w ⟨p, hp, hc⟩))))
    · exact Or.inr x
  · rintro (⟨p, hp, hc⟩ | x)
    · exact Or.inl (fun w => (h1.mp w) p hp hc)
    · exact Or.inr x
theorem ja_v (n : Nat) (hn : n ≤ 65) (f : Nat → Int32) : ∃ g, P_Ja_fill_aIIV n f 0 = some g ∧ ∀ k, k < n → g k = 0 := by
  have loop : ∀ (e k m : Nat) (g : Nat → Int32), k + e = n → e < m → (∀ i, i < k → g i = 0) → ∃ g', lp (L_Ja_fill_aIIV_5 n) m (0, nI k, nI n, g) = some g' ∧ ∀ i, i < n → g' i = 0 := by
    intro e
    induction e with
    | zero =>
      intro k m g hk hm hg
      obtain ⟨m, rfl⟩ := suc_of hm
      rw [e_Ja_fill_aIIV_5]
      unfold P_Ja_fill_aIIV_5b
      rw [if_pos (nI_le (by omega) (by omega))]
      exact ⟨g, rfl, fun i hi => hg i (by omega)⟩
    | succ e ih =>
      intro k m g hk hm hg
      obtain ⟨m, rfl⟩ := suc_of hm
      rw [e_Ja_fill_aIIV_5]
      unfold P_Ja_fill_aIIV_5b
      rw [if_neg (nI_ge (show k < n by omega) (by omega)), bdI (show k < n by omega) (by omega), nI_clamp (show k < 2 ^ 31 by omega), nI_1]
      refine ih (k + 1) m _ (by omega) (by omega) (fun i hi => ?_)
      rcases Nat.lt_or_ge i k with z | z
      · rw [pk_un (by omega)]; exact hg i z
      · rw [show i = k by omega, pk_us]
  exact loop n 0 fuel f (by omega) (by unfold fuel; omega) (fun i hi => absurd hi (by omega))
theorem ic_i {P Q : Prop} (h : P ↔ Q) : ic P = ic Q := congrArg ic (propext h)
noncomputable def nc (L : List Pc) (W : Nat) (Y : Int) (r : Int64) : Int := smz (fun i => ic (In L (cx i) Y ∧ ¬ tb r i)) W
theorem smz_w {f : Nat → Int} {W : Nat} : ∀ n, W ≤ n → (∀ i, W ≤ i → i < n → f i = 0) → smz f n = smz f W := by
  intro n
  induction n with
  | zero => intro h _; rw [show W = 0 by omega]
  | succ n ih =>
    intro h hf
    rcases Nat.lt_or_ge n W with z | z
    · rw [show n + 1 = W by omega]
    · show smz f n + f n = _
      rw [ih z (fun i h1 h2 => hf i h1 (by omega)), hf n z (by omega)]; omega
theorem nI_tI (n : Nat) : nI n = tI (n : Int) := by
  unfold nI tI
  exact (Int32.ofInt_eq_ofNat).symm
theorem fro_v {L : List Pc} {sx sy le ri tp bo lx ly qx qy : Nat → Int32} (hL : L.length ≤ 256) (hA : AtA L sx sy le ri tp bo lx ly qx qy) {W H j : Nat} (hW : 1 ≤ W ∧ W ≤ 64) (hH : H ≤ 64) (hj : j < H) (t : Int64) (rows : Nat → Int64) (tu : Nat → Int32) : ∃ t' v tu', P_Pg_fillRow (nI W) t H rows (W + 1) tu (nI L.length) sx sy le ri tp bo lx ly qx qy (nI j) = some (tI (nc L W (cx j) (rows j)), t', vp_updL rows j v, tu') ∧ ∀ i, tb v i ↔ tb (rows j) i ∨ (i < W ∧ In L (cx i) (cx j)) := by
  unfold P_Pg_fillRow P_Pg_fillRow_21
  rw [cen_v, some_bind]
  obtain ⟨g, e1, e2⟩ := ja_v (W + 1) (by omega) tu
  rw [e1, some_bind]
  have hy : (nI (128 * j + 64)).toInt = cx j := by rw [nI_ti (by omega)]; unfold cx; omega
  have by_ : n40 (cx j) := by unfold n40 cx; omega
  have loop : ∀ (S P : List Pc) (m : Nat) (t : Int64) (tu : Nat → Int32), P ++ S = L → S.length < m → RowI P W (cx j) t tu → ∃ t' tu', lp (L_Pg_fillRow_21 (nI W) H (W + 1) (nI L.length) sx sy le ri tp bo lx ly qx qy) m (nI j, nI (128 * j + 64), nI P.length, t, rows, tu) = P_Pg_fillRow_21b (nI W) H (W + 1) (nI L.length) sx sy le ri tp bo lx ly qx qy (lp (L_Pg_fillRow_21 (nI W) H (W + 1) (nI L.length) sx sy le ri tp bo lx ly qx qy) 0) (nI j) (nI (128 * j + 64)) (nI L.length) t' rows tu' ∧ RowI L W (cx j) t' tu' := by
    intro S
    induction S with
    | nil =>
      intro P m t tu hP hm hR
      rw [List.append_nil] at hP
      subst hP
      obtain ⟨m, rfl⟩ := suc_of hm
      rw [e_Pg_fillRow_21]
      refine ⟨t, tu, ?_, hR⟩
      unfold P_Pg_fillRow_21b
      rw [if_pos (nI_le (Nat.le_refl _) (by omega)), if_pos (nI_le (Nat.le_refl _) (by omega))]
    | cons p S ih =>
      intro P m t tu hP hm hR
      obtain ⟨m, rfl⟩ := suc_of hm
      rw [e_Pg_fillRow_21]
      have hget : L[P.length]? = some p := by rw [← hP, List.getElem?_append_right (Nat.le_refl _), Nat.sub_self]; rfl
      have hlen : P.length + (S.length + 1) = L.length := by rw [← hP, List.length_append]; rfl
      obtain ⟨t', tu', k1, k2⟩ := row_s (R := H) (jj := nI j) (show P.length < L.length by omega) hL hW.2 (hA P.length p hget) hy by_ (lp (L_Pg_fillRow_21 (nI W) H (W + 1) (nI L.length) sx sy le ri tp bo lx ly qx qy) m) rows t tu hR
      rw [k1]
      have := ih (P ++ [p]) m t' tu' (by rw [List.append_assoc]; exact hP) (by have : (p :: S).length = S.length + 1 := rfl; omega) k2
      rw [List.length_append] at this
      exact this
  obtain ⟨t', tu', k1, k2⟩ := loop L [] fuel 0 g rfl (by unfold fuel; omega) ⟨fun i => ⟨fun x => absurd x (tb_0 i), fun x => by obtain ⟨_, p, hp, _⟩ := x; exact absurd hp List.not_mem_nil⟩, fun i hi => sfx_z (fun k hk => e2 k (by omega)) _ (by omega)⟩
  have k1 : lp (L_Pg_fillRow_21 (nI W) H (W + 1) (nI L.length) sx sy le ri tp bo lx ly qx qy) fuel (nI j, nI (128 * j + 64), 0, 0, rows, g) = _ := k1
  rw [k1]
  unfold P_Pg_fillRow_21b
  rw [if_pos (nI_le (Nat.le_refl _) (by omega))]
  obtain ⟨b, b1, b2⟩ := trn_v hW tu'
  simp only [bdI hj (show H < 2 ^ 31 by omega), nI_clamp (show j < 2 ^ 31 by omega), b1, some_bind, pk_uLs, bc_v]
  have hv : ∀ i, tb (rows j ||| t' ||| b) i ↔ tb (rows j) i ∨ (i < W ∧ In L (cx i) (cx j)) := by
    intro i
    rw [tb_or, tb_or, k2.1, b2]
    constructor
    · rintro ((x | x) | x)
      · exact Or.inl x
      · exact Or.inr ⟨x.1, (In_i hL).mpr (Or.inl x.2)⟩
      · exact Or.inr ⟨x.1, (In_i hL).mpr (Or.inr (by rw [← k2.2 i x.1]; exact x.2))⟩
    · rintro (x | ⟨x, w⟩)
      · exact Or.inl (Or.inl x)
      · rcases (In_i hL).mp w with w | w
        · exact Or.inl (Or.inr ⟨x, w⟩)
        · exact Or.inr ⟨x, by rw [k2.2 i x]; exact w⟩
  refine ⟨t', rows j ||| t' ||| b, tu', ?_, hv⟩
  congr 2
  rw [nI_tI, pc_ic]
  unfold nc
  congr 1
  rw [smz_w (f := fun i => ic (tb ((rows j ||| t' ||| b) &&& (rows j ^^^ -1)) i)) (W := W) 64 hW.2 (fun i h1 h2 => ic_0 (fun x => by
    have := (tb_dif _ _ h2).mp x
    rcases (hv i).mp this.1 with y | y
    · exact this.2 y
    · omega))]
  refine smz_c W (fun i hi => ic_i ?_)
  rw [tb_dif _ _ (by omega), hv]
  exact ⟨fun x => ⟨x.1.elim (fun y => absurd y x.2) (fun y => y.2), x.2⟩, fun x => ⟨Or.inr ⟨hi, x.1⟩, x.2⟩⟩
theorem nc_0 {L : List Pc} {W : Nat} {Y : Int} (h : ∀ i, i < W → ¬ In L (cx i) Y) (r : Int64) : nc L W Y r = 0 := by
  unfold nc
  rw [smz_c (g := fun _ => 0) W (fun i hi => ic_0 (fun x => h i hi x.1))]
  have : ∀ n, smz (fun _ => 0) n = 0 := fun n => by
    induction n with
    | zero => rfl
    | succ n ih => show smz (fun _ => 0) n + 0 = 0; omega
  exact this W
theorem smz_z {f : Nat → Int} : ∀ n, (∀ i, i < n → f i = 0) → smz f n = 0 := by
  intro n
  induction n with
  | zero => intro _; rfl
  | succ n ih => intro h; show smz f n + f n = 0; rw [ih (fun i hi => h i (by omega)), h n (by omega)]; rfl
def FillR (L : List Pc) (W H : Nat) (rows rows' : Nat → Int64) (r : Int32) : Prop := (∀ k, k < H → ∀ i, tb (rows' k) i ↔ tb (rows k) i ∨ (i < W ∧ In L (cx i) (cx k))) ∧ r = tI (smz (fun k => nc L W (cx k) (rows k)) H)
theorem fil_l {L : List Pc} {sx sy le ri tp bo lx ly qx qy : Nat → Int32} (hL : L.length ≤ 256) (hA : AtA L sx sy le ri tp bo lx ly qx qy) {W H a b : Nat} (hW : 1 ≤ W ∧ W ≤ 64) (hH : H ≤ 64) (hb : b ≤ H) (ha : a ≤ H) (h1 : ∀ k, k < H → k < a ∨ b ≤ k → ∀ i, i < W → ¬ In L (cx i) (cx k)) (r0 : Nat → Int64) : ∀ (e j m : Nat) (s : Int32) (t : Int64) (rows : Nat → Int64) (tu : Nat → Int32), j + e = max j b → e < m → a ≤ j → j ≤ H → s = tI (smz (fun k => nc L W (cx k) (r0 k)) j) → (∀ k, k < H → k < j → ∀ i, tb (rows k) i ↔ tb (r0 k) i ∨ (i < W ∧ In L (cx i) (cx k))) → (∀ k, j ≤ k → rows k = r0 k) → ∃ s' t' rows' tu', lp (L_Pg_fill_153 (nI W) (nI H) H (W + 1) (nI L.length) sx sy le ri tp bo lx ly qx qy) m (s, nI b, nI j, t, rows, tu) = some (s', t', rows', tu') ∧ FillR L W H r0 rows' s' := by
  intro e
  induction e with
  | zero =>
    intro j m s t rows tu hj hm haj hjH hs hr1 hr2
    obtain ⟨m, rfl⟩ := suc_of hm
    rw [e_Pg_fill_153]
    unfold P_Pg_fill_153b
    rw [if_pos (nI_le (by omega) (by omega))]
    refine ⟨s, t, rows, tu, rfl, fun k hk i => ?_, ?_⟩
    · rcases Nat.lt_or_ge k j with z | z
      · exact hr1 k hk z i
      · rw [hr2 k z]
        exact ⟨Or.inl, fun x => x.elim id (fun x => absurd x.2 (h1 k hk (Or.inr (by omega)) i x.1))⟩
    · rw [hs, smz_w H hjH (fun i i1 i2 => nc_0 (h1 i i2 (Or.inr (by omega))) _)]
  | succ e ih =>
    intro j m s t rows tu hj hm haj hjH hs hr1 hr2
    obtain ⟨m, rfl⟩ := suc_of hm
    rw [e_Pg_fill_153]
    unfold P_Pg_fill_153b
    rw [if_neg (nI_ge (show j < b by omega) (by omega))]
    obtain ⟨t', v, tu', k1, k2⟩ := fro_v hL hA hW hH (show j < H by omega) t rows tu
    rw [k1, some_bind]
    simp only [unp]
    rw [nI_1, hr2 j (Nat.le_refl j), hs, tI_add]
    rw [hr2 j (Nat.le_refl j)] at k2
    refine ih (j + 1) m _ t' _ tu' (by omega) (by omega) (by omega) (by omega) rfl (fun k hk hkj i => ?_) (fun k hk => by rw [pk_uLn (by omega)]; exact hr2 k (by omega))
    rcases Nat.lt_or_ge k j with z | z
    · rw [pk_uLn (by omega)]; exact hr1 k hk z i
    · have : k = j := by omega
      subst this
      rw [pk_uLs]; exact k2 i
theorem bd00 {α : Type} (k : Option α) : bd (0 : Int32) 256 k = k := bdI (c := 0) (by omega) (by omega) k
theorem mn4 {y x a b c : Int} (h : y = min x (min b (min a c))) (h1 : n40 x) (h2 : n40 a) (h3 : n40 b) (h4 : n40 c) : n40 y ∧ y ≤ x ∧ y ≤ a ∧ y ≤ b ∧ y ≤ c := by
  unfold n40 at *
  omega
theorem mx4 {y x a b c : Int} (h : y = max x (max b (max a c))) (h1 : n40 x) (h2 : n40 a) (h3 : n40 b) (h4 : n40 c) : n40 y ∧ x ≤ y ∧ a ≤ y ∧ b ≤ y ∧ c ≤ y := by
  unfold n40 at *
  omega
theorem fil_v {L : List Pc} {sx sy le ri tp bo lx ly qx qy : Nat → Int32} (hL : L.length ≤ 256) (hA : AtA L sx sy le ri tp bo lx ly qx qy) (hc : ∀ Y, sumL (fun p => psi Y p.2.2.2.2.2 - psi Y p.2.1) L = 0) {W H : Nat} (hW : 1 ≤ W ∧ W ≤ 64) (hH : H ≤ 64) (t : Int64) (rows : Nat → Int64) (tu : Nat → Int32) : ∃ s' t' rows' tu', P_Pg_fill (nI W) (nI H) t H rows (W + 1) tu (nI L.length) sx sy le ri tp bo lx ly qx qy = some (s', t', rows', tu') ∧ FillR L W H rows rows' s' := by
  have notIn : ∀ X Y, OutB L X Y → ¬ In L X Y := fun X Y ho hi => by
    obtain ⟨o1, o2⟩ := out_0 (hc Y) ho
    rcases hi with hi | hi
    · exact hi o1
    · exact hi o2
  have none_ : (∀ k, k < H → ∀ i, i < W → ¬ In L (cx i) (cx k)) → FillR L W H rows rows 0 := fun hn => ⟨fun k hk i => ⟨Or.inl, fun x => x.elim id (fun x => absurd x.2 (hn k hk i x.1))⟩, by
    rw [smz_z H (fun k hk => nc_0 (hn k hk) _)]; rfl⟩
  unfold P_Pg_fill
  rcases Nat.eq_zero_or_pos L.length with hz | hz
  · rw [hz, if_pos (show nI 0 = 0 from rfl)]
    have hnil : L = [] := List.eq_nil_of_length_eq_zero hz
    exact ⟨_, _, _, _, rfl, none_ (fun k _ i _ => notIn _ _ (Or.inl (fun p hp => by rw [hnil] at hp; exact absurd hp List.not_mem_nil)))⟩
  rw [if_neg (show ¬ nI L.length = 0 from fun w => absurd ((nI_eq (b := 0) (by omega) (by omega)).mp w) (by omega))]
  rw [bd00, bd00, bd00, bd00, show (0 : Int32).toNatClampNeg = 0 from rfl]
  unfold P_Pg_fill_42
  have loop : ∀ (S P : List Pc) (m : Nat) (x2 x3 x4 x5 : Int32) , P ++ S = L → S.length < m → (n40 x2.toInt ∧ n40 x3.toInt ∧ n40 x4.toInt ∧ n40 x5.toInt) → (∀ p, p ∈ P → (x2.toInt ≤ p.1 ∧ x2.toInt ≤ p.2.2.1 ∧ x2.toInt ≤ p.2.2.2.2.1) ∧ (p.1 ≤ x3.toInt ∧ p.2.2.1 ≤ x3.toInt ∧ p.2.2.2.2.1 ≤ x3.toInt) ∧ (x4.toInt ≤ p.2.1 ∧ x4.toInt ≤ p.2.2.2.1 ∧ x4.toInt ≤ p.2.2.2.2.2) ∧ (p.2.1 ≤ x5.toInt ∧ p.2.2.2.1 ≤ x5.toInt ∧ p.2.2.2.2.2 ≤ x5.toInt)) → ∃ s' t' rows' tu', lp (L_Pg_fill_42 (nI W) (nI H) H (W + 1) (nI L.length) sx sy le ri tp bo lx ly qx qy) m (x2, x3, x4, x5, nI P.length, t, rows, tu) = some (s', t', rows', tu') ∧ FillR L W H rows rows' s' := by
    intro S
    induction S with
    | nil =>
      intro P m x2 x3 x4 x5 hP hm ⟨n2, n3, n4, n5⟩ hb
      rw [List.append_nil] at hP
      subst hP
      obtain ⟨m, rfl⟩ := suc_of hm
      rw [e_Pg_fill_42]
      unfold P_Pg_fill_42b P_Pg_fill_153
      rw [if_pos (nI_le (Nat.le_refl _) (by omega))]
      unfold n40 at n2 n3 n4 n5
      obtain ⟨lf, a1, a2, a3⟩ := ff_v (v := x2) rfl (by omega) hW.2
      obtain ⟨rb, b1, b2, b3⟩ := fb_v (v := x3) rfl (by omega) hW.2
      obtain ⟨tf, c1, c2, c3⟩ := ff_v (v := x4) rfl (by omega) hH
      obtain ⟨bb, d1, d2, d3⟩ := fb_v (v := x5) rfl (by omega) hH
      rw [a1, some_bind, b1, some_bind]
      rcases Nat.lt_or_ge lf rb with z | z
      · rw [if_neg (nI_ge z (by omega)), d1, some_bind, c1, some_bind]
        refine fil_l hL hA hW hH d2 c2 (fun k hk ho i hi => notIn _ _ ?_) rows (max tf bb - tf) tf fuel 0 t rows tu (by omega) (by unfold fuel; omega) (Nat.le_refl _) c2 ?_ (fun k hk hkj i => ?_) (fun k _ => rfl)
        · rcases ho with ho | ho
          · have := (c3 k hk).mp ho
            refine Or.inr (Or.inr (Or.inl (fun p hp => ?_)))
            have := (hb p hp).2.2.1
            unfold cx; omega
          · have : ¬ 128 * (k : Int) + 64 ≤ x5.toInt := fun y => absurd ((d3 k hk).mpr y) (by omega)
            refine Or.inr (Or.inr (Or.inr (fun p hp => ?_)))
            have := (hb p hp).2.2.2
            unfold cx; omega
        · rw [smz_z tf (fun k hk => nc_0 (fun i hi => notIn _ _ ?_) _)]
          · rfl
          · have := (c3 k (by omega)).mp hk
            refine Or.inr (Or.inr (Or.inl (fun p hp => ?_)))
            have := (hb p hp).2.2.1
            unfold cx; omega
        · refine ⟨Or.inl, fun x => x.elim id (fun x => absurd x.2 (notIn _ _ ?_))⟩
          have := (c3 k hk).mp hkj
          refine Or.inr (Or.inr (Or.inl (fun p hp => ?_)))
          have := (hb p hp).2.2.1
          unfold cx; omega
      · rw [if_pos (nI_le z (by omega))]
        refine ⟨_, _, _, _, rfl, none_ (fun k _ i hi => notIn _ _ ?_)⟩
        rcases Nat.lt_or_ge i lf with y | y
        · have := (a3 i hi).mp y
          refine Or.inl (fun p hp => ?_)
          have := (hb p hp).1
          unfold cx; omega
        · have : ¬ 128 * (i : Int) + 64 ≤ x3.toInt := fun y => absurd ((b3 i hi).mpr y) (by omega)
          refine Or.inr (Or.inl (fun p hp => ?_))
          have := (hb p hp).2.1
          unfold cx; omega
    | cons p S ih =>
      intro P m x2 x3 x4 x5 hP hm ⟨n2, n3, n4, n5⟩ hb
      obtain ⟨m, rfl⟩ := suc_of hm
      have hget : L[P.length]? = some p := by rw [← hP, List.getElem?_append_right (Nat.le_refl _), Nat.sub_self]; rfl
      have hlen : P.length + (S.length + 1) = L.length := by rw [← hP, List.length_append]; rfl
      obtain ⟨⟨p1, p2, p3, p4, p5, p6⟩, v1, v2, ⟨v3, v4, v5, v6⟩, _⟩ := hA P.length p hget
      rw [e_Pg_fill_42]
      unfold P_Pg_fill_42b
      rw [if_neg (nI_ge (show P.length < L.length by omega) (by omega))]
      simp only [bdI (show P.length < 256 by omega) (show 256 < 2 ^ 31 by omega), nI_clamp (show P.length < 2 ^ 31 by omega)]
      obtain ⟨y2, e1, e2⟩ := jmin_v x2 (le P.length)
      obtain ⟨y3, e3, e4⟩ := jmax_v x3 (ri P.length)
      obtain ⟨y4, e5, e6⟩ := jmin_v x4 (tp P.length)
      obtain ⟨y5, e7, e8⟩ := jmax_v x5 (bo P.length)
      rw [e1, some_bind, e3, some_bind, e5, some_bind, e7, some_bind, nI_1]
      rw [v3] at e2
      rw [v4] at e4
      rw [v5] at e6
      rw [v6] at e8
      obtain ⟨m2, f2, f3, f4, f5⟩ := mn4 e2 n2 p1 p3 p5
      obtain ⟨m3, g2, g3, g4, g5⟩ := mx4 e4 n3 p1 p3 p5
      obtain ⟨m4, h2, h3, h4, h5⟩ := mn4 e6 n4 p2 p4 p6
      obtain ⟨m5, i2, i3, i4, i5⟩ := mx4 e8 n5 p2 p4 p6
      have := ih (P ++ [p]) m y2 y3 y4 y5 (by rw [List.append_assoc]; exact hP) (by have : (p :: S).length = S.length + 1 := rfl; omega) ⟨m2, m3, m4, m5⟩ (fun q hq => by
        rcases List.mem_append.mp hq with w | w
        · obtain ⟨⟨j1, j2, j3⟩, ⟨k1, k2, k3⟩, ⟨l1, l2, l3⟩, ⟨o1, o2, o3⟩⟩ := hb q w
          exact ⟨⟨Int.le_trans f2 j1, Int.le_trans f2 j2, Int.le_trans f2 j3⟩, ⟨Int.le_trans k1 g2, Int.le_trans k2 g2, Int.le_trans k3 g2⟩, ⟨Int.le_trans h2 l1, Int.le_trans h2 l2, Int.le_trans h2 l3⟩, ⟨Int.le_trans o1 i2, Int.le_trans o2 i2, Int.le_trans o3 i2⟩⟩
        · rcases List.mem_cons.mp w with w | w
          · subst w; exact ⟨⟨f3, f4, f5⟩, ⟨g3, g4, g5⟩, ⟨h3, h4, h5⟩, ⟨i3, i4, i5⟩⟩
          · exact absurd w List.not_mem_nil)
      rw [List.length_append] at this
      exact this
  obtain ⟨p, S, hpS⟩ : ∃ p S, L = p :: S := by
    cases hL' : L with
    | nil => rw [hL'] at hz; exact absurd hz (by decide)
    | cons p S => exact ⟨p, S, rfl⟩
  obtain ⟨⟨p1, p2, p3, p4, p5, p6⟩, v1, v2, ⟨v3, v4, v5, v6⟩, _⟩ := hA 0 p (by rw [hpS]; rfl)
  obtain ⟨m2, _, f3, f4, f5⟩ := mn4 (x := p.1) (y := (le 0).toInt) (a := p.1) (b := p.2.2.1) (c := p.2.2.2.2.1) (by rw [v3]; omega) p1 p1 p3 p5
  obtain ⟨m3, _, g3, g4, g5⟩ := mx4 (x := p.1) (y := (ri 0).toInt) (a := p.1) (b := p.2.2.1) (c := p.2.2.2.2.1) (by rw [v4]; omega) p1 p1 p3 p5
  obtain ⟨m4, _, h3, h4, h5⟩ := mn4 (x := p.2.1) (y := (tp 0).toInt) (a := p.2.1) (b := p.2.2.2.1) (c := p.2.2.2.2.2) (by rw [v5]; omega) p2 p2 p4 p6
  obtain ⟨m5, _, i3, i4, i5⟩ := mx4 (x := p.2.1) (y := (bo 0).toInt) (a := p.2.1) (b := p.2.2.2.1) (c := p.2.2.2.2.2) (by rw [v6]; omega) p2 p2 p4 p6
  have hS : S.length < fuel := by
    have : L.length = S.length + 1 := by rw [hpS]; rfl
    unfold fuel; omega
  exact loop S [p] fuel (le 0) (ri 0) (tp 0) (bo 0) hpS.symm hS ⟨m2, m3, m4, m5⟩ (fun q hq => by
    rcases List.mem_cons.mp hq with w | w
    · subst w; exact ⟨⟨f3, f4, f5⟩, ⟨g3, g4, g5⟩, ⟨h3, h4, h5⟩, ⟨i3, i4, i5⟩⟩
    · exact absurd w List.not_mem_nil)
