/-! PURE ROWS: places beside a piece; closed contours -/
def Cw (w : Int) (p : Pc) (Y : Int) : Prop := w = 1 ∧ wdn (sqy p) (sly p) (p.2.1 - Y) ∨ w = -1 ∧ wup (sqy p) (sly p) (p.2.1 - Y)
theorem pY (p : Pc) (Y : Int) : sqy p = (p.2.1 - Y) - 2 * (p.2.2.2.1 - Y) + (p.2.2.2.2.2 - Y) ∧ sly p = 2 * ((p.2.2.2.1 - Y) - (p.2.1 - Y)) := by unfold sqy sly; omega
theorem pX (p : Pc) (X : Int) : sqx p = (p.1 - X) - 2 * (p.2.2.1 - X) + (p.2.2.2.2.1 - X) ∧ slx p = 2 * ((p.2.2.1 - X) - (p.1 - X)) := by unfold sqx slx; omega
theorem Cw_r {w : Int} {p : Pc} {Y : Int} (h : Cw w p Y) : Cr w (p.2.1 - Y) (p.2.2.2.1 - Y) (p.2.2.2.2.2 - Y) ∧ (sqy p = 0 → (p.2.1 - Y) * (p.2.2.2.2.2 - Y) ≤ 0) := by
  obtain ⟨e1, e2⟩ := pY p Y
  rcases h with ⟨rfl, h⟩ | ⟨rfl, h⟩
  · rw [e1, e2] at h
    exact ⟨cr_dn h, fun z => hl_dn h (by rw [← e1]; exact z)⟩
  · rw [e1, e2] at h
    exact ⟨cr_up h, fun z => hl_up h (by rw [← e1]; exact z)⟩
theorem Cw_d {w : Int} {p : Pc} {Y : Int} (h : Cw w p Y) : 0 ≤ sly p * sly p - 4 * sqy p * (p.2.1 - Y) := by
  obtain ⟨e1, e2⟩ := pY p Y
  have := cr_disc (Cw_r h).1
  rw [e1, e2, dsc2]
  omega
theorem sdP_up {w : Int} {p : Pc} {X X' Y : Int} (h : Cw w p Y) (nf : ¬ (sqy p = 0 ∧ sly p = 0)) (hX : X' < X) (hs : 0 ≤ sdP w p X Y) : 0 < sdP w p X' Y := by
  unfold sdP at *
  exact sd_up (Cw_d h) (by omega) (by omega) hs
theorem sdP_hull {w : Int} {p : Pc} {X Y : Int} (h : Cw w p Y) (nf : ¬ (sqy p = 0 ∧ sly p = 0)) (h1 : X ≤ p.1) (h2 : X ≤ p.2.2.1) (h3 : X ≤ p.2.2.2.2.1) : 0 ≤ sdP w p X Y := by
  obtain ⟨a, b⟩ := Cw_r h
  obtain ⟨e1, e2⟩ := pY p Y
  obtain ⟨e3, e4⟩ := pX p X
  have := sd_hull (ax := p.1 - X) (bx := p.2.2.1 - X) (cx := p.2.2.2.2.1 - X) a (by rw [← e1, ← e2]; omega) (by rw [← e1]; exact b) (by omega) (by omega) (by omega)
  rw [← e1, ← e2, ← e3, ← e4] at this
  exact this
theorem sd_neg (w a2 b2 c a b C : Int) : sd w (-a2) (-b2) (-c) a b C = - sd w a2 b2 c a b C := by
  unfold sd
  by_cases q : a = 0
  · rw [if_pos q, if_pos q, ← Int.sign_neg]
    congr 1
    grind
  · rw [if_neg q, if_neg q, ← sgR_neg]
    congr 1 <;> grind
theorem sdP_hullR {w : Int} {p : Pc} {X Y : Int} (h : Cw w p Y) (nf : ¬ (sqy p = 0 ∧ sly p = 0)) (h1 : p.1 ≤ X) (h2 : p.2.2.1 ≤ X) (h3 : p.2.2.2.2.1 ≤ X) : sdP w p X Y ≤ 0 := by
  obtain ⟨a, b⟩ := Cw_r h
  obtain ⟨e1, e2⟩ := pY p Y
  obtain ⟨e3, e4⟩ := pX p X
  have := sd_hull (ax := X - p.1) (bx := X - p.2.2.1) (cx := X - p.2.2.2.2.1) a (by rw [← e1, ← e2]; omega) (by rw [← e1]; exact b) (by omega) (by omega) (by omega)
  rw [← e1, ← e2] at this
  have i1 : (X - p.1) - 2 * (X - p.2.2.1) + (X - p.2.2.2.2.1) = - sqx p := by rw [e3]; omega
  have i2 : 2 * ((X - p.2.2.1) - (X - p.1)) = - slx p := by rw [e4]; omega
  have i3 : X - p.1 = -(p.1 - X) := by omega
  rw [i1, i2, i3, sd_neg] at this
  unfold sdP
  omega
theorem sdP_l {w : Int} {p : Pc} {X Y : Int} (h : Cw w p Y) (nf : ¬ (sqy p = 0 ∧ sly p = 0)) (h1 : X < p.1) (h2 : X < p.2.2.1) (h3 : X < p.2.2.2.2.1) : 0 < sdP w p X Y :=
  sdP_up (X := X + 1) h nf (by omega) (sdP_hull h nf (by omega) (by omega) (by omega))
theorem sdP_r {w : Int} {p : Pc} {X Y : Int} (h : Cw w p Y) (nf : ¬ (sqy p = 0 ∧ sly p = 0)) (h1 : p.1 < X) (h2 : p.2.2.1 < X) (h3 : p.2.2.2.2.1 < X) : sdP w p X Y < 0 := by
  rcases Int.lt_or_le (sdP w p X Y) 0 with z | z
  · exact z
  · have a := sdP_up (X' := X - 1) h nf (by omega) z
    have b := sdP_hullR (X := X - 1) h nf (by omega) (by omega) (by omega)
    omega
theorem cov_l {p : Pc} {X : Int} (h1 : X < p.1) (h2 : X < p.2.2.1) (h3 : X < p.2.2.2.2.1) : ¬ cov (sqx p) (slx p) (p.1 - X) := by
  obtain ⟨e3, e4⟩ := pX p X
  rw [e3, e4, zer_cov]
  unfold zer
  omega
theorem cov_r {p : Pc} {X : Int} (h1 : p.1 < X) (h2 : p.2.2.1 < X) (h3 : p.2.2.2.2.1 < X) : ¬ cov (sqx p) (slx p) (p.1 - X) := by
  obtain ⟨e3, e4⟩ := pX p X
  rw [e3, e4, zer_cov]
  unfold zer
  omega
theorem out_y {p : Pc} {X Y : Int} (h : (Y < p.2.1 ∧ Y < p.2.2.2.1 ∧ Y < p.2.2.2.2.2) ∨ (p.2.1 < Y ∧ p.2.2.2.1 < Y ∧ p.2.2.2.2.2 < Y)) : ¬ cthP p X Y ∧ ctnP p X Y = 0 := by
  obtain ⟨e1, e2⟩ := pY p Y
  have nd : ¬ wdn (sqy p) (sly p) (p.2.1 - Y) := by rw [wdn_v, e1, e2]; omega
  have nu : ¬ wup (sqy p) (sly p) (p.2.1 - Y) := by rw [wup_v, e1, e2]; omega
  refine ⟨fun z => ?_, ?_⟩
  · rcases z with z | z | ⟨_, z | z⟩
    · omega
    · have := z.2.2.1; omega
    · exact nd z.1
    · exact nu z.1
  · unfold ctnP ctn
    by_cases q : sqy p = 0 ∧ sly p = 0
    · rw [if_pos q]
    · rw [if_neg q, one_f _ (fun z => nd z.1), one_f _ (fun z => nu z.1)]; rfl
def psi (Y : Int) (y : Int) : Int := if 0 < y - Y then 1 else 0
theorem out_l {p : Pc} {X Y : Int} (h1 : X < p.1) (h2 : X < p.2.2.1) (h3 : X < p.2.2.2.2.1) : ¬ cthP p X Y ∧ ctnP p X Y = psi Y p.2.2.2.2.2 - psi Y p.2.1 := by
  obtain ⟨e1, e2⟩ := pY p Y
  have eE : p.2.1 - Y + sly p + sqy p = p.2.2.2.2.2 - Y := by unfold sly sqy; omega
  by_cases q : sqy p = 0 ∧ sly p = 0
  · refine ⟨fun z => ?_, ?_⟩
    · rcases z with z | z | ⟨z, _⟩
      · omega
      · exact cov_l h1 h2 h3 z.2.2.2
      · exact z q
    · unfold ctnP ctn psi
      rw [if_pos q]
      have : p.2.2.2.2.2 = p.2.1 := by omega
      rw [this]; omega
  · have s1 : wdn (sqy p) (sly p) (p.2.1 - Y) → 0 < sdP 1 p X Y := fun z => sdP_l (Or.inl ⟨rfl, z⟩) q h1 h2 h3
    have s2 : wup (sqy p) (sly p) (p.2.1 - Y) → 0 < sdP (-1) p X Y := fun z => sdP_l (Or.inr ⟨rfl, z⟩) q h1 h2 h3
    refine ⟨fun z => ?_, ?_⟩
    · rcases z with z | z | ⟨_, z | z⟩
      · omega
      · exact q ⟨z.1, z.2.1⟩
      · have a := s1 z.1; have b : sdP 1 p X Y = 0 := z.2; omega
      · have a := s2 z.1; have b : sdP (-1) p X Y = 0 := z.2; omega
    · unfold ctnP ctn psi
      rw [if_neg q]
      have d1 : (wdn (sqy p) (sly p) (p.2.1 - Y) ∧ 0 < sd 1 (sqx p) (slx p) (p.1 - X) (sqy p) (sly p) (p.2.1 - Y)) ↔ wdn (sqy p) (sly p) (p.2.1 - Y) := ⟨fun z => z.1, fun z => ⟨z, s1 z⟩⟩
      have d2 : (wup (sqy p) (sly p) (p.2.1 - Y) ∧ 0 < sd (-1) (sqx p) (slx p) (p.1 - X) (sqy p) (sly p) (p.2.1 - Y)) ↔ wup (sqy p) (sly p) (p.2.1 - Y) := ⟨fun z => z.1, fun z => ⟨z, s2 z⟩⟩
      rw [dec_iff _ inferInstance d1, dec_iff _ inferInstance d2]
      have w1 : wdn (sqy p) (sly p) (p.2.1 - Y) ↔ (¬ 0 < p.2.1 - Y ∧ 0 < p.2.2.2.2.2 - Y) ∨ ((0 < p.2.1 - Y ↔ 0 < p.2.2.2.2.2 - Y) ∧ cbk (sqy p) (sly p) (p.2.1 - Y)) := by unfold wdn; rw [eE]
      have w2 : wup (sqy p) (sly p) (p.2.1 - Y) ↔ (0 < p.2.1 - Y ∧ ¬ 0 < p.2.2.2.2.2 - Y) ∨ ((0 < p.2.1 - Y ↔ 0 < p.2.2.2.2.2 - Y) ∧ cbk (sqy p) (sly p) (p.2.1 - Y)) := by unfold wup; rw [eE]
      by_cases a : 0 < p.2.1 - Y <;> by_cases b : 0 < p.2.2.2.2.2 - Y <;> by_cases c : cbk (sqy p) (sly p) (p.2.1 - Y)
      · rw [one_t _ (w1.mpr (Or.inr ⟨⟨fun _ => b, fun _ => a⟩, c⟩)), one_t _ (w2.mpr (Or.inr ⟨⟨fun _ => b, fun _ => a⟩, c⟩)), if_pos a, if_pos b]
      · rw [one_f _ (fun z => (w1.mp z).elim (fun z => z.1 a) (fun z => c z.2)), one_f _ (fun z => (w2.mp z).elim (fun z => z.2 b) (fun z => c z.2)), if_pos a, if_pos b]; rfl
      · rw [one_f _ (fun z => (w1.mp z).elim (fun z => z.1 a) (fun z => b (z.1.mp a))), one_t _ (w2.mpr (Or.inl ⟨a, b⟩)), if_pos a, if_neg b]
      · rw [one_f _ (fun z => (w1.mp z).elim (fun z => z.1 a) (fun z => b (z.1.mp a))), one_t _ (w2.mpr (Or.inl ⟨a, b⟩)), if_pos a, if_neg b]
      · rw [one_t _ (w1.mpr (Or.inl ⟨a, b⟩)), one_f _ (fun z => (w2.mp z).elim (fun z => a z.1) (fun z => a (z.1.mpr b))), if_neg a, if_pos b]
      · rw [one_t _ (w1.mpr (Or.inl ⟨a, b⟩)), one_f _ (fun z => (w2.mp z).elim (fun z => a z.1) (fun z => a (z.1.mpr b))), if_neg a, if_pos b]
      · rw [one_t _ (w1.mpr (Or.inr ⟨⟨fun z => absurd z a, fun z => absurd z b⟩, c⟩)), one_t _ (w2.mpr (Or.inr ⟨⟨fun z => absurd z a, fun z => absurd z b⟩, c⟩)), if_neg a, if_neg b]; rfl
      · rw [one_f _ (fun z => (w1.mp z).elim (fun z => b z.2) (fun z => c z.2)), one_f _ (fun z => (w2.mp z).elim (fun z => a z.1) (fun z => c z.2)), if_neg a, if_neg b]
theorem out_r {p : Pc} {X Y : Int} (h1 : p.1 < X) (h2 : p.2.2.1 < X) (h3 : p.2.2.2.2.1 < X) : ¬ cthP p X Y ∧ ctnP p X Y = 0 := by
  by_cases q : sqy p = 0 ∧ sly p = 0
  · refine ⟨fun z => ?_, ?_⟩
    · rcases z with z | z | ⟨z, _⟩
      · omega
      · exact cov_r h1 h2 h3 z.2.2.2
      · exact z q
    · unfold ctnP ctn
      rw [if_pos q]
  · have s1 : wdn (sqy p) (sly p) (p.2.1 - Y) → sdP 1 p X Y < 0 := fun z => sdP_r (Or.inl ⟨rfl, z⟩) q h1 h2 h3
    have s2 : wup (sqy p) (sly p) (p.2.1 - Y) → sdP (-1) p X Y < 0 := fun z => sdP_r (Or.inr ⟨rfl, z⟩) q h1 h2 h3
    refine ⟨fun z => ?_, ?_⟩
    · rcases z with z | z | ⟨_, z | z⟩
      · omega
      · exact q ⟨z.1, z.2.1⟩
      · have a := s1 z.1; have b : sdP 1 p X Y = 0 := z.2; omega
      · have a := s2 z.1; have b : sdP (-1) p X Y = 0 := z.2; omega
    · unfold ctnP ctn
      rw [if_neg q, one_f _ (fun z => by have a := s1 z.1; have b : 0 < sdP 1 p X Y := z.2; omega), one_f _ (fun z => by have a := s2 z.1; have b : 0 < sdP (-1) p X Y := z.2; omega)]; rfl
def Vr (x y : Nat → Int) (on : Nat → Int32) (f n : Nat) (ψ : Int → Int) (i : Nat) : Int := if on (f + i) = 0 then ψ (if on (f + (i + n - 1) % n) = 0 then y (f + i) + y (f + (i + n - 1) % n) else 2 * y (f + (i + n - 1) % n)) else ψ (2 * y (f + i))
theorem Vr_d (x y : Nat → Int) (on : Nat → Int32) (f n : Nat) (hn : 0 < n) (ψ : Int → Int) {i : Nat} (hi : i < n) : Lr x y on f n (fun p => ψ p.2.2.2.2.2 - ψ p.2.1) i + Cr_ x y on f n (fun p => ψ p.2.2.2.2.2 - ψ p.2.1) i = Vr x y on f n ψ ((i + 1) % n) - Vr x y on f n ψ i := by
  have hb : ((i + 1) % n + n - 1) % n = i := by
    rw [show (i + 1) % n + n - 1 = (i + 1) % n + (n - 1) by omega, Nat.mod_add_mod, show i + 1 + (n - 1) = i + n by omega, Nat.add_mod_right, Nat.mod_eq_of_lt hi]
  unfold Lr Cr_ Vr
  rw [hb]
  by_cases q1 : on (f + i) = 0 <;> by_cases q2 : on (f + (i + 1) % n) = 0
  · rw [if_pos (Or.inl q1), if_pos q1, if_pos q2, if_pos q1, if_pos q1]
    unfold cvP
    dsimp only
    rw [if_pos q2, Int.add_comm (y (f + (i + 1) % n))]
    omega
  · rw [if_pos (Or.inl q1), if_pos q1, if_neg q2, if_pos q1]
    unfold cvP
    dsimp only
    rw [if_neg q2]
    omega
  · rw [if_pos (Or.inr q2), if_neg q1, if_pos q2, if_neg q1, if_neg q1]
    omega
  · rw [if_neg (fun z => z.elim q1 q2), if_neg q1, if_neg q2, if_neg q1]
    show ψ (2 * y (f + (i + 1) % n)) - ψ (2 * y (f + i)) + 0 = _
    omega
theorem smz_sub (f g : Nat → Int) (n : Nat) : smz (fun i => f i - g i) n = smz f n - smz g n := by
  induction n with
  | zero => rfl
  | succ n ih => show smz (fun i => f i - g i) n + (f n - g n) = smz f n + f n - (smz g n + g n); rw [ih]; omega
theorem cl_0 (x y : Nat → Int) (on : Nat → Int32) (f n : Nat) (hn : 1 ≤ n) (ψ : Int → Int) : sumL (fun p => ψ p.2.2.2.2.2 - ψ p.2.1) (cl x y on f (f + n - 1) n) = 0 := by
  rcases Nat.lt_or_ge n 2 with w | w
  · have : n = 1 := by omega
    subst this
    rw [show f + 1 - 1 = f by omega, cl_1]
    show ψ (2 * y f) - ψ (2 * y f) = 0
    omega
  · rw [cl_s x y on f n 0 w, Hr_eq x y on f n 0 (by omega), ← smz_add, smz_c n (fun i hi => Vr_d x y on f n (by omega) ψ hi), smz_sub]
    have := smz_rot (Vr x y on f n ψ) n 1 (by omega)
    rw [smz_c n (fun i _ => show Vr x y on f n ψ ((i + 1) % n) = Vr x y on f n ψ ((1 + i) % n) by rw [Nat.add_comm]), this]
    omega
theorem tl_0 (x y : Nat → Int) (on : Nat → Int32) (ls : Nat → Nat) (ψ : Int → Int) : ∀ c, (∀ i, i < c → fst_ ls i ≤ ls i) → sumL (fun p => ψ p.2.2.2.2.2 - ψ p.2.1) (tl x y on ls c) = 0 := by
  intro c
  induction c with
  | zero => intro _; rfl
  | succ c ih =>
    intro h
    have h1 := h c (by omega)
    show sumL _ (tl x y on ls c ++ cl x y on (fst_ ls c) (ls c) (ls c + 1 - fst_ ls c)) = 0
    rw [sumL_app, ih (fun i hi => h i (by omega))]
    have := cl_0 x y on (fst_ ls c) (ls c + 1 - fst_ ls c) (by omega) ψ
    rw [show fst_ ls c + (ls c + 1 - fst_ ls c) - 1 = ls c by omega] at this
    rw [this]; rfl
theorem sumL_c {f g : Pc → Int} : ∀ (L : List Pc), (∀ p, p ∈ L → f p = g p) → sumL f L = sumL g L := by
  intro L
  induction L with
  | nil => intro _; rfl
  | cons p t ih => intro h; show f p + sumL f t = g p + sumL g t; rw [h p List.mem_cons_self, ih (fun q hq => h q (List.mem_cons_of_mem _ hq))]
theorem sumL_z (L : List Pc) : sumL (fun _ => 0) L = 0 := by
  induction L with
  | nil => rfl
  | cons p t ih => show 0 + sumL (fun _ => 0) t = 0; rw [ih]; rfl
def OutB (L : List Pc) (X Y : Int) : Prop := (∀ p, p ∈ L → X < p.1 ∧ X < p.2.2.1 ∧ X < p.2.2.2.2.1) ∨ (∀ p, p ∈ L → p.1 < X ∧ p.2.2.1 < X ∧ p.2.2.2.2.1 < X) ∨ (∀ p, p ∈ L → (Y < p.2.1 ∧ Y < p.2.2.2.1 ∧ Y < p.2.2.2.2.2)) ∨ (∀ p, p ∈ L → (p.2.1 < Y ∧ p.2.2.2.1 < Y ∧ p.2.2.2.2.2 < Y))
theorem out_0 {L : List Pc} {X Y : Int} (hc : sumL (fun p => psi Y p.2.2.2.2.2 - psi Y p.2.1) L = 0) (h : OutB L X Y) : sumL (icP X Y) L = 0 ∧ sumL (fun p => ctnP p X Y) L = 0 := by
  have key : ∀ p, p ∈ L → ¬ cthP p X Y := by
    intro p hp
    rcases h with h | h | h | h
    · exact (out_l (h p hp).1 (h p hp).2.1 (h p hp).2.2).1
    · exact (out_r (h p hp).1 (h p hp).2.1 (h p hp).2.2).1
    · exact (out_y (Or.inl (h p hp))).1
    · exact (out_y (Or.inr (h p hp))).1
  refine ⟨((sum_ic (fun p => cthP p X Y) L).2).mpr key, ?_⟩
  rcases h with h | h | h | h
  · rw [sumL_c L (fun p hp => (out_l (Y := Y) (h p hp).1 (h p hp).2.1 (h p hp).2.2).2)]; exact hc
  · rw [sumL_c (g := fun _ => 0) L (fun p hp => (out_r (Y := Y) (h p hp).1 (h p hp).2.1 (h p hp).2.2).2), sumL_z]
  · rw [sumL_c (g := fun _ => 0) L (fun p hp => (out_y (X := X) (Or.inl (h p hp))).2), sumL_z]
  · rw [sumL_c (g := fun _ => 0) L (fun p hp => (out_y (X := X) (Or.inr (h p hp))).2), sumL_z]
