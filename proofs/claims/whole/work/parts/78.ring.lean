/-! PURE ROWS: sums around a closed contour -/
def smz (f : Nat → Int) : Nat → Int
  | 0 => 0
  | n + 1 => smz f n + f n
theorem smz_c {f g : Nat → Int} : ∀ n, (∀ i, i < n → f i = g i) → smz f n = smz g n := by
  intro n
  induction n with
  | zero => intro _; rfl
  | succ n ih => intro h; show smz f n + f n = smz g n + g n; rw [ih (fun i hi => h i (by omega)), h n (by omega)]
theorem smz_add (f g : Nat → Int) (n : Nat) : smz (fun i => f i + g i) n = smz f n + smz g n := by
  induction n with
  | zero => rfl
  | succ n ih => show smz (fun i => f i + g i) n + (f n + g n) = smz f n + f n + (smz g n + g n); rw [ih]; omega
theorem smz_sh (f : Nat → Int) (n : Nat) : smz (fun i => f (i + 1)) n + f 0 = smz f n + f n := by
  induction n with
  | zero => rfl
  | succ n ih => show smz (fun i => f (i + 1)) n + f (n + 1) + f 0 = smz f n + f n + f (n + 1); omega
theorem smz_rot (f : Nat → Int) (n s : Nat) (hn : 0 < n) : smz (fun i => f ((s + i) % n)) n = smz f n := by
  induction s with
  | zero => exact smz_c n (fun i hi => by rw [Nat.zero_add, Nat.mod_eq_of_lt hi])
  | succ s ih =>
    have h := smz_sh (fun i => f ((s + i) % n)) n
    have e : f ((s + n) % n) = f ((s + 0) % n) := by rw [Nat.add_mod_right, Nat.add_zero]
    have e2 : smz (fun i => f ((s + 1 + i) % n)) n = smz (fun i => f ((s + (i + 1)) % n)) n := smz_c n (fun i _ => by rw [show s + 1 + i = s + (i + 1) by omega])
    rw [e2]
    have h : smz (fun i => f ((s + (i + 1)) % n)) n + f ((s + 0) % n) = smz (fun i => f ((s + i) % n)) n + f ((s + n) % n) := h
    omega
theorem smz_0 {f : Nat → Int} : ∀ n, (∀ i, i < n → 0 ≤ f i) → 0 ≤ smz f n ∧ ∀ i, i < n → f i ≤ smz f n := by
  intro n
  induction n with
  | zero => intro _; exact ⟨Int.le_refl 0, fun i hi => absurd hi (by omega)⟩
  | succ n ih =>
    intro h
    obtain ⟨h1, h2⟩ := ih (fun i hi => h i (by omega))
    have h3 := h n (by omega)
    show 0 ≤ smz f n + f n ∧ ∀ i, i < n + 1 → f i ≤ smz f n + f n
    refine ⟨by omega, fun i hi => ?_⟩
    rcases Nat.lt_or_ge i n with w | w
    · have := h2 i w; omega
    · rw [show i = n by omega]; omega
def rr (f n σ j : Nat) : Nat := f + (σ + j) % n
def Hr (x y : Nat → Int) (on : Nat → Int32) (f n σ : Nat) (F : Pc → Int) (j : Nat) : Int := if on (rr f n σ j) = 0 then F (cvP x y on (rr f n σ (j + n - 1)) (rr f n σ j) (rr f n σ (j + 1))) else if on (rr f n σ (j + n - 1)) = 0 then 0 else F (lnP x y (rr f n σ (j + n - 1)) (rr f n σ j))
def Lr (x y : Nat → Int) (on : Nat → Int32) (f n : Nat) (F : Pc → Int) (i : Nat) : Int := if on (f + i) = 0 ∨ on (f + (i + 1) % n) = 0 then 0 else F (lnP x y (f + i) (f + (i + 1) % n))
def Cr_ (x y : Nat → Int) (on : Nat → Int32) (f n : Nat) (F : Pc → Int) (i : Nat) : Int := if on (f + i) = 0 then F (cvP x y on (f + (i + n - 1) % n) (f + i) (f + (i + 1) % n)) else 0
theorem mod_p {n σ j : Nat} (hn : 0 < n) : (σ + (j + n - 1)) % n = ((σ + j) % n + n - 1) % n := by
  rw [show σ + (j + n - 1) = σ + j + (n - 1) by omega, show (σ + j) % n + n - 1 = (σ + j) % n + (n - 1) by omega, Nat.add_mod (σ + j) (n - 1) n, Nat.add_mod ((σ + j) % n) (n - 1) n, Nat.mod_mod]
theorem mod_s {n σ j : Nat} : (σ + (j + 1)) % n = ((σ + j) % n + 1) % n := by
  rw [show σ + (j + 1) = σ + j + 1 by omega, Nat.add_mod (σ + j) 1 n, Nat.add_mod ((σ + j) % n) 1 n, Nat.mod_mod]
theorem mod_ps {n i : Nat} (hn : 0 < n) (hi : i < n) : ((i + n - 1) % n + 1) % n = i := by
  rw [Nat.mod_add_mod, show i + n - 1 + 1 = i + n by omega, Nat.add_mod_right, Nat.mod_eq_of_lt hi]
theorem Hr_eq (x y : Nat → Int) (on : Nat → Int32) (f n σ : Nat) (hn : 0 < n) (F : Pc → Int) : smz (Hr x y on f n σ F) n = smz (Lr x y on f n F) n + smz (Cr_ x y on f n F) n := by
  have e1 : ∀ j, Hr x y on f n σ F j = Lr x y on f n F (((σ + j) % n + (n - 1)) % n) + Cr_ x y on f n F ((σ + j) % n) := by
    intro j
    have hi : (σ + j) % n < n := Nat.mod_lt _ hn
    unfold Hr Lr Cr_ rr
    rw [mod_p hn, mod_s]
    generalize (σ + j) % n = i at *
    have h1 := mod_ps hn hi
    rw [show i + (n - 1) = i + n - 1 by omega, h1]
    by_cases q : on (f + i) = 0
    · rw [if_pos q, if_pos (Or.inr q), if_pos q]; omega
    · rw [if_neg q, if_neg q]
      by_cases q2 : on (f + (i + n - 1) % n) = 0
      · rw [if_pos q2, if_pos (Or.inl q2)]; omega
      · rw [if_neg q2, if_neg (fun w => w.elim q2 q)]; omega
  rw [smz_c n (fun j _ => e1 j), smz_add]
  congr 1
  · have : ∀ j, Lr x y on f n F (((σ + j) % n + (n - 1)) % n) = (fun i => Lr x y on f n F ((n - 1 + i) % n)) ((σ + j) % n) := fun j => by
      show _ = Lr x y on f n F ((n - 1 + (σ + j) % n) % n)
      rw [Nat.add_comm (n - 1)]
    rw [smz_c n (fun j _ => this j)]
    exact (smz_rot (fun i => Lr x y on f n F ((n - 1 + i) % n)) n σ hn).trans (smz_rot (Lr x y on f n F) n (n - 1) hn)
  · exact smz_rot (Cr_ x y on f n F) n σ hn
theorem pcl_s (x y : Nat → Int) (on : Nat → Int32) (f n i : Nat) (hn : 2 ≤ n) (hi : i < n) (F : Pc → Int) : sumL F (pcl x y on f (f + n - 1) (f + i)) = Lr x y on f n F i + Cr_ x y on f n F i := by
  have ea : aft f (f + n - 1) (f + i) = f + (i + 1) % n := by
    unfold aft
    by_cases q : i + 1 = n
    · rw [if_pos (by omega), q, Nat.mod_self]; rfl
    · rw [if_neg (by omega), Nat.mod_eq_of_lt (by omega)]; rfl
  have eb : bef f (f + n - 1) (f + i) = f + (i + n - 1) % n := by
    unfold bef
    by_cases q : i = 0
    · rw [if_pos (by omega), q, Nat.zero_add, Nat.mod_eq_of_lt (by omega)]; omega
    · rw [if_neg (by omega), show i + n - 1 = i - 1 + n by omega, Nat.add_mod_right, Nat.mod_eq_of_lt (by omega)]; omega
  unfold pcl Lr Cr_
  rw [ea, eb]
  by_cases q : on (f + i) = 0
  · rw [if_neg (fun w => w.elim (fun w => by omega) (fun w => w.1 q)), if_pos q, if_pos (Or.inl q), if_pos q]
    show F _ + 0 = 0 + F _
    omega
  · rw [if_neg q, if_neg q]
    by_cases q2 : on (f + (i + 1) % n) = 0
    · rw [if_neg (fun w => w.elim (fun w => by omega) (fun w => w.2 q2)), if_pos (Or.inr q2)]; rfl
    · rw [if_pos (Or.inr ⟨q, q2⟩), if_neg (fun w => w.elim q q2)]
      rfl
theorem cl_s (x y : Nat → Int) (on : Nat → Int32) (f n σ : Nat) (hn : 2 ≤ n) (F : Pc → Int) : sumL F (cl x y on f (f + n - 1) n) = smz (Hr x y on f n σ F) n := by
  rw [Hr_eq x y on f n σ (by omega) F, ← smz_add]
  have : ∀ d, d ≤ n → sumL F (cl x y on f (f + n - 1) d) = smz (fun i => Lr x y on f n F i + Cr_ x y on f n F i) d := by
    intro d
    induction d with
    | zero => intro _; rfl
    | succ d ih =>
      intro hd
      show sumL F (cl x y on f (f + n - 1) d ++ pcl x y on f (f + n - 1) (f + d)) = smz _ d + _
      rw [sumL_app, ih (by omega), pcl_s x y on f n d hn (by omega) F]
  exact this n (Nat.le_refl n)
theorem cl_1 (x y : Nat → Int) (on : Nat → Int32) (f : Nat) (F : Pc → Int) : sumL F (cl x y on f f 1) = F (lnP x y f f) := by
  show sumL F ([] ++ pcl x y on f f (f + 0)) = _
  rw [List.nil_append, Nat.add_zero]
  have : aft f f f = f := if_pos rfl
  unfold pcl
  rw [if_pos (Or.inl rfl), this]
  show F _ + 0 = _
  omega
theorem rr_n (f n σ j : Nat) : rr f n σ (j + n) = rr f n σ j := by
  unfold rr
  rw [show σ + (j + n) = σ + j + n by omega, Nat.add_mod_right]
