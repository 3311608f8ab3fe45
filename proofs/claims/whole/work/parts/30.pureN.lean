/-! PURE ROWS, state without a font: the invariant and the steps but font's -/
theorem lp_s {σ ρ : Type} (body : (σ → Option ρ) → σ → Option ρ) (n : Nat) (q : σ) : lp body (n + 1) q = body (lp body n) q := rfl
theorem some_bind {α β : Type} (x : α) (k : α → Option β) : (some x).bind k = k x := rfl
theorem suc_of {d m : Nat} (h : d < m) : ∃ k, m = k + 1 := ⟨m - 1, by omega⟩
def tby (a s : Int32) : Int32 := vp_nar .byte ((a >>> (s &&& 31)).toInt8.toInt32)
def tap4 (f : Nat → Int32) (n : Nat) (a : Int32) : Nat → Int32 := upd (upd (upd (upd f n (tby a 24)) (n + 1) (tby a 16)) (n + 2) (tby a 8)) (n + 3) (tby a 0)
theorem app_step (z : Int32 × Int32 × Int32 × (Nat → Int32) → Option (Int32 × (Nat → Int32))) (n : Nat) (hn : n < 4096) (f : Nat → Int32) (a s : Int32) (hs : ¬ s < 0) : P_Gp_append_3b z a s (nI n) f = z (a, s + (-8 : Int32), nI (n + 1), upd f n (tby a s)) := by
  unfold P_Gp_append_3b
  rw [if_neg hs, if_neg (show ¬ (4096 : Int32) ≤ nI n from nI_ge (b := 4096) hn (by omega))]
  unfold bd
  rw [if_neg (nI_in hn (by omega))]
  unfold P_Gp_append_37
  rw [nI_1, nI_clamp (by omega)]
  rfl
theorem app_stop (z : Int32 × Int32 × Int32 × (Nat → Int32) → Option (Int32 × (Nat → Int32))) (a s t : Int32) (f : Nat → Int32) (hs : s < 0) : P_Gp_append_3b z a s t f = some (t, f) := by
  unfold P_Gp_append_3b
  rw [if_pos hs]
theorem app_ok (n : Nat) (hn : n + 4 ≤ 4096) (f : Nat → Int32) (a : Int32) : P_Gp_append (nI n) f a = some (nI (n + 4), tap4 f n a) := by
  unfold P_Gp_append P_Gp_append_3
  show lp (L_Gp_append_3) (99995 + 1 + 1 + 1 + 1 + 1) _ = _
  rw [e_Gp_append_3]
  rw [app_step _ n (by omega) f a 24 (by decide), e_Gp_append_3]
  rw [app_step _ (n + 1) (by omega) _ a _ (by decide), e_Gp_append_3]
  rw [app_step _ (n + 1 + 1) (by omega) _ a _ (by decide), e_Gp_append_3]
  rw [app_step _ (n + 1 + 1 + 1) (by omega) _ a _ (by decide), e_Gp_append_3]
  rw [app_stop _ _ _ _ _ (by decide)]
  rfl
theorem put_step (z : Int32 × Int32 × Int32 × (Nat → Int32) → Option (Int32 × (Nat → Int32))) (n : Nat) (hn : n < 4096) (f : Nat → Int32) (a s : Int32) (hs : ¬ s < 0) : P_Mo_put_3b z a s (nI n) f = z (a, s + (-8 : Int32), nI (n + 1), upd f n (tby a s)) := by
  unfold P_Mo_put_3b
  rw [if_neg hs]
  unfold bd
  rw [if_neg (nI_in hn (by omega)), nI_1, nI_clamp (by omega)]
  rfl
theorem put_stop (z : Int32 × Int32 × Int32 × (Nat → Int32) → Option (Int32 × (Nat → Int32))) (a s t : Int32) (f : Nat → Int32) (hs : s < 0) : P_Mo_put_3b z a s t f = some (t, f) := by
  unfold P_Mo_put_3b
  rw [if_pos hs]
theorem put_ok (n : Nat) (hn : n + 4 ≤ 4096) (f : Nat → Int32) (a : Int32) : P_Mo_put (nI n) f a = some (nI (n + 4), tap4 f n a) := by
  unfold P_Mo_put P_Mo_put_3
  show lp (L_Mo_put_3) (99995 + 1 + 1 + 1 + 1 + 1) _ = _
  rw [e_Mo_put_3]
  rw [put_step _ n (by omega) f a 24 (by decide), e_Mo_put_3]
  rw [put_step _ (n + 1) (by omega) _ a _ (by decide), e_Mo_put_3]
  rw [put_step _ (n + 1 + 1) (by omega) _ a _ (by decide), e_Mo_put_3]
  rw [put_step _ (n + 1 + 1 + 1) (by omega) _ a _ (by decide), e_Mo_put_3]
  rw [put_stop _ _ _ _ _ (by decide)]
  rfl
def tap20 (f : Nat → Int32) (n : Nat) (a b c d e : Int32) : Nat → Int32 := tap4 (tap4 (tap4 (tap4 (tap4 f n a) (n + 4) b) (n + 4 + 4) c) (n + 4 + 4 + 4) d) (n + 4 + 4 + 4 + 4) e
theorem feed_x (n : Nat) (hn : n ≤ 4096) (f : Nat → Int32) (a b c d e : Int32) : P_Gp_feed (nI n) f a b c d e = if n + 20 ≤ 4096 then some (nI (n + 20), nI (n + 20), tap20 f n a b c d e) else some (-3, nI n, f) := by
  unfold P_Gp_feed
  rw [show (20 : Int32) = nI 20 from rfl, show (4096 : Int32) = nI 4096 from rfl, nI_add]
  by_cases h : n + 20 ≤ 4096
  · rw [if_pos (nI_le h (by omega)), if_pos h, app_ok n (by omega)]
    show (P_Gp_append (nI (n + 4)) _ b).bind _ = _
    rw [app_ok (n + 4) (by omega)]
    show (P_Gp_append (nI (n + 4 + 4)) _ c).bind _ = _
    rw [app_ok (n + 4 + 4) (by omega)]
    show (P_Gp_append (nI (n + 4 + 4 + 4)) _ d).bind _ = _
    rw [app_ok (n + 4 + 4 + 4) (by omega)]
    show (P_Gp_append (nI (n + 4 + 4 + 4 + 4)) _ e).bind _ = _
    rw [app_ok (n + 4 + 4 + 4 + 4) (by omega)]
    rfl
  · rw [if_neg (nI_ge (by omega) (by omega)), if_neg h]
theorem feed_m (n : Nat) (hn : n ≤ 4096) (f : Nat → Int32) (a b c d e : Int32) : P_Mo_feed (nI n) f a b c d e = if n + 20 ≤ 4096 then some (nI (n + 20), nI (n + 20), tap20 f n a b c d e) else some (-3, nI n, f) := by
  unfold P_Mo_feed
  rw [show (20 : Int32) = nI 20 from rfl, show (4096 : Int32) = nI 4096 from rfl, nI_add]
  by_cases h : n + 20 ≤ 4096
  · rw [if_pos (nI_le h (by omega)), if_pos h, put_ok n (by omega)]
    show (P_Mo_put (nI (n + 4)) _ b).bind _ = _
    rw [put_ok (n + 4) (by omega)]
    show (P_Mo_put (nI (n + 4 + 4)) _ c).bind _ = _
    rw [put_ok (n + 4 + 4) (by omega)]
    show (P_Mo_put (nI (n + 4 + 4 + 4)) _ d).bind _ = _
    rw [put_ok (n + 4 + 4 + 4) (by omega)]
    show (P_Mo_put (nI (n + 4 + 4 + 4 + 4)) _ e).bind _ = _
    rw [put_ok (n + 4 + 4 + 4 + 4) (by omega)]
    rfl
  · rw [if_neg (nI_ge (by omega) (by omega)), if_neg h]
theorem tap4_same {f g : Nat → Int32} {n : Nat} (a : Int32) (h : ∀ k, k < n → f k = g k) : ∀ k, k < n + 4 → tap4 f n a k = tap4 g n a k := by
  intro k hk
  unfold tap4 upd
  by_cases h3 : k = n + 3
  · simp [h3]
  by_cases h2 : k = n + 2
  · simp [h2]
  by_cases h1 : k = n + 1
  · simp [h1]
  by_cases h0 : k = n
  · simp [h0]
  · simp [h3, h2, h1, h0, h k (by omega)]
theorem tap20_same {f g : Nat → Int32} {n : Nat} (a b c d e : Int32) (h : ∀ k, k < n → f k = g k) : ∀ k, k < n + 20 → tap20 f n a b c d e k = tap20 g n a b c d e k := by
  intro k hk
  exact tap4_same e (tap4_same d (tap4_same c (tap4_same b (tap4_same a h)))) k (by omega)
theorem tap4_b {f : Nat → Int32} {n : Nat} (a : Int32) (h : ∀ k, k < n → vp_nar .byte (f k) = f k) : ∀ k, k < n + 4 → vp_nar .byte (tap4 f n a k) = tap4 f n a k := by
  intro k hk
  have hb : ∀ s, vp_nar .byte (tby a s) = tby a s := fun s => by unfold tby; rw [vp_nar_byte]; exact pk_vb _
  unfold tap4 upd
  by_cases h3 : k = n + 3
  · simp only [h3, if_true]; exact hb 0
  by_cases h2 : k = n + 2
  · simp only [h3, h2, if_true, if_false]; simp; exact hb 8
  by_cases h1 : k = n + 1
  · simp only [h1]; simp; exact hb 16
  by_cases h0 : k = n
  · simp only [h0]; simp; exact hb 24
  · simp only [h3, h2, h1, h0, if_false]; exact h k (by omega)
theorem tap20_b {f : Nat → Int32} {n : Nat} (a b c d e : Int32) (h : ∀ k, k < n → vp_nar .byte (f k) = f k) : ∀ k, k < n + 20 → vp_nar .byte (tap20 f n a b c d e k) = tap20 f n a b c d e k := by
  intro k hk
  exact tap4_b e (tap4_b d (tap4_b c (tap4_b b (tap4_b a h)))) k (by omega)
theorem bc0 : P_Jl_bitCount (0 : Int64) = some 0 := by decide +kernel
theorem cs_loop (h : Nat) (hh : h ≤ 64) (f : Nat → Int64) (hf : ∀ k, k < h → f k = 0) : ∀ (d k m : Nat), k + d = h → d < m → lp (L_Pg_countSet_4 (nI h) h f) m ((0 : Int32), nI k) = some 0 := by
  intro d
  induction d with
  | zero =>
    intro k m hk hm
    obtain ⟨m, rfl⟩ := suc_of hm
    rw [e_Pg_countSet_4]
    unfold P_Pg_countSet_4b
    rw [if_pos (nI_le (by omega) (by omega))]
  | succ d ih =>
    intro k m hk hm
    obtain ⟨m, rfl⟩ := suc_of hm
    rw [e_Pg_countSet_4]
    unfold P_Pg_countSet_4b
    rw [if_neg (nI_ge (by omega) (by omega))]
    unfold bd
    rw [if_neg (nI_in (by omega) (by omega)), nI_clamp (by omega), hf k (by omega), bc0]
    show lp _ m ((0 : Int32) + 0, nI k + 1) = some 0
    rw [nI_1, show (0 : Int32) + 0 = 0 from by decide]
    exact ih (k + 1) m (by omega) (by omega)
theorem cs_0 (h : Nat) (hh : h ≤ 64) (f : Nat → Int64) (hf : ∀ k, k < h → f k = 0) : P_Pg_countSet (nI h) h f = some 0 := by
  unfold P_Pg_countSet P_Pg_countSet_4
  exact cs_loop h hh f hf h 0 fuel (by omega) (by unfold fuel; omega)
theorem mpix_0 (w h x y : Nat) (hw : w ≤ 64) (hh : h ≤ 64) (hx : x < w) (hy : y < h) (f : Nat → Int64) (hf : f y = 0) : P_Mo_pixel (nI w) (nI h) f (nI x) (nI y) = some 0 := by
  unfold P_Mo_pixel
  rw [if_neg (nI_pos (by omega)), if_neg (nI_ge hx (by omega)), if_neg (nI_pos (by omega)), if_pos (nI_lt hy (by omega))]
  unfold bd
  rw [if_neg (nI_in (by omega) (by omega)), nI_clamp (by omega), hf]
  simp
theorem mink_in (w h : Nat) (hw : w ≤ 64) (hh : h ≤ 64) (f : Nat → Int64) (z4 : Int32 × Int32 → Option Int32) (y : Nat) (hy : y < h) (hf : f y = 0) : ∀ (d x m : Nat), x + d = w → d < m → lp (L_Mo_inked_14 (nI w) (nI h) f z4) m ((0 : Int32), nI y, nI x) = z4 (0, nI (y + 1)) := by
  intro d
  induction d with
  | zero =>
    intro x m hx hm
    obtain ⟨m, rfl⟩ := suc_of hm
    rw [e_Mo_inked_14]
    unfold P_Mo_inked_14b
    rw [if_pos (nI_le (by omega) (by omega)), nI_1]
  | succ d ih =>
    intro x m hx hm
    obtain ⟨m, rfl⟩ := suc_of hm
    rw [e_Mo_inked_14]
    unfold P_Mo_inked_14b
    rw [if_neg (nI_ge (by omega) (by omega)), mpix_0 w h x y hw hh (by omega) hy f hf]
    show lp _ m ((0 : Int32) + 0, nI y, nI x + 1) = _
    rw [nI_1, show (0 : Int32) + 0 = 0 from by decide]
    exact ih (x + 1) m (by omega) (by omega)
theorem mink_out (w h : Nat) (hw : w ≤ 64) (hh : h ≤ 64) (f : Nat → Int64) (hf : ∀ k, k < h → f k = 0) : ∀ (d y m : Nat), y + d = h → d < m → lp (L_Mo_inked_4 (nI w) (nI h) f) m ((0 : Int32), nI y) = some 0 := by
  intro d
  induction d with
  | zero =>
    intro y m hy hm
    obtain ⟨m, rfl⟩ := suc_of hm
    rw [e_Mo_inked_4]
    unfold P_Mo_inked_4b
    rw [if_pos (nI_le (by omega) (by omega))]
  | succ d ih =>
    intro y m hy hm
    obtain ⟨m, rfl⟩ := suc_of hm
    rw [e_Mo_inked_4]
    unfold P_Mo_inked_4b P_Mo_inked_14
    rw [if_neg (nI_ge (by omega) (by omega))]
    show lp _ fuel ((0 : Int32), nI y, nI 0) = _
    rw [mink_in w h hw hh f _ y (by omega) (hf y (by omega)) w 0 fuel (by omega) (by unfold fuel; omega)]
    exact ih (y + 1) m (by omega) (by omega)
theorem mink_0 (w h : Nat) (hw : w ≤ 64) (hh : h ≤ 64) (f : Nat → Int64) (hf : ∀ k, k < h → f k = 0) : P_Mo_inked (nI w) (nI h) f = some 0 := by
  unfold P_Mo_inked P_Mo_inked_4
  exact mink_out w h hw hh f hf h 0 fuel (by omega) (by unfold fuel; omega)
def PageN (iv : Nat → Int32) (lw : Nat → Nat → Int64) (nv : Nat → Nat) : Prop := ∃ w h : Nat, (1 ≤ w ∧ w ≤ 64 ∧ 1 ≤ h ∧ h ≤ 64) ∧ iv 2 = nI w ∧ iv 3 = nI h ∧ iv 64 = nI w ∧ iv 65 = nI h ∧ nv 0 = h ∧ nv 1 = w + 1 ∧ (∀ k, k < h → lw 0 k = 0) ∧ ∀ k, k < h → lw 1 k = 0
def Core (iv : Nat → Int32) (av : Nat → Nat → Int32) (lw : Nat → Nat → Int64) (nv : Nat → Nat) : Prop := (∃ n : Nat, n ≤ 4096 ∧ iv 0 = nI n ∧ iv 66 = nI n ∧ ∀ k, k < n → av 24 k = av 26 k ∧ vp_nar .byte (av 24 k) = av 24 k) ∧ ((∃ z : Nat, 4 ≤ z ∧ z ≤ 64 ∧ iv 1 = nI z) ∧ iv 67 = iv 1) ∧ PageN iv lw nv ∧ iv 63 = 0 ∧ iv 68 = 0
def InvN (X : (Nat → Int32) → Prop) : LInv := fun j iv _ av lw nv => Core iv av lw nv ∧ (j = 0 → X iv)
theorem nx {j : Nat} {Q : Prop} : j + 1 = 0 → Q := fun h => absurd h (Nat.succ_ne_zero j)
theorem stepN_feed {X : (Nat → Int32) → Prop} (J : LInv) : StepN_feed (InvN X) J := by
  intro j iv jv av lw ov nv ad a1 a2 a3 a4 a5 hj ⟨⟨⟨n, hn, e0, e66, ht⟩, hr⟩, _⟩
  rw [e0, e66]
  by_cases h : n + 20 ≤ 4096
  · exact ⟨_, _, _, (feed_x n hn _ _ _ _ _ _).trans (if_pos h), _, _, (feed_m n hn _ _ _ _ _ _).trans (if_pos h), ⟨⟨n + 20, h, rfl, rfl, fun k hk => ⟨tap20_same _ _ _ _ _ (fun i hi => (ht i hi).1) k hk, tap20_b _ _ _ _ _ (fun i hi => (ht i hi).2) k hk⟩⟩, hr⟩, nx⟩
  · exact ⟨_, _, _, (feed_x n hn _ _ _ _ _ _).trans (if_neg h), _, _, (feed_m n hn _ _ _ _ _ _).trans (if_neg h), ⟨⟨n, hn, rfl, rfl, ht⟩, hr⟩, nx⟩
theorem end_x (t a : Int32) : P_Gp_end t a = P_Mo_end t a := rfl
theorem end_v (n : Nat) (hn : n ≤ 4096) (a : Int32) : ∃ r k, k ≤ n ∧ P_Mo_end (nI n) a = some (r, nI k) := by
  unfold P_Mo_end
  by_cases c : a < 0
  · exact ⟨_, n, Nat.le_refl n, if_pos c⟩
  · rw [if_neg c]
    by_cases c2 : a ≤ nI n
    · obtain ⟨k, hk, rfl⟩ := nI_of2 (nI_toInt (by omega)) c c2
      exact ⟨_, k, hk, if_pos c2⟩
    · exact ⟨_, n, Nat.le_refl n, if_neg c2⟩
theorem stepN_end {X : (Nat → Int32) → Prop} (J : LInv) : StepN_end (InvN X) J := by
  intro j iv jv av lw ov nv ad a1 a2 a3 a4 a5 hj ⟨⟨⟨n, hn, e0, e66, ht⟩, hr⟩, _⟩
  rw [e0, e66]
  obtain ⟨r, k, hk, e⟩ := end_v n hn a1
  exact ⟨r, _, (end_x _ _).trans e, _, e, ⟨⟨k, by omega, rfl, rfl, fun i hi => ht i (by omega)⟩, hr⟩, nx⟩
theorem size_v (z : Nat) (h4 : 4 ≤ z) (h64 : z ≤ 64) (a : Int32) : ∃ r k, 4 ≤ k ∧ k ≤ 64 ∧ P_Gp_size (nI z) a = some (r, nI k) ∧ P_Mo_size (nI z) a = some (r, nI k) := by
  unfold P_Gp_size P_Mo_size
  by_cases c : a < (4 : Int32)
  · exact ⟨_, z, h4, h64, if_pos c, if_pos c⟩
  · rw [if_neg c]
    by_cases c2 : a ≤ (64 : Int32)
    · have h0 : ¬ a < 0 := fun q => c (by
        rw [Int32.lt_iff_toInt_lt, show (0 : Int32).toInt = 0 from by decide] at q
        rw [Int32.lt_iff_toInt_lt, show (4 : Int32).toInt = 4 from by decide]
        omega)
      obtain ⟨k, hk, rfl⟩ := nI_of2 (M := 64) (n := 64) (by decide) h0 c2
      refine ⟨_, k, ?_, hk, if_pos c2, if_pos c2⟩
      rcases Nat.lt_or_ge k 4 with q | q
      · exact absurd (show nI k < nI 4 from nI_lt q (by omega)) c
      · exact q
    · exact ⟨_, z, h4, h64, if_neg c2, if_neg c2⟩
theorem stepN_size {X : (Nat → Int32) → Prop} (J : LInv) : StepN_size (InvN X) J := by
  intro j iv jv av lw ov nv ad a1 a2 a3 a4 a5 hj ⟨⟨ht, ⟨⟨z, h4, h64, e1⟩, e67⟩, hr⟩, _⟩
  rw [e67, e1]
  obtain ⟨r, k, g4, g64, e, e'⟩ := size_v z h4 h64 a1
  exact ⟨r, _, e, _, e', ⟨ht, ⟨⟨k, g4, g64, rfl⟩, rfl⟩, hr⟩, nx⟩
theorem stepN_glyph {X : (Nat → Int32) → Prop} (J : LInv) : StepN_glyph (InvN X) J := by
  intro j iv jv av lw ov nv ad a1 a2 a3 a4 a5 hj hI
  obtain ⟨r, e⟩ : ∃ r, P_Gp_glyph_N a1 = some r := by
    unfold P_Gp_glyph_N; split; exact ⟨_, rfl⟩; split <;> exact ⟨_, rfl⟩
  exact ⟨r, e, e, hI.1, nx⟩
theorem stepN_metric {X : (Nat → Int32) → Prop} (J : LInv) : StepN_metric (InvN X) J := by
  intro j iv jv av lw ov nv ad a1 a2 a3 a4 a5 hj hI
  obtain ⟨r, e⟩ : ∃ r, P_Gp_metric_N a1 = some r := by
    unfold P_Gp_metric_N; split; exact ⟨_, rfl⟩; split; (split <;> exact ⟨_, rfl⟩); exact ⟨_, rfl⟩
  exact ⟨r, e, e, hI.1, nx⟩
theorem stepN_look {X : (Nat → Int32) → Prop} (J : LInv) : StepN_look (InvN X) J := by
  intro j iv jv av lw ov nv ad a1 a2 a3 a4 a5 hj hI
  obtain ⟨r, e⟩ : ∃ r, P_Gp_look_N a1 a2 = some r := by
    unfold P_Gp_look_N; split; exact ⟨_, rfl⟩; split <;> exact ⟨_, rfl⟩
  exact ⟨r, e, e, hI.1, nx⟩
theorem stepN_point {X : (Nat → Int32) → Prop} (J : LInv) : StepN_point (InvN X) J := by
  intro j iv jv av lw ov nv ad a1 a2 a3 a4 a5 hj hI
  obtain ⟨r, e⟩ : ∃ r, P_Gp_point_N a1 a2 a3 = some r := by
    unfold P_Gp_point_N; split; exact ⟨_, rfl⟩; split <;> exact ⟨_, rfl⟩
  exact ⟨r, e, e, hI.1, nx⟩
theorem stepN_kern {X : (Nat → Int32) → Prop} (J : LInv) : StepN_kern (InvN X) J := by
  intro j iv jv av lw ov nv ad a1 a2 a3 a4 a5 hj hI
  exact ⟨hI.1, nx⟩
theorem stepN_winding {X : (Nat → Int32) → Prop} (J : LInv) : StepN_winding (InvN X) J := by
  intro j iv jv av lw ov nv ad a1 a2 a3 a4 a5 hj hI
  exact ⟨hI.1, nx⟩
theorem stepN_stamp {X : (Nat → Int32) → Prop} (J : LInv) : StepN_stamp (InvN X) J := by
  intro j iv jv av lw ov nv ad a1 a2 a3 a4 a5 hj hI
  exact ⟨hI.1, nx⟩
theorem text_xm (t a1 a2 a3 : Int32) : P_Gp_text_N t a1 a2 a3 = P_Mo_text_N t a1 a2 a3 := by
  unfold P_Gp_text_N P_Mo_text_N P_Cv_isNear
  by_cases c0 : (200 : Int32) < t
  · rw [if_pos c0, if_pos c0]
  rw [if_neg c0, if_neg c0]
  by_cases c1 : a1 < (-20000 : Int32)
  · rw [if_pos c1, if_pos c1]; rfl
  rw [if_neg c1, if_neg c1]
  by_cases c2 : (20000 : Int32) < a1
  · rw [if_pos c2, if_pos c2]; rfl
  rw [if_neg c2, if_neg c2]
  rw [some_bind, if_neg (show ¬ (1 : Int32) = 0 by decide)]
  by_cases c3 : a2 < (-20000 : Int32)
  · rw [if_pos c3, if_pos c3]; rfl
  rw [if_neg c3, if_neg c3]
  by_cases c4 : (20000 : Int32) < a2
  · rw [if_pos c4, if_pos c4]; rfl
  rw [if_neg c4, if_neg c4]
  rw [some_bind, if_neg (show ¬ (1 : Int32) = 0 by decide)]
theorem text_v (n : Nat) (hn : n ≤ 4096) (a1 a2 a3 : Int32) : ∃ r k, k ≤ n ∧ P_Mo_text_N (nI n) a1 a2 a3 = some (r, nI k) := by
  unfold P_Mo_text_N
  repeat (first | (split; exact ⟨_, n, Nat.le_refl n, rfl⟩) | (split; exact ⟨_, 0, Nat.zero_le n, rfl⟩; exact ⟨_, n, Nat.le_refl n, rfl⟩))
theorem stepN_text {X : (Nat → Int32) → Prop} (J : LInv) : StepN_text (InvN X) J := by
  intro j iv jv av lw ov nv ad a1 a2 a3 a4 a5 hj ⟨⟨⟨n, hn, e0, e66, ht⟩, hr⟩, _⟩
  rw [e0, e66]
  obtain ⟨r, k, hk, e⟩ := text_v n hn a1 a2 a3
  exact ⟨r, _, (text_xm _ _ _ _).trans e, _, e, ⟨⟨k, by omega, rfl, rfl, fun i hi => ht i (by omega)⟩, hr⟩, nx⟩
theorem line_x (f g h : Nat → Int32) (a1 a2 : Int32) : P_Gp_line 0 f g h a1 a2 = some (if a2 < 0 then -1 else if a2 ≤ (2 : Int32) then -2 else -1) := by
  unfold P_Gp_line
  split
  · rfl
  · split
    · split <;> rfl
    · rfl
theorem line_m (f g h : Nat → Int32) (a1 a2 : Int32) : P_Mo_line_III 0 f g h a1 a2 = some (if a2 < 0 then -1 else if a2 ≤ (2 : Int32) then -2 else -1) := by
  unfold P_Mo_line_III
  split
  · rfl
  · split
    · split <;> rfl
    · rfl
theorem stepN_line {X : (Nat → Int32) → Prop} (J : LInv) : StepN_line (InvN X) J := by
  intro j iv jv av lw ov nv ad a1 a2 a3 a4 a5 hj hI
  have e63 : iv 63 = 0 := hI.1.2.2.2.1
  have e68 : iv 68 = 0 := hI.1.2.2.2.2
  refine ⟨if a2 < 0 then -1 else if a2 ≤ (2 : Int32) then -2 else -1, ?_, ?_, hI.1, nx⟩
  · rw [e63]; exact line_x _ _ _ _ _
  · rw [e68]; exact line_m _ _ _ _ _
theorem pix_xm (w h : Nat) (hw : w ≤ 64) (hh : h ≤ 64) (f g : Nat → Int64) (hf : ∀ k, k < h → f k = 0) (hg : ∀ k, k < h → g k = 0) (a1 a2 : Int32) : ∃ r, P_Gp_pixel (nI w) (nI h) h f a1 a2 = some r ∧ P_Mo_pixel (nI w) (nI h) g a1 a2 = some r := by
  unfold P_Gp_pixel P_Mo_pixel
  by_cases c1 : a1 < 0
  · exact ⟨_, if_pos c1, if_pos c1⟩
  rw [if_neg c1, if_neg c1]
  by_cases c2 : nI w ≤ a1
  · exact ⟨_, if_pos c2, if_pos c2⟩
  rw [if_neg c2, if_neg c2]
  by_cases c3 : a2 < 0
  · exact ⟨_, if_pos c3, if_pos c3⟩
  rw [if_neg c3, if_neg c3]
  by_cases c4 : a2 < nI h
  · rw [if_pos c4, if_pos c4]
    obtain ⟨k, hk, rfl⟩ := nI_of c3
    have hkh : k < h := (nI_ltI hk (by omega)).mp c4
    unfold bd
    rw [if_neg (nI_in hkh (by omega)), if_neg (nI_in (show k < 64 by omega) (by omega)), nI_clamp hk, hf k hkh, hg k hkh]
    have z1 : ((0 : Int64).toUInt64 >>> (a1.toInt64.toUInt64 &&& Int64.toUInt64 63)).toInt64 = 0 := by
      rw [show (0 : Int64).toUInt64 = 0 from rfl]
      apply Int64.toBitVec_inj.mp
      simp
    refine ⟨0, ?_, by simp⟩
    simp
    rw [z1]
    decide
  · exact ⟨_, if_neg c4, if_neg c4⟩
theorem stepN_pixel {X : (Nat → Int32) → Prop} (J : LInv) : StepN_pixel (InvN X) J := by
  intro j iv jv av lw ov nv ad a1 a2 a3 a4 a5 hj hI
  obtain ⟨w, h, ⟨_, hw, _, hh⟩, e2, e3, e64, e65, n0, n1, hf, hg⟩ := hI.1.2.2.1
  obtain ⟨r, q1, q2⟩ := pix_xm w h hw hh (lw 0) (lw 1) hf hg a1 a2
  refine ⟨r, ?_, ?_, hI.1, nx⟩
  · rw [e2, e3, n0]; exact q1
  · rw [e64, e65]; exact q2
theorem stepN_row {X : (Nat → Int32) → Prop} (J : LInv) : StepN_row (InvN X) J := by
  intro j iv jv av lw ov nv ad a1 a2 a3 a4 a5 hj hI
  obtain ⟨w, h, ⟨_, hw, _, hh⟩, e2, e3, e64, e65, n0, n1, hf, hg⟩ := hI.1.2.2.1
  refine ⟨0, ?_, ?_, hI.1, nx⟩
  · rw [e3, n0]
    unfold P_Gp_row
    split
    · rfl
    · rename_i c3
      split
      · rename_i c4
        obtain ⟨k, hk, rfl⟩ := nI_of c3
        have hkh : k < h := (nI_ltI hk (by omega)).mp c4
        unfold bd
        rw [if_neg (nI_in hkh (by omega)), nI_clamp hk, hf k hkh]
      · rfl
  · rw [e65]
    unfold P_Mo_row
    split
    · rfl
    · rename_i c3
      split
      · rename_i c4
        obtain ⟨k, hk, rfl⟩ := nI_of c3
        have hkh : k < h := (nI_ltI hk (by omega)).mp c4
        unfold bd
        rw [if_neg (nI_in (show k < 64 by omega) (by omega)), nI_clamp hk, hg k hkh]
      · rfl
theorem stepN_inked {X : (Nat → Int32) → Prop} (J : LInv) : StepN_inked (InvN X) J := by
  intro j iv jv av lw ov nv ad a1 a2 a3 a4 a5 hj hI
  obtain ⟨w, h, ⟨_, hw, _, hh⟩, e2, e3, e64, e65, n0, n1, hf, hg⟩ := hI.1.2.2.1
  refine ⟨0, ?_, ?_, hI.1, nx⟩
  · rw [e3, n0]
    unfold P_Gp_inked
    rw [cs_0 h hh _ hf]
    rfl
  · rw [e64, e65]
    exact mink_0 w h hw hh _ hg
theorem fillJ (N : Nat) (hN : N ≤ 64) : ∀ (d k m : Nat) (f : Nat → Int64), k + d = N → d < m → (∀ i, i < k → f i = 0) → ∃ g, lp (L_Ja_fill_aJJV_6 N) m ((0 : Int64), nI k, nI N, f) = some g ∧ ∀ i, i < N → g i = 0 := by
  intro d
  induction d with
  | zero =>
    intro k m f hk hm hf
    obtain ⟨m, rfl⟩ := suc_of hm
    refine ⟨f, ?_, fun i hi => hf i (by omega)⟩
    rw [e_Ja_fill_aJJV_6]
    unfold P_Ja_fill_aJJV_6b
    rw [if_pos (nI_le (by omega) (by omega))]
  | succ d ih =>
    intro k m f hk hm hf
    obtain ⟨m, rfl⟩ := suc_of hm
    obtain ⟨g, e, hg⟩ := ih (k + 1) m (vp_updL f k 0) (by omega) (by omega) (fun i hi => by
      unfold vp_updL
      by_cases q : i = k
      · rw [if_pos q]
      · rw [if_neg q]; exact hf i (by omega))
    refine ⟨g, ?_, hg⟩
    rw [e_Ja_fill_aJJV_6]
    unfold P_Ja_fill_aJJV_6b
    rw [if_neg (nI_ge (by omega) (by omega))]
    unfold bd
    rw [if_neg (nI_in (by omega) (by omega)), nI_clamp (by omega), nI_1]
    exact e
theorem wipe_0 (N : Nat) (hN : N ≤ 64) (f : Nat → Int64) : ∃ g, P_Pg_wipe N f = some g ∧ ∀ i, i < N → g i = 0 := by
  obtain ⟨g, e, hg⟩ := fillJ N hN N 0 fuel f (by omega) (by unfold fuel; omega) (fun i hi => absurd hi (by omega))
  refine ⟨g, ?_, hg⟩
  unfold P_Pg_wipe P_Ja_fill_aJJV P_Ja_fill_aJJV_6
  show (lp _ fuel ((0 : Int64), nI 0, nI N, f)).bind _ = _
  rw [e]
  rfl
theorem mclr (w h : Nat) (hh : h ≤ 64) (r : Int32) : ∀ (d k m : Nat) (f : Nat → Int64), k + d = h → d < m → (∀ i, i < k → f i = 0) → ∃ g, lp (L_Mo_clear_7 (nI w) (nI h)) m (r, nI k, f) = some (r, g) ∧ ∀ i, i < h → g i = 0 := by
  intro d
  induction d with
  | zero =>
    intro k m f hk hm hf
    obtain ⟨m, rfl⟩ := suc_of hm
    refine ⟨f, ?_, fun i hi => hf i (by omega)⟩
    rw [e_Mo_clear_7]
    unfold P_Mo_clear_7b
    rw [if_pos (nI_le (by omega) (by omega))]
  | succ d ih =>
    intro k m f hk hm hf
    obtain ⟨m, rfl⟩ := suc_of hm
    obtain ⟨g, e, hg⟩ := ih (k + 1) m (vp_updL f k 0) (by omega) (by omega) (fun i hi => by
      unfold vp_updL
      by_cases q : i = k
      · rw [if_pos q]
      · rw [if_neg q]; exact hf i (by omega))
    refine ⟨g, ?_, hg⟩
    rw [e_Mo_clear_7]
    unfold P_Mo_clear_7b
    rw [if_neg (nI_ge (by omega) (by omega))]
    unfold bd
    rw [if_neg (nI_in (by omega) (by omega)), nI_clamp (by omega), nI_1]
    exact e
theorem stepN_clear {X : (Nat → Int32) → Prop} (J : LInv) : StepN_clear (InvN X) J := by
  intro j iv jv av lw ov nv ad a1 a2 a3 a4 a5 hj ⟨⟨ht, hz, ⟨w, h, hb, e2, e3, e64, e65, n0, n1, hf, hg⟩, hr⟩, _⟩
  obtain ⟨g, eg, hg0⟩ := wipe_0 h hb.2.2.2 (lw 0)
  obtain ⟨g', eg', hg0'⟩ := mclr w h hb.2.2.2 0 h 0 fuel (lw 1) (by omega) (by unfold fuel; omega) (fun i hi => absurd hi (by omega))
  refine ⟨0, g, ?_, g', ?_, ⟨ht, hz, ⟨w, h, hb, e2, e3, e64, e65, n0, n1, hg0, hg0'⟩, hr⟩, nx⟩
  · rw [e3, n0]
    unfold P_Gp_clear
    rw [cs_0 h hb.2.2.2 _ hf]
    show (P_Pg_wipe h (lw 0)).bind _ = _
    rw [eg]
    rfl
  · rw [e64, e65]
    unfold P_Mo_clear P_Mo_clear_7
    rw [mink_0 w h hb.2.1 hb.2.2.2 _ hg]
    exact eg'
theorem clamp_n (a : Int32) : ∃ w : Nat, 1 ≤ w ∧ w ≤ 64 ∧ (P_Jm_min (64 : Int32) a).bind (fun r => P_Jm_max (1 : Int32) r) = some (nI w) ∧ (if (1 : Int32) ≤ a then (if a ≤ (64 : Int32) then a else 64) else 1) = nI w := by
  unfold P_Jm_min P_Jm_max
  by_cases c1 : (1 : Int32) ≤ a
  · rw [if_pos c1]
    by_cases c2 : a ≤ (64 : Int32)
    · have h0 : ¬ a < 0 := fun q => absurd c1 (by
        rw [Int32.lt_iff_toInt_lt, show (0 : Int32).toInt = 0 from by decide] at q
        rw [Int32.le_iff_toInt_le, show (1 : Int32).toInt = 1 from by decide]
        omega)
      obtain ⟨w, hw, rfl⟩ := nI_of2 (M := 64) (n := 64) (by decide) h0 c2
      have h1 : 1 ≤ w := (nI_leI (a := 1) (by omega) (by omega)).mp c1
      refine ⟨w, h1, hw, ?_, by rw [if_pos c2]⟩
      by_cases c3 : nI w < (64 : Int32)
      · rw [if_pos c3]
        show (if (1 : Int32) < nI w then _ else _) = _
        by_cases c4 : (1 : Int32) < nI w
        · rw [if_pos c4]
        · rw [if_neg c4]
          have : ¬ 1 < w := fun q => c4 (show nI 1 < nI w from nI_lt q (by omega))
          rw [show w = 1 by omega]; rfl
      · rw [if_neg c3]
        have : ¬ w < 64 := fun q => c3 (show nI w < nI 64 from nI_lt q (by omega))
        rw [show w = 64 by omega]; rfl
    · rw [if_neg c2]
      refine ⟨64, by omega, by omega, ?_, rfl⟩
      rw [if_neg (fun q => c2 (Int32.le_of_lt q))]; rfl
  · rw [if_neg c1]
    have ha : a < (64 : Int32) := by
      rw [Int32.lt_iff_toInt_lt]; rw [Int32.le_iff_toInt_le] at c1
      have : (64 : Int32).toInt = 64 := by decide
      have : (1 : Int32).toInt = 1 := by decide
      omega
    refine ⟨1, by omega, by omega, ?_, rfl⟩
    rw [if_pos ha]
    show (if (1 : Int32) < a then _ else _) = _
    rw [if_neg (fun q => c1 (Int32.le_of_lt q))]; rfl
theorem pgi (w h : Nat) (hw : w ≤ 64) (hh : h ≤ 64) : P_Pg_init (nI w) (nI h) = some (nI w, nI h) := by
  unfold P_Pg_init na
  rw [nI_1, if_neg, if_neg]
  · rintro (q | q)
    · exact nI_pos (by omega) q
    · rw [nI_clamp (by omega)] at q; omega
  · rintro (q | q)
    · exact nI_pos (by omega) q
    · rw [nI_clamp (by omega)] at q; omega
theorem mo_init (a b : Int32) : P_Mo_init a b = some ((if (1 : Int32) ≤ a then (if a ≤ (64 : Int32) then a else 64) else 1), (if (1 : Int32) ≤ b then (if b ≤ (64 : Int32) then b else 64) else 1)) := by
  unfold P_Mo_init
  show (if (1 : Int32) ≤ a then _ else _) = _
  by_cases c1 : (1 : Int32) ≤ a
  · rw [if_pos c1, if_pos c1]
    by_cases c2 : a ≤ (64 : Int32)
    · rw [if_pos c2, if_pos c2]
      by_cases c3 : (1 : Int32) ≤ b
      · rw [if_pos c3, if_pos c3]
        by_cases c4 : b ≤ (64 : Int32)
        · rw [if_pos c4, if_pos c4]
        · rw [if_neg c4, if_neg c4]
      · rw [if_neg c3, if_neg c3]
    · rw [if_neg c2, if_neg c2]
      by_cases c3 : (1 : Int32) ≤ b
      · rw [if_pos c3, if_pos c3]
        by_cases c4 : b ≤ (64 : Int32)
        · rw [if_pos c4, if_pos c4]
        · rw [if_neg c4, if_neg c4]
      · rw [if_neg c3, if_neg c3]
  · rw [if_neg c1, if_neg c1]
    by_cases c3 : (1 : Int32) ≤ b
    · rw [if_pos c3, if_pos c3]
      by_cases c4 : b ≤ (64 : Int32)
      · rw [if_pos c4, if_pos c4]
      · rw [if_neg c4, if_neg c4]
    · rw [if_neg c3, if_neg c3]
theorem startN {X : (Nat → Int32) → Prop} (hX : ∀ iv : Nat → Int32, iv 0 = 0 → X iv) : StartN (InvN X) := by
  intro w0 w1
  obtain ⟨w, hw1, hw64, ew, ew'⟩ := clamp_n w0
  obtain ⟨h, hh1, hh64, eh, eh'⟩ := clamp_n w1
  obtain ⟨r1, a1, b1⟩ := Option.bind_eq_some_iff.mp ew
  obtain ⟨r2, a2, b2⟩ := Option.bind_eq_some_iff.mp eh
  refine ⟨nI w, nI h, h, w + 1, ?_, nI w, nI h, ?_, ⟨⟨0, by omega, rfl, rfl, fun k hk => absurd hk (by omega)⟩, ⟨⟨16, by omega, by omega, rfl⟩, rfl⟩, ⟨w, h, ⟨hw1, hw64, hh1, hh64⟩, rfl, rfl, rfl, rfl, rfl, rfl, fun _ _ => rfl, fun _ _ => rfl⟩, rfl, rfl⟩, fun _ => hX _ rfl⟩
  · unfold P_Gp_init
    show (P_Jm_min (64 : Int32) w0).bind _ = _
    rw [a1]
    show (P_Jm_max (1 : Int32) r1).bind _ = _
    rw [b1]
    show (P_Jm_min (64 : Int32) w1).bind _ = _
    rw [a2]
    show (P_Jm_max (1 : Int32) r2).bind _ = _
    rw [b2]
    show (P_Pg_init (nI w) (nI h)).bind _ = _
    rw [pgi w h hw64 hh64]
    show some (nI w, nI h, (nI h).toNatClampNeg, (nI w + 1).toNatClampNeg) = _
    rw [nI_1, nI_clamp (by omega), nI_clamp (by omega)]
  · rw [mo_init, ew', eh']
