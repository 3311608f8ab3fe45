/-! PURE ROWS: text: where a line stops, the lines of a text -/
def Sml (b n : Nat) (x y : Int32) : Prop := (x = 0 ∧ y = -1) ∨ ∃ v, b < v ∧ v ≤ n ∧ x = nI v ∧ y = nI v
theorem sml_s {b n v : Nat} (h1 : b < v) (h2 : v ≤ n) : Sml b n (nI v) (nI v) := Or.inr ⟨v, h1, h2, rfl, rfl⟩
theorem nIp0 {v : Nat} (h : 0 < v) (h2 : v < 2 ^ 31) : ¬ nI v = 0 := fun w => by
  have := (nI_eq (b := 0) h2 (by omega)).mp w
  omega
theorem sml_end {b n : Nat} {x y p q : Int32} (hn : n ≤ 200) (hx : ∃ v, b < v ∧ v ≤ n ∧ x = nI v ∧ y = nI v) (k : Sml b n p q) : ∃ e, b < e ∧ e ≤ n ∧ (if p = 0 then some x else some p) = some (nI e) ∧ (if 0 ≤ q then some q else some y) = some (nI e) := by
  rcases k with ⟨rfl, rfl⟩ | ⟨v, v1, v2, rfl, rfl⟩
  · obtain ⟨v, v1, v2, rfl, rfl⟩ := hx
    exact ⟨v, v1, v2, if_pos rfl, if_neg (by decide)⟩
  · exact ⟨v, v1, v2, if_neg (nIp0 (by omega) (by omega)), if_pos (nI_le (a := 0) (by omega) (by omega))⟩
theorem lst_s {z U G M C B Q n b : Nat} {f a tp mt pls ads : Nat → Int32} {g : Nat → Nat} {ad kr : Nat → Int32} (hn : n ≤ 200) (hb : b < n) (h : TxM z U G M C B Q f a mt n g ad kr) (ht : ∀ k, k < n → tp k = mt k) (hI : ∀ i, i < n → pls i = pl ad kr i ∧ ads i = ad i) (w : Int32) (s : Nat) (x y p q : Int32) (hs : b < s) (hsn : s ≤ n) (h10 : tp (s - 1) ≠ 10) (hx : Sml b n x y) (hp : Sml b n p q) : ∃ x1 y1 p1 q1, Sml b n x1 y1 ∧ Sml b n p1 q1 ∧ ((s = n ∨ tp s = 10) → ∃ v, b < v ∧ v ≤ n ∧ x1 = nI v ∧ y1 = nI v) ∧ (∀ zc, P_Ln_lineStop_21b pls ads tp zc (nI n) (nI b) w x p (nI s) = zc (nI n, nI b, w, x1, p1, nI (s + 1))) ∧ (∀ zm, P_Mo_lineEnd_25b (nI z) mt (nI U) (nI G) (nI M) (nI C) (nI B) (nI Q) f a zm (nI b) (nI n) w y q (nI (s - 1)) 1 = P_Mo_lineEnd_67 (nI z) mt (nI U) (nI G) (nI M) (nI C) (nI B) (nI Q) f a zm (nI b) (nI n) w y1 q1 (nI s)) := by
  obtain ⟨r, r1, r2, r3⟩ := may_b hn ht (show 1 ≤ s by omega) hsn
  have em : nI (s - 1) + 1 = nI s := by rw [nI_1, Nat.sub_add_cancel (by omega)]
  have e1 : nI s - (1 : Int32) = nI (s - 1) := pk_sub (b := 1) (by omega)
  have wc := wof_c (tp := tp) hn hb hI s hsn
  have wm := wof_m h hn hb s hsn
  rw [← trm_e ht s hsn] at wm
  by_cases q0 : r = 0
  · refine ⟨x, y, p, q, hx, hp, fun e => absurd q0 (r3 e), fun zc => ?_, fun zm => ?_⟩
    · unfold P_Ln_lineStop_21b P_Ln_lineStop_84
      rw [if_neg (nI_nlt hsn (by omega)), e1, bdI (show s - 1 < 4096 by omega) (by omega), nI_clamp (show s - 1 < 2 ^ 31 by omega), if_neg h10, r1, some_bind, if_pos q0, nI_1]
    · unfold P_Mo_lineEnd_25b
      rw [if_neg i1_0, em, r2, some_bind, if_pos q0]
  · rcases hx with ⟨rfl, rfl⟩ | ⟨v, v1, v2, rfl, rfl⟩
    · by_cases hw : w < Wd ad kr b (trm tp b s)
      · refine ⟨nI s, nI s, p, q, sml_s hs hsn, hp, fun _ => ⟨s, hs, hsn, rfl, rfl⟩, fun zc => ?_, fun zm => ?_⟩
        · unfold P_Ln_lineStop_21b P_Ln_lineStop_60 P_Ln_lineStop_82 P_Ln_lineStop_84
          rw [if_neg (nI_nlt hsn (by omega)), e1, bdI (show s - 1 < 4096 by omega) (by omega), nI_clamp (show s - 1 < 2 ^ 31 by omega), if_neg h10, r1, some_bind, if_neg q0, if_pos rfl, wc, some_bind, if_pos hw, nI_1]
        · unfold P_Mo_lineEnd_25b P_Mo_lineEnd_52
          rw [if_neg i1_0, em, r2, some_bind, if_neg q0, if_neg (show ¬ (0 : Int32) ≤ -1 by decide), wm, some_bind, if_pos hw]
      · refine ⟨nI s, nI s, nI s, nI s, sml_s hs hsn, sml_s hs hsn, fun _ => ⟨s, hs, hsn, rfl, rfl⟩, fun zc => ?_, fun zm => ?_⟩
        · unfold P_Ln_lineStop_21b P_Ln_lineStop_60 P_Ln_lineStop_82 P_Ln_lineStop_84
          rw [if_neg (nI_nlt hsn (by omega)), e1, bdI (show s - 1 < 4096 by omega) (by omega), nI_clamp (show s - 1 < 2 ^ 31 by omega), if_neg h10, r1, some_bind, if_neg q0, if_pos rfl, wc, some_bind, if_neg hw, nI_1]
        · unfold P_Mo_lineEnd_25b P_Mo_lineEnd_52
          rw [if_neg i1_0, em, r2, some_bind, if_neg q0, if_neg (show ¬ (0 : Int32) ≤ -1 by decide), wm, some_bind, if_neg hw]
    · have v0 : ¬ nI v = 0 := nIp0 (by omega) (by omega)
      have v3 : (0 : Int32) ≤ nI v := nI_le (a := 0) (by omega) (by omega)
      by_cases hw : w < Wd ad kr b (trm tp b s)
      · refine ⟨nI v, nI v, p, q, sml_s v1 v2, hp, fun _ => ⟨v, v1, v2, rfl, rfl⟩, fun zc => ?_, fun zm => ?_⟩
        · unfold P_Ln_lineStop_21b P_Ln_lineStop_60 P_Ln_lineStop_82 P_Ln_lineStop_84
          rw [if_neg (nI_nlt hsn (by omega)), e1, bdI (show s - 1 < 4096 by omega) (by omega), nI_clamp (show s - 1 < 2 ^ 31 by omega), if_neg h10, r1, some_bind, if_neg q0, if_neg v0, wc, some_bind, if_pos hw, nI_1]
        · unfold P_Mo_lineEnd_25b P_Mo_lineEnd_52
          rw [if_neg i1_0, em, r2, some_bind, if_neg q0, if_pos v3, wm, some_bind, if_pos hw]
      · refine ⟨nI v, nI v, nI s, nI s, sml_s v1 v2, sml_s hs hsn, fun _ => ⟨v, v1, v2, rfl, rfl⟩, fun zc => ?_, fun zm => ?_⟩
        · unfold P_Ln_lineStop_21b P_Ln_lineStop_60 P_Ln_lineStop_82 P_Ln_lineStop_84
          rw [if_neg (nI_nlt hsn (by omega)), e1, bdI (show s - 1 < 4096 by omega) (by omega), nI_clamp (show s - 1 < 2 ^ 31 by omega), if_neg h10, r1, some_bind, if_neg q0, if_neg v0, wc, some_bind, if_neg hw, nI_1]
        · unfold P_Mo_lineEnd_25b P_Mo_lineEnd_52
          rw [if_neg i1_0, em, r2, some_bind, if_neg q0, if_pos v3, wm, some_bind, if_neg hw]
theorem lst_e {z U G M C B Q n b : Nat} {f a tp mt pls ads : Nat → Int32} (hn : n ≤ 200) (ht : ∀ k, k < n → tp k = mt k) (w : Int32) (s m m' : Nat) (x y p q : Int32) (hsn : s ≤ n) (he : s = n ∨ tp s = 10) (hx : ∃ v, b < v ∧ v ≤ n ∧ x = nI v ∧ y = nI v) (hp : Sml b n p q) : ∃ e, b < e ∧ e ≤ n ∧ lp (L_Ln_lineStop_21 pls ads tp) (m + 1) (nI n, nI b, w, x, p, nI (s + 1)) = some (nI e) ∧ P_Mo_lineEnd_67 (nI z) mt (nI U) (nI G) (nI M) (nI C) (nI B) (nI Q) f a (lp (L_Mo_lineEnd_25 (nI z) mt (nI U) (nI G) (nI M) (nI C) (nI B) (nI Q) f a) (m' + 1)) (nI b) (nI n) w y q (nI s) = some (nI e) := by
  obtain ⟨e, c1, c2, c3, c4⟩ := sml_end hn hx hp
  refine ⟨e, c1, c2, ?_, ?_⟩
  · rw [e_Ln_lineStop_21]
    unfold P_Ln_lineStop_21b P_Ln_lineStop_90
    by_cases k : s = n
    · rw [if_pos (nI_lt (show n < s + 1 by omega) (by omega))]
      exact c3
    · have e1 : nI (s + 1) - (1 : Int32) = nI s := pk_sub (b := 1) (by omega)
      rw [if_neg (nI_nlt (show s + 1 ≤ n by omega) (by omega)), e1, bdI (show s < 4096 by omega) (by omega), nI_clamp (show s < 2 ^ 31 by omega), if_pos (he.resolve_left k)]
      exact c3
  · unfold P_Mo_lineEnd_67 P_Mo_lineEnd_89 P_Mo_lineEnd_90
    by_cases k : s = n
    · rw [if_pos (nI_le (show n ≤ s by omega) (by omega)), e_Mo_lineEnd_25]
      unfold P_Mo_lineEnd_25b
      rw [if_pos rfl]
      exact c4
    · rw [if_neg (nI_ge (show s < n by omega) (by omega)), bdI (show s < 4096 by omega) (by omega), nI_clamp (show s < 2 ^ 31 by omega), if_pos (by rw [← ht s (by omega)]; exact he.resolve_left k), e_Mo_lineEnd_25]
      unfold P_Mo_lineEnd_25b
      rw [if_pos rfl]
      exact c4
theorem lst_l {z U G M C B Q n b : Nat} {f a tp mt pls ads : Nat → Int32} {g : Nat → Nat} {ad kr : Nat → Int32} (hn : n ≤ 200) (hb : b < n) (h : TxM z U G M C B Q f a mt n g ad kr) (ht : ∀ k, k < n → tp k = mt k) (hI : ∀ i, i < n → pls i = pl ad kr i ∧ ads i = ad i) (w : Int32) : ∀ (d s m m' : Nat) (x y p q : Int32), s + d = n → b < s → tp (s - 1) ≠ 10 → d + 1 < m → d + 1 < m' → Sml b n x y → Sml b n p q → ∃ e, b < e ∧ e ≤ n ∧ lp (L_Ln_lineStop_21 pls ads tp) m (nI n, nI b, w, x, p, nI s) = some (nI e) ∧ lp (L_Mo_lineEnd_25 (nI z) mt (nI U) (nI G) (nI M) (nI C) (nI B) (nI Q) f a) m' (nI b, nI n, w, y, q, nI (s - 1), 1) = some (nI e) := by
  intro d
  induction d with
  | zero =>
    intro s m m' x y p q hd hs h10 hm hm' hx hp
    obtain ⟨m, rfl⟩ : ∃ k, m = k + 1 + 1 := ⟨m - 2, by omega⟩
    obtain ⟨m', rfl⟩ : ∃ k, m' = k + 1 + 1 := ⟨m' - 2, by omega⟩
    obtain ⟨x1, y1, p1, q1, _, k2, k3, k4, k5⟩ := lst_s hn hb h ht hI w s x y p q hs (by omega) h10 hx hp
    rw [e_Ln_lineStop_21, k4, e_Mo_lineEnd_25, k5]
    exact lst_e hn ht w s m m' x1 y1 p1 q1 (by omega) (Or.inl (by omega)) (k3 (Or.inl (by omega))) k2
  | succ d ih =>
    intro s m m' x y p q hd hs h10 hm hm' hx hp
    obtain ⟨m, rfl⟩ : ∃ k, m = k + 1 + 1 := ⟨m - 2, by omega⟩
    obtain ⟨m', rfl⟩ : ∃ k, m' = k + 1 + 1 := ⟨m' - 2, by omega⟩
    obtain ⟨x1, y1, p1, q1, k1, k2, k3, k4, k5⟩ := lst_s hn hb h ht hI w s x y p q hs (by omega) h10 hx hp
    rw [e_Ln_lineStop_21, k4, e_Mo_lineEnd_25, k5]
    by_cases t : tp s = 10
    · exact lst_e hn ht w s m m' x1 y1 p1 q1 (by omega) (Or.inr t) (k3 (Or.inr t)) k2
    · unfold P_Mo_lineEnd_67 P_Mo_lineEnd_90
      rw [if_neg (nI_ge (show s < n by omega) (by omega)), bdI (show s < 4096 by omega) (by omega), nI_clamp (show s < 2 ^ 31 by omega), if_neg (by rw [← ht s (by omega)]; exact t)]
      exact ih (s + 1) (m + 1) (m' + 1) x1 y1 p1 q1 (by omega) (by omega) t (by omega) (by omega) k1 k2
theorem lst_v {z U G M C B Q n b : Nat} {f a tp mt pls ads : Nat → Int32} {g : Nat → Nat} {ad kr : Nat → Int32} (hn : n ≤ 200) (hb : b < n) (h : TxM z U G M C B Q f a mt n g ad kr) (ht : ∀ k, k < n → tp k = mt k) (hI : ∀ i, i < n → pls i = pl ad kr i ∧ ads i = ad i) (w : Int32) : ∃ e, b ≤ e ∧ e ≤ n ∧ (e = b → tp b = 10) ∧ P_Ln_lineStop pls ads tp (nI n) (nI b) w = some (nI e) ∧ P_Mo_lineEnd (nI z) mt (nI U) (nI G) (nI M) (nI C) (nI B) (nI Q) f a (nI b) (nI n) w = some (nI e) := by
  unfold P_Ln_lineStop P_Mo_lineEnd
  rw [bdI (show b < 4096 by omega) (by omega), bdI (show b < 4096 by omega) (by omega), nI_clamp (show b < 2 ^ 31 by omega), ← ht b hb]
  by_cases t : tp b = 10
  · rw [if_pos t, if_pos t]
    exact ⟨b, Nat.le_refl b, by omega, fun _ => t, rfl, rfl⟩
  · rw [if_neg t, if_neg t, nI_1]
    obtain ⟨e, c1, c2, c3, c4⟩ := lst_l hn hb h ht hI w (n - (b + 1)) (b + 1) fuel fuel 0 (-1) 0 (-1) (by omega) (by omega) t (by unfold fuel; omega) (by unfold fuel; omega) (Or.inl ⟨rfl, rfl⟩) (Or.inl ⟨rfl, rfl⟩)
    exact ⟨e, by omega, c2, fun w => by omega, c3, c4⟩
def nxb (n : Nat) (tp : Nat → Int32) (e : Nat → Nat) (b : Nat) : Nat := if e b < n ∧ tp (e b) = 10 then e b + 1 else e b
def bsq (n : Nat) (tp : Nat → Int32) (e : Nat → Nat) : Nat → Nat
  | 0 => 0
  | k + 1 => nxb n tp e (bsq n tp e k)
def LnS (n : Nat) (tp : Nat → Int32) (e : Nat → Nat) : Prop := ∀ b, b < n → b ≤ e b ∧ e b ≤ n ∧ (e b = b → tp b = 10)
theorem nxb_v {n : Nat} {tp : Nat → Int32} {e : Nat → Nat} (h : LnS n tp e) {b : Nat} (hb : b < n) : b < nxb n tp e b ∧ nxb n tp e b ≤ n := by
  obtain ⟨h1, h2, h3⟩ := h b hb
  unfold nxb
  split
  · omega
  · rename_i q
    rcases Nat.eq_or_lt_of_le h1 with w | w
    · exact absurd ⟨by omega, by rw [← w]; exact h3 w.symm⟩ q
    · omega
theorem part_v {n : Nat} {tp pls ads ad kr : Nat → Int32} {e : Nat → Nat} {w : Int32} (hn : n ≤ 200) (hI : ∀ i, i < n → pls i = pl ad kr i ∧ ads i = ad i) (hL : LnS n tp e) (hs : ∀ b, b < n → P_Ln_lineStop pls ads tp (nI n) (nI b) w = some (nI (e b))) (cnt : Int32) (bg en wd : Nat → Int32) : ∃ c bg' en' wd', P_Ln_part cnt bg en wd pls ads tp (nI n) w = some (nI c, bg', en', wd') ∧ c ≤ 200 ∧ bsq n tp e c = n ∧ ∀ j, j < c → bsq n tp e j < n ∧ bg' j = nI (bsq n tp e j) ∧ en' j = nI (e (bsq n tp e j)) ∧ wd' j = Wd ad kr (bsq n tp e j) (trm tp (bsq n tp e j) (e (bsq n tp e j))) := by
  have loop : ∀ (d k m : Nat) (bg en wd : Nat → Int32), n ≤ bsq n tp e k + d → k ≤ bsq n tp e k → bsq n tp e k ≤ n → d < m → (∀ j, j < k → bsq n tp e j < n ∧ bg j = nI (bsq n tp e j) ∧ en j = nI (e (bsq n tp e j)) ∧ wd j = Wd ad kr (bsq n tp e j) (trm tp (bsq n tp e j) (e (bsq n tp e j)))) → ∃ c bg' en' wd', lp (L_Ln_part_8 pls ads tp) m (nI n, w, nI (bsq n tp e k), nI k, bg, en, wd) = some (nI c, bg', en', wd') ∧ c ≤ 200 ∧ bsq n tp e c = n ∧ ∀ j, j < c → bsq n tp e j < n ∧ bg' j = nI (bsq n tp e j) ∧ en' j = nI (e (bsq n tp e j)) ∧ wd' j = Wd ad kr (bsq n tp e j) (trm tp (bsq n tp e j) (e (bsq n tp e j))) := by
    intro d
    induction d with
    | zero =>
      intro k m bg en wd h1 h2 h3 hm hJ
      obtain ⟨m, rfl⟩ := suc_of hm
      rw [e_Ln_part_8]
      unfold P_Ln_part_8b
      rw [if_pos (nI_le (show n ≤ bsq n tp e k by omega) (by omega))]
      exact ⟨k, bg, en, wd, rfl, by omega, by omega, hJ⟩
    | succ d ih =>
      intro k m bg en wd h1 h2 h3 hm hJ
      obtain ⟨m, rfl⟩ := suc_of hm
      rw [e_Ln_part_8]
      unfold P_Ln_part_8b
      rcases Nat.eq_or_lt_of_le h3 with q | q
      · rw [if_pos (nI_le (show n ≤ bsq n tp e k by omega) (by omega))]
        exact ⟨k, bg, en, wd, rfl, by omega, by omega, hJ⟩
      have hx := nxb_v hL q
      obtain ⟨l1, l2, l3⟩ := hL _ q
      have nx : bsq n tp e (k + 1) = nxb n tp e (bsq n tp e k) := rfl
      have hJ' : ∀ j, j < k + 1 → bsq n tp e j < n ∧ upd bg k (nI (bsq n tp e k)) j = nI (bsq n tp e j) ∧ upd en k (nI (e (bsq n tp e k))) j = nI (e (bsq n tp e j)) ∧ upd wd k (Wd ad kr (bsq n tp e k) (trm tp (bsq n tp e k) (e (bsq n tp e k)))) j = Wd ad kr (bsq n tp e j) (trm tp (bsq n tp e j) (e (bsq n tp e j))) := by
        intro j hj
        rcases Nat.lt_or_ge j k with w | w
        · rw [pk_un (by omega), pk_un (by omega), pk_un (by omega)]; exact hJ j w
        · rw [show j = k by omega, pk_us, pk_us, pk_us]
          exact ⟨q, rfl, rfl, rfl⟩
      have key := ih (k + 1) m _ _ _ (by rw [nx]; omega) (by rw [nx]; omega) (by rw [nx]; omega) (by omega) hJ'
      rw [nx] at key
      rw [if_neg (nI_ge q (by omega)), if_neg (show ¬ (200 : Int32) ≤ nI k from nI_ge (b := 200) (by omega) (by omega)), hs _ q, some_bind, bdI (show k < 200 by omega) (by omega), bdI (show k < 200 by omega) (by omega), wof_c hn q hI _ l2, some_bind, bdI (show k < 200 by omega) (by omega), nI_clamp (show k < 2 ^ 31 by omega), nI_1]
      unfold P_Ln_part_107 P_Ln_part_109
      unfold nxb at key
      rcases Nat.lt_or_ge (e (bsq n tp e k)) n with v | v
      · rw [if_neg (nI_ge v (by omega)), bdI (show e (bsq n tp e k) < 4096 by omega) (by omega), nI_clamp (show e (bsq n tp e k) < 2 ^ 31 by omega)]
        by_cases t : tp (e (bsq n tp e k)) = 10
        · rw [if_pos t, nI_1]
          rw [if_pos (And.intro v t)] at key
          exact key
        · rw [if_neg t]
          rw [if_neg (show ¬ (e (bsq n tp e k) < n ∧ tp (e (bsq n tp e k)) = 10) from fun x => t x.2)] at key
          exact key
      · rw [if_pos (nI_le v (by omega))]
        rw [if_neg (show ¬ (e (bsq n tp e k) < n ∧ tp (e (bsq n tp e k)) = 10) from fun x => absurd x.1 (by omega))] at key
        exact key
  unfold P_Ln_part P_Ln_part_8
  exact loop n 0 fuel bg en wd (by omega) (Nat.zero_le _) (Nat.zero_le _) (by unfold fuel; omega) (fun j hj => absurd hj (Nat.not_lt_zero _))
