/-! PURE ROWS: text: glyphs, places, widths, line ends -/
def TxC (N z U G M C B Q : Nat) (pairs : Int32) (f st tp : Nat → Int32) (n : Nat) (g : Nat → Nat) (ad kr : Nat → Int32) : Prop := (∀ i, i < n → P_Ff_glyphOf (nI N) (nI G) (nI C) (nI B) (nI Q) f (tp i &&& 255) = some (nI (g i)) ∧ g i < G) ∧ (∀ i, i < n → ∃ a, P_Ff_advanceOf (nI N) (nI M) f st (nI (g i)) = some a ∧ P_Ff_scaled (nI U) a (nI z) = some (ad i)) ∧ ∀ i, i + 1 < n → ∃ k, P_Ff_kernOf (nI N) pairs f st (nI (g i)) (nI (g (i + 1))) = some k ∧ P_Ff_scaled (nI U) k (nI z) = some (kr i)
def TxM (z U G M C B Q : Nat) (f a tp : Nat → Int32) (n : Nat) (g : Nat → Nat) (ad kr : Nat → Int32) : Prop := (∀ i, i < n → P_Mo_glyphOf (nI G) (nI C) (nI B) (nI Q) f (tp i &&& 255) = some (nI (g i))) ∧ (∀ i, i < n → ∃ v, P_Mo_advance (nI M) f a (nI (g i)) = some v ∧ P_Mo_scaled (nI z) (nI U) v = some (ad i)) ∧ ∀ i, i + 1 < n → ∃ k, P_Mo_kern_III f a (nI (g i)) (nI (g (i + 1))) = some k ∧ P_Mo_scaled (nI z) (nI U) k = some (kr i)
theorem by255 (v : Int32) : ∃ c, c < 65536 ∧ v &&& 255 = nI c := by
  obtain ⟨c, h1, h2⟩ := pk_andE v (m := 255) 8 (by decide)
  exact ⟨c, by omega, h2⟩
theorem tx_ex {N z U G M C B Q s4 z4 n : Nat} {pairs : Int32} {f h st sz a l tp mt : Nat → Int32} (hN : N ≤ 4096) (hg : Agr N f h) (hz : z ≤ 64) (hU : 16 ≤ U ∧ U ≤ 16384) (hG : 1 ≤ G ∧ G ≤ 64) (hM : 1 ≤ M ∧ M ≤ G) (hQ : 16 + 8 * Q ≤ B) (hC : C + B ≤ N) (e4 : st 4 = nI s4) (e4' : a 4 = nI s4) (hz4 : s4 + z4 ≤ N) (h4 : 4 * M ≤ z4) (hK : Krn N f st sz a l U pairs) (htp : ∀ k, k < n → tp k = mt k) : ∃ g ad kr, TxC N z U G M C B Q pairs f st tp n g ad kr ∧ TxM z U G M C B Q h a mt n g ad kr := by
  let g : Nat → Nat := fun i => ((P_Mo_glyphOf (nI G) (nI C) (nI B) (nI Q) h (mt i &&& 255)).getD 0).toNatClampNeg
  let ad : Nat → Int32 := fun i => ((P_Mo_advance (nI M) h a (nI (g i))).bind fun v => P_Mo_scaled (nI z) (nI U) v).getD 0
  let kr : Nat → Int32 := fun i => ((P_Mo_kern_III h a (nI (g i)) (nI (g (i + 1)))).bind fun v => P_Mo_scaled (nI z) (nI U) v).getD 0
  have hgl : ∀ i, P_Ff_glyphOf (nI N) (nI G) (nI C) (nI B) (nI Q) f (mt i &&& 255) = some (nI (g i)) ∧ P_Mo_glyphOf (nI G) (nI C) (nI B) (nI Q) h (mt i &&& 255) = some (nI (g i)) ∧ g i < G := by
    intro i
    obtain ⟨c, c1, c2⟩ := by255 (mt i)
    obtain ⟨r, r1, r2, r3⟩ := gof_b hN hg hQ hC hG c1
    have e : g i = r := by
      show ((P_Mo_glyphOf (nI G) (nI C) (nI B) (nI Q) h (mt i &&& 255)).getD 0).toNatClampNeg = r
      rw [c2, r3]
      exact nI_clamp (by omega)
    rw [e, c2]
    exact ⟨r2, r3, r1⟩
  have had : ∀ i, ∃ v, P_Ff_advanceOf (nI N) (nI M) f st (nI (g i)) = some v ∧ P_Ff_scaled (nI U) v (nI z) = some (ad i) ∧ P_Mo_advance (nI M) h a (nI (g i)) = some v ∧ P_Mo_scaled (nI z) (nI U) v = some (ad i) := by
    intro i
    have gi := (hgl i).2.2
    have a1 := adv_f hN f e4 (by omega) ⟨hM.1, by omega⟩ (show g i < 2 ^ 20 by omega)
    have a2 := adv_m hN hg e4' hz4 ⟨hM.1, by omega⟩ h4 (show g i < 2 ^ 20 by omega)
    have ht := tAt_lt N f (s4 + 4 * (if g i < M then g i else M - 1))
    generalize tAt N f (s4 + 4 * (if g i < M then g i else M - 1)) = t at a1 a2 ht
    obtain ⟨r, p1, p2, _⟩ := sc_b hz hU (v := nI t) (by rw [nI_ti (by omega)]; omega)
    have e : ad i = r := by
      show ((P_Mo_advance (nI M) h a (nI (g i))).bind fun v => P_Mo_scaled (nI z) (nI U) v).getD 0 = r
      rw [a2, some_bind, p2]; rfl
    rw [e]
    exact ⟨_, a1, p1, a2, p2⟩
  have hkr : ∀ i, ∃ v, P_Ff_kernOf (nI N) pairs f st (nI (g i)) (nI (g (i + 1))) = some v ∧ P_Ff_scaled (nI U) v (nI z) = some (kr i) ∧ P_Mo_kern_III h a (nI (g i)) (nI (g (i + 1))) = some v ∧ P_Mo_scaled (nI z) (nI U) v = some (kr i) := by
    intro i
    obtain ⟨r, k1, k2, k3⟩ := kof_b hN hg hK (nI (g i)) (nI (g (i + 1)))
    obtain ⟨s, p1, p2, _⟩ := sc_b hz hU (v := r) (by
      rcases k3 with k3 | k3
      · rw [k3]; decide
      · unfold modest at k3; omega)
    have e : kr i = s := by
      show ((P_Mo_kern_III h a (nI (g i)) (nI (g (i + 1)))).bind fun v => P_Mo_scaled (nI z) (nI U) v).getD 0 = s
      rw [k2, some_bind, p2]; rfl
    rw [e]
    exact ⟨_, k1, p1, k2, p2⟩
  refine ⟨g, ad, kr, ⟨fun i hi => ?_, fun i hi => ?_, fun i hi => ?_⟩, ⟨fun i hi => (hgl i).2.1, fun i hi => ?_, fun i hi => ?_⟩⟩
  · rw [htp i hi]; exact ⟨(hgl i).1, (hgl i).2.2⟩
  · obtain ⟨v, p1, p2, _, _⟩ := had i; exact ⟨v, p1, p2⟩
  · obtain ⟨v, p1, p2, _, _⟩ := hkr i; exact ⟨v, p1, p2⟩
  · obtain ⟨v, _, _, p1, p2⟩ := had i; exact ⟨v, p1, p2⟩
  · obtain ⟨v, _, _, p1, p2⟩ := hkr i; exact ⟨v, p1, p2⟩
def pl (ad kr : Nat → Int32) : Nat → Int32
  | 0 => 0
  | k + 1 => pl ad kr k + (ad k + kr k)
theorem mea_v {N z U G M C B Q n : Nat} {pairs : Int32} {f st tp : Nat → Int32} {g : Nat → Nat} {ad kr : Nat → Int32} (h : TxC N z U G M C B Q pairs f st tp n g ad kr) (hn : n ≤ 200) (gl pls ads : Nat → Int32) : ∃ gl' pls' ads', P_Ln_measure gl pls ads (nI N) (nI U) (nI G) (nI M) (nI C) (nI B) (nI Q) pairs f st tp (nI z) (nI n) = some (gl', pls', ads') ∧ ∀ i, i < n → gl' i = nI (g i) ∧ pls' i = pl ad kr i ∧ ads' i = ad i := by
  obtain ⟨h1, h2, h3⟩ := h
  have loop : ∀ (e k m : Nat) (gl pls ads : Nat → Int32), k + e = n → e < m → (∀ i, i < k → gl i = nI (g i) ∧ pls i = pl ad kr i ∧ ads i = ad i) → ∃ gl' pls' ads', lp (L_Ln_measure_6 (nI N) (nI U) (nI G) (nI M) (nI C) (nI B) (nI Q) pairs f st tp) m (nI z, nI n, pl ad kr (k - 1), nI k, gl, pls, ads) = some (gl', pls', ads') ∧ ∀ i, i < n → gl' i = nI (g i) ∧ pls' i = pl ad kr i ∧ ads' i = ad i := by
    intro e
    induction e with
    | zero =>
      intro k m gl pls ads hk hm hI
      obtain ⟨m, rfl⟩ := suc_of hm
      rw [e_Ln_measure_6]
      unfold P_Ln_measure_6b
      rw [if_pos (nI_le (by omega) (by omega))]
      exact ⟨gl, pls, ads, rfl, fun i hi => hI i (by omega)⟩
    | succ e ih =>
      intro k m gl pls ads hk hm hI
      obtain ⟨m, rfl⟩ := suc_of hm
      rw [e_Ln_measure_6]
      unfold P_Ln_measure_6b P_Ln_measure_112
      rw [if_neg (nI_ge (show k < n by omega) (by omega)), if_neg (show ¬ (200 : Int32) ≤ nI k from nI_ge (b := 200) (by omega) (by omega))]
      obtain ⟨a, a1, a2⟩ := h2 k (by omega)
      simp only [bdI (show k < 4096 by omega) (show 4096 < 2 ^ 31 by omega), bdI (show k < 200 by omega) (show 200 < 2 ^ 31 by omega), nI_clamp (show k < 2 ^ 31 by omega), (h1 k (by omega)).1, some_bind, pk_us, a1, a2, nI_1]
      rcases Nat.eq_zero_or_pos k with z0 | z0
      · subst z0
        rw [if_pos (show nI 0 ≤ 0 by decide)]
        refine ih (0 + 1) m _ _ _ (by omega) (by omega) (fun i hi => ?_)
        have : i = 0 := by omega
        subst this
        rw [pk_us, pk_us, pk_us]
        exact ⟨rfl, rfl, rfl⟩
      · rw [if_neg (show ¬ nI k ≤ 0 from nI_ge (a := 0) (by omega) (by omega)), show (1 : Int32) = nI 1 from rfl, pk_sub (by omega)]
        simp only [bdI (show k - 1 < 200 by omega) (show 200 < 2 ^ 31 by omega), nI_clamp (show k - 1 < 2 ^ 31 by omega), pk_un (show k - 1 ≠ k by omega), (hI (k - 1) (by omega)).1]
        obtain ⟨q, q1, q2⟩ := h3 (k - 1) (by omega)
        rw [show k - 1 + 1 = k by omega] at q1
        rw [q1, some_bind, q2, some_bind, (hI (k - 1) (by omega)).2.2]
        have e2 : pl ad kr (k - 1) + (ad (k - 1) + kr (k - 1)) = pl ad kr k := by
          obtain ⟨k', rfl⟩ : ∃ k', k = k' + 1 := ⟨k - 1, by omega⟩
          rfl
        rw [e2]
        refine ih (k + 1) m _ _ _ (by omega) (by omega) (fun i hi => ?_)
        rcases Nat.lt_or_ge i k with w | w
        · rw [pk_un (by omega), pk_un (by omega), pk_un (by omega)]; exact hI i w
        · rw [show i = k by omega, pk_us, pk_us, pk_us]
          exact ⟨rfl, rfl, rfl⟩
  exact loop n 0 fuel gl pls ads (by omega) (by unfold fuel; omega) (fun i hi => absurd hi (by omega))
def trm (B : Nat → Int32) (b : Nat) : Nat → Nat
  | 0 => 0
  | e + 1 => if e + 1 ≤ b then e + 1 else if B e = 32 then trm B b e else e + 1
def Wd (ad kr : Nat → Int32) (b l : Nat) : Int32 := if l ≤ b then 0 else pl ad kr (l - 1) - pl ad kr b + ad (l - 1)
theorem trm_le (B : Nat → Int32) (b : Nat) : ∀ e, trm B b e ≤ e := by
  intro e
  induction e with
  | zero => exact Nat.le_refl 0
  | succ e ih =>
    unfold trm
    split
    · exact Nat.le_refl _
    split
    · omega
    · exact Nat.le_refl _
theorem wof_c {n b : Nat} {tp pls ads ad kr : Nat → Int32} (hn : n ≤ 200) (hb : b < n) (hI : ∀ i, i < n → pls i = pl ad kr i ∧ ads i = ad i) (e : Nat) (he : e ≤ n) : P_Ln_widthOf pls ads tp (nI b) (nI e) = some (Wd ad kr b (trm tp b e)) := by
  have loop : ∀ (e m : Nat), e ≤ n → e < m → lp (L_Ln_widthOf_5 pls ads tp) m (nI b, nI e + (-1)) = some (Wd ad kr b (trm tp b e)) := by
    intro e
    induction e with
    | zero =>
      intro m _ hm
      obtain ⟨m, rfl⟩ := suc_of hm
      rw [e_Ln_widthOf_5]
      unfold P_Ln_widthOf_5b P_Ln_widthOf_26 Wd trm
      rw [if_pos (show nI 0 + -1 < nI b from by rw [Int32.lt_iff_toInt_lt, nI_ti (by omega), show (nI 0 + -1).toInt = -1 from by decide]; omega), if_neg (show ¬ nI b ≤ nI 0 + -1 from by rw [Int32.le_iff_toInt_le, nI_ti (by omega), show (nI 0 + -1).toInt = -1 from by decide]; omega), if_pos (Nat.zero_le _)]
    | succ e ih =>
      intro m he hm
      obtain ⟨m, rfl⟩ := suc_of hm
      rw [e_Ln_widthOf_5, pk_m1]
      unfold P_Ln_widthOf_5b P_Ln_widthOf_26 trm
      by_cases q1 : e + 1 ≤ b
      · rw [if_pos (nI_lt (by omega) (by omega)), if_neg (nI_ge (by omega) (by omega)), if_pos q1]
        unfold Wd
        rw [if_pos q1]
      · rw [if_neg (nI_nlt (by omega) (by omega)), if_neg q1, bdI (show e < 4096 by omega) (by omega), nI_clamp (show e < 2 ^ 31 by omega)]
        by_cases q2 : tp e = 32
        · rw [if_pos q2, if_pos q2]
          exact ih m (by omega) (by omega)
        · rw [if_neg q2, if_neg q2, if_pos (nI_le (by omega) (by omega)), bdI (show e < 200 by omega) (by omega), bdI (show b < 200 by omega) (by omega), bdI (show e < 200 by omega) (by omega), nI_clamp (show b < 2 ^ 31 by omega)]
          unfold Wd
          rw [if_neg q1, (hI e (by omega)).1, (hI e (by omega)).2, (hI b (by omega)).1]
          rfl
  unfold P_Ln_widthOf P_Ln_widthOf_5
  rw [show nI e - 1 = nI e + (-1) from Int32.sub_eq_add_neg ..]
  exact loop e fuel he (by unfold fuel; omega)
theorem pl_al (p q a k : Int32) : p - q + a + k = p + (a + k) - q := by grind
theorem wof_m {z U G M C B Q n b : Nat} {f a mt : Nat → Int32} {g : Nat → Nat} {ad kr : Nat → Int32} (h : TxM z U G M C B Q f a mt n g ad kr) (hn : n ≤ 200) (hb : b < n) (e : Nat) (he : e ≤ n) : P_Mo_widthOf (nI z) mt (nI U) (nI G) (nI M) (nI C) (nI B) (nI Q) f a (nI b) (nI e) = some (Wd ad kr b (trm mt b e)) := by
  obtain ⟨h1, h2, h3⟩ := h
  have inner : ∀ (d k m l : Nat), l ≤ n → k + d = l → b ≤ k → d < m → lp (L_Mo_widthOf_32 (nI z) mt (nI U) (nI G) (nI M) (nI C) (nI B) (nI Q) f a) m (nI l, (if k = l ∧ b < l then Wd ad kr b l else pl ad kr k - pl ad kr b), nI k) = some (if l ≤ b then 0 else Wd ad kr b l) := by
    intro d
    induction d with
    | zero =>
      intro k m l hl hk hbk hm
      obtain ⟨m, rfl⟩ := suc_of hm
      rw [e_Mo_widthOf_32]
      unfold P_Mo_widthOf_32b
      rw [if_pos (nI_le (by omega) (by omega))]
      by_cases q : b < l
      · rw [if_pos ⟨by omega, q⟩, if_neg (by omega)]
      · rw [if_neg (fun w => q w.2), if_pos (by omega), show k = b by omega, Int32.sub_self]
    | succ d ih =>
      intro k m l hl hk hbk hm
      obtain ⟨m, rfl⟩ := suc_of hm
      rw [e_Mo_widthOf_32]
      unfold P_Mo_widthOf_32b P_Mo_widthOf_116
      rw [if_neg (nI_ge (show k < l by omega) (by omega)), if_neg (fun w => by omega)]
      obtain ⟨v, v1, v2⟩ := h2 k (by omega)
      rw [bdI (show k < 4096 by omega) (by omega), nI_clamp (show k < 2 ^ 31 by omega), h1 k (by omega), some_bind, v1, some_bind, v2, some_bind, nI_1]
      rcases Nat.lt_or_ge (k + 1) l with w | w
      · rw [if_neg (nI_ge w (by omega)), bdI (show k + 1 < 4096 by omega) (by omega), nI_clamp (show k + 1 < 2 ^ 31 by omega), h1 (k + 1) (by omega), some_bind]
        obtain ⟨q, q1, q2⟩ := h3 k (by omega)
        rw [q1, some_bind, q2, some_bind, pl_al]
        have := ih (k + 1) m l hl (by omega) (by omega) (by omega)
        rw [if_neg (fun w => by omega)] at this
        exact this
      · rw [if_pos (nI_le w (by omega))]
        have := ih (k + 1) m l hl (by omega) (by omega) (by omega)
        rw [if_pos ⟨by omega, by omega⟩] at this
        have e1 : Wd ad kr b l = pl ad kr k - pl ad kr b + ad k := by
          unfold Wd
          rw [if_neg (by omega), show l - 1 = k by omega]
        rw [e1] at this ⊢
        exact this
  have outer : ∀ (e m : Nat), e ≤ n → e < m → lp (L_Mo_widthOf_2 (nI z) mt (nI U) (nI G) (nI M) (nI C) (nI B) (nI Q) f a) m (nI b, nI e) = some (Wd ad kr b (trm mt b e)) := by
    have fin : ∀ l, l ≤ n → P_Mo_widthOf_26 (nI z) mt (nI U) (nI G) (nI M) (nI C) (nI B) (nI Q) f a (nI b) (nI l) = some (Wd ad kr b l) := by
      intro l hl
      unfold P_Mo_widthOf_26 P_Mo_widthOf_32
      rcases Nat.lt_or_ge l b with w | w
      · show lp _ (99999 + 1) _ = _
        rw [e_Mo_widthOf_32]
        unfold P_Mo_widthOf_32b Wd
        rw [if_pos (nI_le (by omega) (by omega)), if_pos (by omega)]
      · have := inner (l - b) b fuel l hl (by omega) (Nat.le_refl b) (by unfold fuel; omega)
        rw [if_neg (fun x => by omega), Int32.sub_self] at this
        rw [this]
        unfold Wd
        split <;> rfl
    intro e
    induction e with
    | zero =>
      intro m _ hm
      obtain ⟨m, rfl⟩ := suc_of hm
      rw [e_Mo_widthOf_2]
      unfold P_Mo_widthOf_2b
      rw [if_pos (nI_le (Nat.zero_le _) (by omega)), fin 0 (by omega)]
      rfl
    | succ e ih =>
      intro m he hm
      obtain ⟨m, rfl⟩ := suc_of hm
      rw [e_Mo_widthOf_2]
      unfold P_Mo_widthOf_2b trm
      by_cases q1 : e + 1 ≤ b
      · rw [if_pos (nI_le q1 (by omega)), if_pos q1, fin _ he]
      · have em : nI (e + 1) - (1 : Int32) = nI e := by rw [show (1 : Int32) = nI 1 from rfl, pk_sub (by omega)]; rfl
        rw [if_neg (nI_ge (by omega) (by omega)), if_neg q1, em, bdI (show e < 4096 by omega) (by omega), nI_clamp (show e < 2 ^ 31 by omega)]
        by_cases q2 : mt e = 32
        · rw [if_pos q2, if_pos q2, pk_m1]
          exact ih m (by omega) (by omega)
        · rw [if_neg q2, if_neg q2, fin _ he]
  unfold P_Mo_widthOf P_Mo_widthOf_2
  exact outer e fuel he (by unfold fuel; omega)
theorem trm_e {n b : Nat} {tp mt : Nat → Int32} (h : ∀ k, k < n → tp k = mt k) : ∀ e, e ≤ n → trm tp b e = trm mt b e := by
  intro e
  induction e with
  | zero => intro _; rfl
  | succ e ih =>
    intro he
    unfold trm
    rw [h e (by omega), ih (by omega)]
theorem may_b {n e : Nat} {tp mt : Nat → Int32} (hn : n ≤ 200) (h : ∀ k, k < n → tp k = mt k) (h1 : 1 ≤ e) (h2 : e ≤ n) : ∃ r, P_Ln_mayStop tp (nI n) (nI e) = some r ∧ P_Mo_mayEnd mt (nI e) (nI n) = some r ∧ ((e = n ∨ tp e = 10) → r ≠ 0) := by
  unfold P_Ln_mayStop P_Mo_mayEnd P_Mo_mayEnd_44
  by_cases q1 : e = n
  · rw [if_pos (by rw [q1]), if_pos (by rw [q1])]
    exact ⟨1, rfl, rfl, fun _ => by decide⟩
  have q1' : ¬ nI e = nI n := fun w => q1 ((nI_eq (by omega) (by omega)).mp w)
  rw [if_neg q1', if_neg q1', show (1 : Int32) = nI 1 from rfl, pk_sub (by omega)]
  simp only [bdI (show e < 4096 by omega) (show 4096 < 2 ^ 31 by omega), bdI (show e - 1 < 4096 by omega) (show 4096 < 2 ^ 31 by omega), nI_clamp (show e < 2 ^ 31 by omega), nI_clamp (show e - 1 < 2 ^ 31 by omega), h e (by omega), h (e - 1) (by omega)]
  by_cases q2 : mt e = 10
  · rw [if_pos q2, if_pos q2]
    exact ⟨_, rfl, rfl, fun _ => by decide⟩
  rw [if_neg q2, if_neg q2]
  by_cases q3 : mt e = 32 <;> by_cases q4 : mt (e - 1) = 32 <;> by_cases q5 : mt (e - 1) = 45
  · rw [if_pos q3, if_pos q4, if_pos q3]; exact ⟨_, rfl, rfl, fun w => w.elim (fun w => absurd w q1) (fun w => absurd w q2)⟩
  · rw [if_pos q3, if_pos q4, if_pos q3]; exact ⟨_, rfl, rfl, fun w => w.elim (fun w => absurd w q1) (fun w => absurd w q2)⟩
  · rw [if_pos q3, if_neg q4, if_pos q5, if_pos q3]; exact ⟨_, rfl, rfl, fun w => w.elim (fun w => absurd w q1) (fun w => absurd w q2)⟩
  · rw [if_pos q3, if_neg q4, if_neg q5]; exact ⟨_, rfl, rfl, fun w => w.elim (fun w => absurd w q1) (fun w => absurd w q2)⟩
  · rw [if_neg q3, if_pos q4, if_pos q4, if_neg q3]; exact ⟨_, rfl, rfl, fun w => w.elim (fun w => absurd w q1) (fun w => absurd w q2)⟩
  · rw [if_neg q3, if_pos q4, if_pos q4, if_neg q3]; exact ⟨_, rfl, rfl, fun w => w.elim (fun w => absurd w q1) (fun w => absurd w q2)⟩
  · rw [if_neg q3, if_neg q4, if_pos q5, if_neg q4, if_pos q5, if_neg q3]; exact ⟨_, rfl, rfl, fun w => w.elim (fun w => absurd w q1) (fun w => absurd w q2)⟩
  · rw [if_neg q3, if_neg q4, if_neg q5, if_neg q4, if_neg q5]; exact ⟨_, rfl, rfl, fun w => w.elim (fun w => absurd w q1) (fun w => absurd w q2)⟩
