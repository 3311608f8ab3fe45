/-! PURE ROWS: the reference's stamp over the pixels (printed by wip/whole/gen/stampm.py) -/
theorem mem_pcl {x y : Nat → Int} {on : Nat → Int32} {f l i n : Nat} {p : Pc} (h1 : f ≤ i) (h2 : i ≤ l) (h3 : l < n) (hp : p ∈ pcl x y on f l i) : ∃ b a, b < n ∧ i < n ∧ a < n ∧ (p = lnP x y i a ∨ p = cvP x y on b i a) := by
  have hb : bef f l i < n := by unfold bef; split <;> omega
  have ha : aft f l i < n := by unfold aft; split <;> omega
  refine ⟨bef f l i, aft f l i, hb, by omega, ha, ?_⟩
  unfold pcl at hp
  split at hp
  · rcases List.mem_cons.mp hp with w | w
    · exact Or.inl w
    · exact absurd w List.not_mem_nil
  split at hp
  · rcases List.mem_cons.mp hp with w | w
    · exact Or.inr w
    · exact absurd w List.not_mem_nil
  · exact absurd hp List.not_mem_nil
theorem mem_cl {x y : Nat → Int} {on : Nat → Int32} {f l n : Nat} {p : Pc} (h3 : l < n) : ∀ d, f + d ≤ l + 1 → p ∈ cl x y on f l d → ∃ b i a, b < n ∧ i < n ∧ a < n ∧ (p = lnP x y i a ∨ p = cvP x y on b i a) := by
  intro d
  induction d with
  | zero => intro _ hp; exact absurd hp List.not_mem_nil
  | succ d ih =>
    intro hd hp
    rcases List.mem_append.mp (show p ∈ cl x y on f l d ++ pcl x y on f l (f + d) from hp) with w | w
    · exact ih (by omega) w
    · obtain ⟨b, a, k⟩ := mem_pcl (show f ≤ f + d by omega) (by omega) h3 w
      exact ⟨b, f + d, a, k⟩
theorem mem_tl {x y : Nat → Int} {on : Nat → Int32} {ls : Nat → Nat} {n : Nat} {p : Pc} : ∀ c, (∀ i, i < c → fst_ ls i ≤ ls i ∧ ls i < n) → p ∈ tl x y on ls c → ∃ b i a, b < n ∧ i < n ∧ a < n ∧ (p = lnP x y i a ∨ p = cvP x y on b i a) := by
  intro c
  induction c with
  | zero => intro _ hp; exact absurd hp List.not_mem_nil
  | succ c ih =>
    intro h hp
    rcases List.mem_append.mp (show p ∈ tl x y on ls c ++ cl x y on (fst_ ls c) (ls c) (ls c + 1 - fst_ ls c) from hp) with w | w
    · exact ih (fun i hi => h i (by omega)) w
    · obtain ⟨h1, h2⟩ := h c (by omega)
      exact mem_cl h2 _ (by omega) w
theorem bnd_p {x y : Nat → Int} {on : Nat → Int32} {n b i a : Nat} {p : Pc} (hb : b < n) (hi : i < n) (ha : a < n) (hp : p = lnP x y i a ∨ p = cvP x y on b i a) : (∀ X, (∀ k, k < n → X < 2 * x k) → X < p.1 ∧ X < p.2.2.1 ∧ X < p.2.2.2.2.1) ∧ (∀ X, (∀ k, k < n → 2 * x k < X) → p.1 < X ∧ p.2.2.1 < X ∧ p.2.2.2.2.1 < X) ∧ (∀ Y, (∀ k, k < n → Y < 2 * y k) → Y < p.2.1 ∧ Y < p.2.2.2.1 ∧ Y < p.2.2.2.2.2) ∧ (∀ Y, (∀ k, k < n → 2 * y k < Y) → p.2.1 < Y ∧ p.2.2.2.1 < Y ∧ p.2.2.2.2.2 < Y) := by
  have key : ∀ (z : Nat → Int) (q1 q2 q3 : Int), ((q1 = 2 * z i ∧ q2 = z i + z a ∧ q3 = 2 * z a) ∨ ((q1 = z i + z b ∨ q1 = 2 * z b) ∧ q2 = 2 * z i ∧ (q3 = z i + z a ∨ q3 = 2 * z a))) → (∀ X, (∀ k, k < n → X < 2 * z k) → X < q1 ∧ X < q2 ∧ X < q3) ∧ (∀ X, (∀ k, k < n → 2 * z k < X) → q1 < X ∧ q2 < X ∧ q3 < X) := by
    intro z q1 q2 q3 h
    refine ⟨fun X hX => ?_, fun X hX => ?_⟩
    · have h1 := hX b hb
      have h2 := hX i hi
      have h3 := hX a ha
      omega
    · have h1 := hX b hb
      have h2 := hX i hi
      have h3 := hX a ha
      omega
  have kx := key x p.1 p.2.2.1 p.2.2.2.2.1 (by
    rcases hp with rfl | rfl
    · exact Or.inl ⟨rfl, rfl, rfl⟩
    · refine Or.inr ⟨?_, rfl, ?_⟩ <;> (unfold cvP; dsimp only; split <;> simp))
  have ky := key y p.2.1 p.2.2.2.1 p.2.2.2.2.2 (by
    rcases hp with rfl | rfl
    · exact Or.inl ⟨rfl, rfl, rfl⟩
    · refine Or.inr ⟨?_, rfl, ?_⟩ <;> (unfold cvP; dsimp only; split <;> simp))
  exact ⟨kx.1, kx.2, ky.1, ky.2⟩
theorem bnd_t {x y : Nat → Int} {on : Nat → Int32} {n C : Nat} {ls : Nat → Nat} {p : Pc} (hls : ∀ i, i < C → fst_ ls i ≤ ls i ∧ ls i < n) (hp : p ∈ tl x y on ls C) : (∀ X, (∀ k, k < n → X < 2 * x k) → X < p.1 ∧ X < p.2.2.1 ∧ X < p.2.2.2.2.1) ∧ (∀ X, (∀ k, k < n → 2 * x k < X) → p.1 < X ∧ p.2.2.1 < X ∧ p.2.2.2.2.1 < X) ∧ (∀ Y, (∀ k, k < n → Y < 2 * y k) → Y < p.2.1 ∧ Y < p.2.2.2.1 ∧ Y < p.2.2.2.2.2) ∧ (∀ Y, (∀ k, k < n → 2 * y k < Y) → p.2.1 < Y ∧ p.2.2.2.1 < Y ∧ p.2.2.2.2.2 < Y) := by
  obtain ⟨b, i, a, k1, k2, k3, k4⟩ := mem_tl (n := n) C hls hp
  exact bnd_p k1 k2 k3 k4
theorem bit_t (x : Int64) {i : Nat} (hi : i < 64) : lg_cmp ((x >>> ((nI i).toInt64 &&& 63)) &&& (1 : Int64)) (0 : Int64) = 0 ↔ ¬ tb x i := by
  rw [lg_cmp_eq]
  have h := bit_m x hi
  generalize x >>> ((nI i).toInt64 &&& 63) = z at h
  have hz : jN (z &&& 1) = jN z % 2 := by
    rw [jN_and, show jN (1 : Int64) = 2 ^ 1 - 1 from rfl, Nat.and_two_pow_sub_one_eq_mod]
  have hb : jN x / 2 ^ i % 2 < 2 := Nat.mod_lt _ (by decide)
  have hv : z &&& 1 = 0 ∨ z &&& 1 = 1 := by
    rcases (by omega : jN z % 2 = 0 ∨ jN z % 2 = 1) with w | w
    · left
      rw [← Int64.toBitVec_inj, ← BitVec.toNat_inj]
      unfold jN at hz w
      rw [hz, w]; rfl
    · right
      rw [← Int64.toBitVec_inj, ← BitVec.toNat_inj]
      unfold jN at hz w
      rw [hz, w]; rfl
  rw [← tb_m]
  rcases hv with w | w
  · rw [w] at h
    refine ⟨fun _ e => ?_, fun _ => w⟩
    rw [e] at h
    exact absurd h (by decide)
  · rw [w] at h
    refine ⟨fun e => absurd (w.symm.trans e) (by decide), fun e => ?_⟩
    exfalso
    have : jN x / 2 ^ i % 2 = 0 := by omega
    rw [this] at h
    exact absurd h (by decide)
theorem st_in {x y : Nat → Int} {on om ct ps mx my : Nat → Int32} {px py : Nat → Int64} {n C g W H j : Nat} {ls : Nat → Nat} {x5 x7 x9 x11 : Int64} {sc un gl : Int32} (hP : Pl2 x y px py n) (hn : n ≤ 256) (hC : C ≤ 32) (hg : g < 64) (hp : ps g = nI n) (ho : ∀ i, i < n → om (256 * g + i) = on i) (hct : CtI ls C ct (256 * g) 0) (hls : ∀ i, i < C → fst_ ls i ≤ ls i ∧ ls i < n) (hlast : fst_ ls C = n) (hW : W ≤ 64) (hH : H ≤ 64) (hj : j < H) (b5 : ∀ k, k < n → x5.toInt ≤ 2 * x k) (b7 : ∀ k, k < n → 2 * x k ≤ x7.toInt) (b9 : ∀ k, k < n → x9.toInt ≤ 2 * y k) (b11 : ∀ k, k < n → 2 * y k ≤ x11.toInt) (z : Int32 × Int64 × Int64 × Int64 × Int64 × Int32 × Int32 × Int32 × Int32 × (Nat → Int64) × (Nat → Int64) × (Nat → Int64) × (Nat → Int64) × (Nat → Int64) → Option (Int32 × Int32 × Int32 × (Nat → Int64) × (Nat → Int64) × (Nat → Int64) × (Nat → Int64) × (Nat → Int64))) (F0 : Int) (pg0 : Nat → Int64) : ∀ (e i m : Nat) (t v : Int32) (f1 f2 pg : Nat → Int64), i + e = W → e < m → (∀ k, k ≠ j → pg k = pg0 k) → (∀ b, tb (pg j) b ↔ tb (pg0 j) b ∨ (b < i ∧ In (tl x y on ls C) (cx b) (cx j))) → ∃ t' v' f1' f2' pg', lp (L_Mo_stamp_175 (nI W) (nI H) sc un gl ps om ct mx my z) m (nI g, x5, x7, x9, x11, tI (F0 + smz (fun b => ic (In (tl x y on ls C) (cx b) (cx j) ∧ ¬ tb (pg0 j) b)) i), nI j, nI i, t, v, px, py, f1, f2, pg) = z (nI g, x5, x7, x9, x11, tI (F0 + nc (tl x y on ls C) W (cx j) (pg0 j)), nI (j + 1), t', v', px, py, f1', f2', pg') ∧ (∀ k, k ≠ j → pg' k = pg0 k) ∧ (∀ b, tb (pg' j) b ↔ tb (pg0 j) b ∨ (b < W ∧ In (tl x y on ls C) (cx b) (cx j))) := by
  intro e
  have hlen := tl_le x y on ls C (fun i hi => (hls i hi).1)
  rw [hlast] at hlen
  induction e with
  | zero =>
    intro i m t v f1 f2 pg hi hm h1 h2
    obtain ⟨m, rfl⟩ := suc_of hm
    rw [e_Mo_stamp_175]
    unfold P_Mo_stamp_175b
    rw [show i = W by omega] at h2 ⊢
    rw [if_pos (nI_le (Nat.le_refl _) (by omega)), nI_1]
    exact ⟨t, v, f1, f2, pg, rfl, h1, h2⟩
  | succ e ih =>
    intro i m t v f1 f2 pg hi hm h1 h2
    obtain ⟨m, rfl⟩ := suc_of hm
    rw [e_Mo_stamp_175]
    unfold P_Mo_stamp_175b
    rw [if_neg (nI_ge (show i < W by omega) (by omega))]
    have J128 : J 128 (128 : Int64) 128 := ⟨by decide, by decide, by decide⟩
    have J64 : J 64 (64 : Int64) 64 := ⟨by decide, by decide, by decide⟩
    have jx : J 40000 ((128 : Int64) * (nI i).toInt64 + 64) (cx i) := J_w (J_add (J_mul J128 (J_i (a := 64) (nI_ti (show i < 2 ^ 31 by omega)) (by omega)) (by decide)) J64 (by decide)) (by decide)
    have jy : J 40000 ((128 : Int64) * (nI j).toInt64 + 64) (cx j) := J_w (J_add (J_mul J128 (J_i (a := 64) (nI_ti (show j < 2 ^ 31 by omega)) (by omega)) (by decide)) J64 (by decide)) (by decide)
    have q5 : ∀ w : Int64, J (w.toInt.natAbs : Int) w w.toInt := fun w => ⟨rfl, by omega, by omega⟩
    have skip : ∀ (t v : Int32) (f1 f2 : Nat → Int64), (In (tl x y on ls C) (cx i) (cx j) → tb (pg0 j) i) → ∃ t' v' f1' f2' pg', P_Mo_stamp_305 (nI W) (nI H) sc un gl ps om ct mx my z (lp (L_Mo_stamp_175 (nI W) (nI H) sc un gl ps om ct mx my z) m) (nI g) x5 x7 x9 x11 (tI (F0 + smz (fun b => ic (In (tl x y on ls C) (cx b) (cx j) ∧ ¬ tb (pg0 j) b)) i)) (nI j) (nI i) t v px py f1 f2 pg = z (nI g, x5, x7, x9, x11, tI (F0 + nc (tl x y on ls C) W (cx j) (pg0 j)), nI (j + 1), t', v', px, py, f1', f2', pg') ∧ (∀ k, k ≠ j → pg' k = pg0 k) ∧ (∀ b, tb (pg' j) b ↔ tb (pg0 j) b ∨ (b < W ∧ In (tl x y on ls C) (cx b) (cx j))) := by
      intro t v f1 f2 hin
      unfold P_Mo_stamp_305
      rw [nI_1]
      have := ih (i + 1) m t v f1 f2 pg (by omega) (by omega) h1 (fun b => (h2 b).trans ⟨fun x => x.imp id (fun x => ⟨by omega, x.2⟩), fun x => ?_⟩)
      · have e0 : smz (fun b => ic (In (tl x y on ls C) (cx b) (cx j) ∧ ¬ tb (pg0 j) b)) (i + 1) = smz (fun b => ic (In (tl x y on ls C) (cx b) (cx j) ∧ ¬ tb (pg0 j) b)) i := by
          show smz _ i + ic (In (tl x y on ls C) (cx i) (cx j) ∧ ¬ tb (pg0 j) i) = _
          rw [ic_0 (fun x => x.2 (hin x.1))]; omega
        rw [e0] at this
        exact this
      · rcases x with x | x
        · exact Or.inl x
        · rcases Nat.lt_or_ge b i with w | w
          · exact Or.inr ⟨w, x.2⟩
          · have : b = i := by omega
            subst this
            exact Or.inl (hin x.2)
    have notIn : OutB (tl x y on ls C) (cx i) (cx j) → ¬ In (tl x y on ls C) (cx i) (cx j) := fun ho hi => by
      obtain ⟨o1, o2⟩ := out_0 (tl_0 x y on ls (psi (cx j)) C (fun i hi => (hls i hi).1)) ho
      rcases hi with hi | hi
      · exact hi o1
      · exact hi o2
    have bp := fun p (hp : p ∈ tl x y on ls C) => bnd_t hls hp
    by_cases c1 : cx i < x5.toInt
    · rw [if_pos ((J_lt jx (q5 x5)).mpr c1)]
      exact skip t v f1 f2 (fun w => absurd w (notIn (Or.inl (fun p hp => (bp p hp).1 _ (fun k hk => by have := b5 k hk; omega)))))
    rw [if_neg (fun w => c1 ((J_lt jx (q5 x5)).mp w))]
    by_cases c2 : x7.toInt < cx i
    · rw [if_pos ((J_gt jx (q5 x7)).mpr c2)]
      exact skip t v f1 f2 (fun w => absurd w (notIn (Or.inr (Or.inl (fun p hp => (bp p hp).2.1 _ (fun k hk => by have := b7 k hk; omega))))))
    rw [if_neg (fun w => c2 ((J_gt jx (q5 x7)).mp w))]
    by_cases c3 : cx j < x9.toInt
    · rw [if_pos ((J_lt jy (q5 x9)).mpr c3)]
      exact skip t v f1 f2 (fun w => absurd w (notIn (Or.inr (Or.inr (Or.inl (fun p hp => (bp p hp).2.2.1 _ (fun k hk => by have := b9 k hk; omega)))))))
    rw [if_neg (fun w => c3 ((J_lt jy (q5 x9)).mp w))]
    by_cases c4 : x11.toInt < cx j
    · rw [if_pos ((J_gt jy (q5 x11)).mpr c4)]
      exact skip t v f1 f2 (fun w => absurd w (notIn (Or.inr (Or.inr (Or.inr (fun p hp => (bp p hp).2.2.2 _ (fun k hk => by have := b11 k hk; omega)))))))
    rw [if_neg (fun w => c4 ((J_gt jy (q5 x11)).mp w))]
    rw [bdI (show j < 64 by omega) (by omega), nI_clamp (show j < 2 ^ 31 by omega)]
    have hbit : tb (pg j) i ↔ tb (pg0 j) i := (h2 i).trans ⟨fun x => x.elim id (fun x => by omega), Or.inl⟩
    by_cases c5 : tb (pg j) i
    · rw [if_neg (fun w => ((bit_t (pg j) (by omega)).mp w) c5)]
      exact skip t v f1 f2 (fun _ => hbit.mp c5)
    rw [if_pos ((bit_t (pg j) (by omega)).mpr c5)]
    obtain ⟨t', v', g1, g2, o1, o2, _, o4⟩ := go_v hP hn hC hg hp ho hct hls hlast jx jy t v f1 f2
    rw [o1, some_bind]
    simp only [unp]
    obtain ⟨o5, o6⟩ := o4 rfl
    have set : In (tl x y on ls C) (cx i) (cx j) → ∃ t'' v'' f1' f2' pg', P_Mo_stamp_288 (nI W) (nI H) sc un gl ps om ct mx my z (lp (L_Mo_stamp_175 (nI W) (nI H) sc un gl ps om ct mx my z) m) (nI g) x5 x7 x9 x11 (tI (F0 + smz (fun b => ic (In (tl x y on ls C) (cx b) (cx j) ∧ ¬ tb (pg0 j) b)) i)) (nI j) (nI i) t' v' px py g1 g2 pg = z (nI g, x5, x7, x9, x11, tI (F0 + nc (tl x y on ls C) W (cx j) (pg0 j)), nI (j + 1), t'', v'', px, py, f1', f2', pg') ∧ (∀ k, k ≠ j → pg' k = pg0 k) ∧ (∀ b, tb (pg' j) b ↔ tb (pg0 j) b ∨ (b < W ∧ In (tl x y on ls C) (cx b) (cx j))) := by
      intro hin
      unfold P_Mo_stamp_288 P_Mo_stamp_305
      rw [bdI (show j < 64 by omega) (by omega), bdI (show j < 64 by omega) (by omega), nI_clamp (show j < 2 ^ 31 by omega), nI_1]
      have := ih (i + 1) m t' v' g1 g2 (vp_updL pg j (pg j ||| ((1 : Int64) <<< ((nI i).toInt64 &&& 63)))) (by omega) (by omega) (fun k hk => by rw [pk_uLn hk]; exact h1 k hk) (fun b => by
        rw [pk_uLs, tb_set (by omega), h2]
        constructor
        · rintro ((w | w) | w)
          · exact Or.inl w
          · exact Or.inr ⟨by omega, w.2⟩
          · subst w; exact Or.inr ⟨by omega, hin⟩
        · rintro (w | w)
          · exact Or.inl (Or.inl w)
          · rcases Nat.lt_or_ge b i with u | u
            · exact Or.inl (Or.inr ⟨u, w.2⟩)
            · exact Or.inr (by omega))
      have e0 : tI (F0 + smz (fun b => ic (In (tl x y on ls C) (cx b) (cx j) ∧ ¬ tb (pg0 j) b)) (i + 1)) = tI (F0 + smz (fun b => ic (In (tl x y on ls C) (cx b) (cx j) ∧ ¬ tb (pg0 j) b)) i) + 1 := by
        show tI (F0 + (smz _ i + ic (In (tl x y on ls C) (cx i) (cx j) ∧ ¬ tb (pg0 j) i))) = _
        rw [ic_1 ⟨hin, fun w => c5 (hbit.mpr w)⟩, show (1 : Int32) = tI 1 from rfl, tI_add, Int.add_assoc]
      rw [e0] at this
      exact this
    have hsb := sum_b (cx i) (cx j) (tl x y on ls C)
    rcases o2 with w | w
    · rw [if_pos w]
      obtain ⟨o7, o8⟩ := o5 w
      rw [Int.zero_add] at o8
      by_cases u : v' = 0
      · rw [if_pos u]
        rw [u] at o8
        refine skip t' v' g1 g2 (fun hin => ?_)
        rcases hin with hin | hin
        · exact absurd o7 hin
        · exact absurd ((tI_z (by omega)).mp o8.symm) hin
      · rw [if_neg u]
        refine set (Or.inr (fun h => u ?_))
        rw [o8, h]; rfl
    · rw [if_neg (by rw [w]; decide)]
      exact set (Or.inl (o6 w))
theorem st_out {x y : Nat → Int} {on om ct ps mx my : Nat → Int32} {px py : Nat → Int64} {n C g W H : Nat} {ls : Nat → Nat} {x5 x7 x9 x11 : Int64} {sc un gl : Int32} (hP : Pl2 x y px py n) (hn : n ≤ 256) (hC : C ≤ 32) (hg : g < 64) (hp : ps g = nI n) (ho : ∀ i, i < n → om (256 * g + i) = on i) (hct : CtI ls C ct (256 * g) 0) (hls : ∀ i, i < C → fst_ ls i ≤ ls i ∧ ls i < n) (hlast : fst_ ls C = n) (hW : W ≤ 64) (hH : H ≤ 64) (b5 : ∀ k, k < n → x5.toInt ≤ 2 * x k) (b7 : ∀ k, k < n → 2 * x k ≤ x7.toInt) (b9 : ∀ k, k < n → x9.toInt ≤ 2 * y k) (b11 : ∀ k, k < n → 2 * y k ≤ x11.toInt) (pg0 : Nat → Int64) : ∀ (e j m : Nat) (t v : Int32) (f1 f2 pg : Nat → Int64), j + e = H → e < m → (∀ k, j ≤ k → pg k = pg0 k) → (∀ k, k < j → ∀ b, tb (pg k) b ↔ tb (pg0 k) b ∨ (b < W ∧ In (tl x y on ls C) (cx b) (cx k))) → ∃ r t' v' f1' f2' pg', lp (L_Mo_stamp_163 (nI W) (nI H) sc un gl ps om ct mx my) m (nI g, x5, x7, x9, x11, tI (smz (fun k => nc (tl x y on ls C) W (cx k) (pg0 k)) j), nI j, t, v, px, py, f1, f2, pg) = some (r, t', v', px, py, f1', f2', pg') ∧ FillR (tl x y on ls C) W H pg0 pg' r := by
  intro e
  induction e with
  | zero =>
    intro j m t v f1 f2 pg hj hm h1 h2
    obtain ⟨m, rfl⟩ := suc_of hm
    rw [e_Mo_stamp_163]
    unfold P_Mo_stamp_163b
    rw [show j = H by omega] at h2 ⊢
    rw [if_pos (nI_le (Nat.le_refl _) (by omega))]
    exact ⟨_, t, v, f1, f2, pg, rfl, h2, rfl⟩
  | succ e ih =>
    intro j m t v f1 f2 pg hj hm h1 h2
    obtain ⟨m, rfl⟩ := suc_of hm
    rw [e_Mo_stamp_163]
    unfold P_Mo_stamp_163b P_Mo_stamp_175
    rw [if_neg (nI_ge (show j < H by omega) (by omega))]
    obtain ⟨t', v', g1, g2, pg', k1, k2, k3⟩ := st_in (sc := sc) (un := un) (gl := gl) (mx := mx) (my := my) hP hn hC hg hp ho hct hls hlast hW hH (show j < H by omega) b5 b7 b9 b11 (lp (L_Mo_stamp_163 (nI W) (nI H) sc un gl ps om ct mx my) m) (smz (fun k => nc (tl x y on ls C) W (cx k) (pg0 k)) j) pg W 0 fuel t v f1 f2 pg (by omega) (by unfold fuel; omega) (fun k _ => rfl) (fun b => ⟨Or.inl, fun x => x.elim id (fun x => by omega)⟩)
    have e0 : tI (smz (fun k => nc (tl x y on ls C) W (cx k) (pg0 k)) j) = tI (smz (fun k => nc (tl x y on ls C) W (cx k) (pg0 k)) j + smz (fun b => ic (In (tl x y on ls C) (cx b) (cx j) ∧ ¬ tb (pg j) b)) 0) := congrArg tI (Int.add_zero _).symm
    rw [e0]
    have k1 : lp (L_Mo_stamp_175 (nI W) (nI H) sc un gl ps om ct mx my (lp (L_Mo_stamp_163 (nI W) (nI H) sc un gl ps om ct mx my) m)) fuel (nI g, x5, x7, x9, x11, tI (smz (fun k => nc (tl x y on ls C) W (cx k) (pg0 k)) j + smz (fun b => ic (In (tl x y on ls C) (cx b) (cx j) ∧ ¬ tb (pg j) b)) 0), nI j, 0, t, v, px, py, f1, f2, pg) = _ := k1
    rw [k1, h1 j (Nat.le_refl j)]
    rw [h1 j (Nat.le_refl j)] at k3
    exact ih (j + 1) m t' v' g1 g2 pg' (by omega) (by omega) (fun k hk => by rw [k2 k (by omega)]; exact h1 k (by omega)) (fun k hk b => by
      rcases Nat.lt_or_ge k j with w | w
      · rw [k2 k (by omega)]; exact h2 k w b
      · have : k = j := by omega
        subst this
        exact k3 b)
theorem st_box {x y : Nat → Int} {on om ct ps mx my : Nat → Int32} {px py : Nat → Int64} {n C g W H : Nat} {ls : Nat → Nat} {sc un gl : Int32} (hP : Pl2 x y px py n) (hn : n ≤ 256) (hC : C ≤ 32) (hg : g < 64) (hp : ps g = nI n) (ho : ∀ i, i < n → om (256 * g + i) = on i) (hct : CtI ls C ct (256 * g) 0) (hls : ∀ i, i < C → fst_ ls i ≤ ls i ∧ ls i < n) (hlast : fst_ ls C = n) (hW : W ≤ 64) (hH : H ≤ 64) (pg : Nat → Int64) (t v : Int32) (f1 f2 : Nat → Int64) : ∀ (e k m : Nat) (x5 x7 x9 x11 : Int64), k + e = n → e < m → (∀ i, i < k → x5.toInt ≤ 2 * x i) → (∀ i, i < k → 2 * x i ≤ x7.toInt) → (∀ i, i < k → x9.toInt ≤ 2 * y i) → (∀ i, i < k → 2 * y i ≤ x11.toInt) → ∃ r t' v' f1' f2' pg', lp (L_Mo_stamp_56 (nI W) (nI H) sc un gl ps om ct mx my) m (nI g, nI n, x5, x7, x9, x11, nI k, t, v, px, py, f1, f2, pg) = some (r, t', v', px, py, f1', f2', pg') ∧ FillR (tl x y on ls C) W H pg pg' r := by
  intro e
  induction e with
  | zero =>
    intro k m x5 x7 x9 x11 hk hm b5 b7 b9 b11
    obtain ⟨m, rfl⟩ := suc_of hm
    rw [e_Mo_stamp_56]
    unfold P_Mo_stamp_56b P_Mo_stamp_163
    rw [show k = n by omega] at b5 b7 b9 b11 ⊢
    rw [if_pos (nI_le (Nat.le_refl _) (by omega))]
    exact st_out (sc := sc) (un := un) (gl := gl) (mx := mx) (my := my) hP hn hC hg hp ho hct hls hlast hW hH b5 b7 b9 b11 pg H 0 fuel t v f1 f2 pg (by omega) (by unfold fuel; omega) (fun k _ => rfl) (fun k hk => absurd hk (by omega))
  | succ e ih =>
    intro k m x5 x7 x9 x11 hk hm b5 b7 b9 b11
    obtain ⟨m, rfl⟩ := suc_of hm
    rw [e_Mo_stamp_56]
    unfold P_Mo_stamp_56b P_Mo_stamp_85 P_Mo_stamp_107 P_Mo_stamp_129 P_Mo_stamp_151
    rw [if_neg (nI_ge (show k < n by omega) (by omega))]
    simp only [bdI (show k < 256 by omega) (show 256 < 2 ^ 31 by omega), nI_clamp (show k < 2 ^ 31 by omega), nI_1]
    obtain ⟨p1, p2, _, _⟩ := hP k (by omega)
    have q5 : ∀ w : Int64, J (w.toInt.natAbs : Int) w w.toInt := fun w => ⟨rfl, by omega, by omega⟩
    have lo : ∀ (u w : Int64) (z : Nat → Int), u.toInt = 2 * z k → (∀ i, i < k → w.toInt ≤ 2 * z i) → (0 ≤ lg_cmp u w → ∀ i, i < k + 1 → w.toInt ≤ 2 * z i) ∧ (¬ 0 ≤ lg_cmp u w → ∀ i, i < k + 1 → u.toInt ≤ 2 * z i) := by
      intro u w z hu hw
      have e1 := J_ge (q5 u) (q5 w)
      refine ⟨fun c i hi => ?_, fun c i hi => ?_⟩
      · have := e1.mp c
        rcases Nat.lt_or_ge i k with a | a
        · exact hw i a
        · rw [show i = k by omega]; omega
      · have c' : ¬ w.toInt ≤ u.toInt := fun a => c (e1.mpr a)
        rcases Nat.lt_or_ge i k with a | a
        · have := hw i a; omega
        · rw [show i = k by omega]; omega
    have hi' : ∀ (u w : Int64) (z : Nat → Int), u.toInt = 2 * z k → (∀ i, i < k → 2 * z i ≤ w.toInt) → (lg_cmp u w ≤ 0 → ∀ i, i < k + 1 → 2 * z i ≤ w.toInt) ∧ (¬ lg_cmp u w ≤ 0 → ∀ i, i < k + 1 → 2 * z i ≤ u.toInt) := by
      intro u w z hu hw
      have e1 := J_le (q5 u) (q5 w)
      refine ⟨fun c i hi => ?_, fun c i hi => ?_⟩
      · have := e1.mp c
        rcases Nat.lt_or_ge i k with a | a
        · exact hw i a
        · rw [show i = k by omega]; omega
      · have c' : ¬ u.toInt ≤ w.toInt := fun a => c (e1.mpr a)
        rcases Nat.lt_or_ge i k with a | a
        · have := hw i a; omega
        · rw [show i = k by omega]; omega
    obtain ⟨a1, a2⟩ := lo (px k) x5 x p1 b5
    obtain ⟨a3, a4⟩ := hi' (px k) x7 x p1 b7
    obtain ⟨a5, a6⟩ := lo (py k) x9 y p2 b9
    obtain ⟨a7, a8⟩ := hi' (py k) x11 y p2 b11
    by_cases c1 : 0 ≤ lg_cmp (px k) x5
    · rw [if_pos c1]
      by_cases c2 : lg_cmp (px k) x7 ≤ 0
      · rw [if_pos c2]
        by_cases c3 : 0 ≤ lg_cmp (py k) x9
        · rw [if_pos c3]
          by_cases c4 : lg_cmp (py k) x11 ≤ 0
          · rw [if_pos c4]
            exact ih (k + 1) m _ _ _ _ (by omega) (by omega) (a1 c1) (a3 c2) (a5 c3) (a7 c4)
          · rw [if_neg c4]
            exact ih (k + 1) m _ _ _ _ (by omega) (by omega) (a1 c1) (a3 c2) (a5 c3) (a8 c4)
        · rw [if_neg c3]
          by_cases c4 : lg_cmp (py k) x11 ≤ 0
          · rw [if_pos c4]
            exact ih (k + 1) m _ _ _ _ (by omega) (by omega) (a1 c1) (a3 c2) (a6 c3) (a7 c4)
          · rw [if_neg c4]
            exact ih (k + 1) m _ _ _ _ (by omega) (by omega) (a1 c1) (a3 c2) (a6 c3) (a8 c4)
      · rw [if_neg c2]
        by_cases c3 : 0 ≤ lg_cmp (py k) x9
        · rw [if_pos c3]
          by_cases c4 : lg_cmp (py k) x11 ≤ 0
          · rw [if_pos c4]
            exact ih (k + 1) m _ _ _ _ (by omega) (by omega) (a1 c1) (a4 c2) (a5 c3) (a7 c4)
          · rw [if_neg c4]
            exact ih (k + 1) m _ _ _ _ (by omega) (by omega) (a1 c1) (a4 c2) (a5 c3) (a8 c4)
        · rw [if_neg c3]
          by_cases c4 : lg_cmp (py k) x11 ≤ 0
          · rw [if_pos c4]
            exact ih (k + 1) m _ _ _ _ (by omega) (by omega) (a1 c1) (a4 c2) (a6 c3) (a7 c4)
          · rw [if_neg c4]
            exact ih (k + 1) m _ _ _ _ (by omega) (by omega) (a1 c1) (a4 c2) (a6 c3) (a8 c4)
    · rw [if_neg c1]
      by_cases c2 : lg_cmp (px k) x7 ≤ 0
      · rw [if_pos c2]
        by_cases c3 : 0 ≤ lg_cmp (py k) x9
        · rw [if_pos c3]
          by_cases c4 : lg_cmp (py k) x11 ≤ 0
          · rw [if_pos c4]
            exact ih (k + 1) m _ _ _ _ (by omega) (by omega) (a2 c1) (a3 c2) (a5 c3) (a7 c4)
          · rw [if_neg c4]
            exact ih (k + 1) m _ _ _ _ (by omega) (by omega) (a2 c1) (a3 c2) (a5 c3) (a8 c4)
        · rw [if_neg c3]
          by_cases c4 : lg_cmp (py k) x11 ≤ 0
          · rw [if_pos c4]
            exact ih (k + 1) m _ _ _ _ (by omega) (by omega) (a2 c1) (a3 c2) (a6 c3) (a7 c4)
          · rw [if_neg c4]
            exact ih (k + 1) m _ _ _ _ (by omega) (by omega) (a2 c1) (a3 c2) (a6 c3) (a8 c4)
      · rw [if_neg c2]
        by_cases c3 : 0 ≤ lg_cmp (py k) x9
        · rw [if_pos c3]
          by_cases c4 : lg_cmp (py k) x11 ≤ 0
          · rw [if_pos c4]
            exact ih (k + 1) m _ _ _ _ (by omega) (by omega) (a2 c1) (a4 c2) (a5 c3) (a7 c4)
          · rw [if_neg c4]
            exact ih (k + 1) m _ _ _ _ (by omega) (by omega) (a2 c1) (a4 c2) (a5 c3) (a8 c4)
        · rw [if_neg c3]
          by_cases c4 : lg_cmp (py k) x11 ≤ 0
          · rw [if_pos c4]
            exact ih (k + 1) m _ _ _ _ (by omega) (by omega) (a2 c1) (a4 c2) (a6 c3) (a7 c4)
          · rw [if_neg c4]
            exact ih (k + 1) m _ _ _ _ (by omega) (by omega) (a2 c1) (a4 c2) (a6 c3) (a8 c4)
