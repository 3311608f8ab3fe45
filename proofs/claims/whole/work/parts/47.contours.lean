/-! PURE ROWS: a simple glyph, as the class reads it -/
theorem rd2e {p e : Nat} (hp : p ≤ e) (he : e ≤ 4096) (w : Int32) (f : Nat → Int32) : ∃ (v q : Nat) (w' : Int32), v < 65536 ∧ q ≤ e ∧ P_Rd_two (nI p) (nI e) w f = some (nI v, nI q, w') ∧ (w' = w ∨ w' = 0) := by
  rcases Nat.lt_or_ge (p + 1) e with h | h
  · exact ⟨_, _, w, W2_lt f p, by omega, rd2 h he w f, Or.inl rfl⟩
  · exact ⟨0, p, 0, by omega, by omega, rd2n h (by omega) w f, Or.inr rfl⟩
theorem skp {q e v : Nat} (hq : q ≤ e) (he : e ≤ 4096) (hv : v < 65536) (w : Int32) : P_Rd_skip (nI q) (nI e) w (nI v) = if q + v ≤ e then some (nI (q + v), w) else some (nI q, 0) := by
  unfold P_Rd_skip
  rw [pk_sub hq, nI_add]
  by_cases c : q + v ≤ e
  · rw [if_pos c, if_pos (nI_le (by omega) (by omega))]
  · rw [if_neg c, if_neg (nI_ge (by omega) (by omega))]
theorem pl_cnt (n0 cnt : Nat) : nI n0 + (nI cnt - 1) + 1 = nI (n0 + cnt) := by
  cases cnt with
  | zero => rw [show nI 0 - 1 = (-1 : Int32) from by decide, Int32.add_assoc, show (-1 : Int32) + 1 = 0 from by decide, i_add0]; rfl
  | succ c => rw [nI_pred, nI_add, nI_1]; rfl
/-- behind the flags: nothing good comes of what is not whole -/
theorem axes_0 {n0 cnt e q : Nat} (hc : cnt ≤ 128) (hf : n0 + cnt ≤ 256) (he : e ≤ 4096) (hq : q < 2 ^ 20) (f F xs ys on la : Nat → Int32) (cc : Int32) : ∃ u, ((P_Sh_readAxis (nI (n0 + cnt)) F (nI q) (nI e) 0 f xs (nI n0) (2 : Int32) (16 : Int32)).bind <| unp fun r_14 => unp fun n_15 => unp fun n_16 n_17 => if r_14 = 0 then (some ((0 : Int32), (nI (n0 + cnt)), cc, n_17, ys, on, la, F, n_15, n_16)) else ((P_Sh_readAxis (nI (n0 + cnt)) F n_15 (nI e) n_16 f ys (nI n0) (4 : Int32) (32 : Int32)).bind <| unp fun r_19 => unp fun n_20 => unp fun n_21 n_22 => if r_19 = 0 then (some ((0 : Int32), (nI (n0 + cnt)), cc, n_17, n_22, on, la, F, n_20, n_21)) else ((P_Rd_isWhole n_21).bind fun r_24 => if r_24 = 0 then (some ((0 : Int32), (nI (n0 + cnt)), cc, n_17, n_22, on, la, F, n_20, n_21)) else (some ((1 : Int32), (nI (n0 + cnt)), cc, n_17, n_22, on, la, F, n_20, n_21))))) = some u ∧ u.1 = 0 := by
  obtain ⟨r, q', w', ax', e1, e2, e3, e4⟩ := ax_safe hc hf he f F 2 16 cnt 0 fuel q 0 0 xs (by omega) (by unfold fuel; omega) (by omega)
  have e1 : P_Sh_readAxis (nI (n0 + cnt)) F (nI q) (nI e) 0 f xs (nI n0) (2 : Int32) (16 : Int32) = _ := e1
  have e5 : w' = 0 := e4.elim id id
  subst e5
  rw [e1, some_bind]
  simp only [unp]
  rcases e2 with rfl | rfl
  · rw [if_pos rfl]; exact ⟨_, rfl, rfl⟩
  · rw [if_neg (show ¬ (1 : Int32) = 0 by decide)]
    obtain ⟨r2, q2, w2, ax2, f1, f2, f3, f4⟩ := ax_safe hc hf he f F 4 32 cnt 0 fuel q' 0 0 ys (by omega) (by unfold fuel; omega) (by omega)
    have f1 : P_Sh_readAxis (nI (n0 + cnt)) F (nI q') (nI e) 0 f ys (nI n0) (4 : Int32) (32 : Int32) = _ := f1
    have f5 : w2 = 0 := f4.elim id id
    subst f5
    rw [f1, some_bind]
    try simp only [unp]
    rcases f2 with rfl | rfl
    · rw [if_pos rfl]; exact ⟨_, rfl, rfl⟩
    · rw [if_neg (show ¬ (1 : Int32) = 0 by decide)]
      exact ⟨_, rfl, rfl⟩
theorem tail_0 {n0 cnt e q n : Nat} (hc : cnt ≤ 128) (h0 : n0 ≤ 256) (he : e ≤ 4096) (hq : q ≤ e) (hn : n ≤ 16) (f xs ys on la F : Nat → Int32) (cc : Int32) (z : Int32 × Int32 × Int32 × Int32 × Int32 × (Nat → Int32) × (Nat → Int32) × (Nat → Int32) × (Nat → Int32) × (Nat → Int32) × Int32 × Int32 → Option (Int32 × Int32 × Int32 × (Nat → Int32) × (Nat → Int32) × (Nat → Int32) × (Nat → Int32) × (Nat → Int32) × Int32 × Int32)) (w : Int32) (hw : w = 0 ∨ w = 1 ∧ ¬ (q + 1 < e ∧ q + 2 + W2 f q ≤ e)) : ∃ u, P_Sh_addContours_24b (nI e) f z (nI n) (nI cnt - 1) (nI n) (nI n0) cc xs ys on la F (nI q) w = some u ∧ u.1 = 0 := by
  unfold P_Sh_addContours_24b
  rw [if_pos (nI_le (by omega) (by omega)), pl_cnt, show (256 : Int32) = nI 256 from rfl]
  by_cases c1 : n0 + cnt ≤ 256
  · rw [if_pos (nI_le c1 (by omega))]
    have fin : ∀ q2 : Nat, q2 ≤ e → ∃ u, ((P_Sh_readFlags (nI (n0 + cnt)) on F (nI q2) (nI e) 0 f (nI n0)).bind <| unp fun r_8 => unp fun n_9 => unp fun n_10 => unp fun n_11 n_12 => if r_8 = 0 then (some ((0 : Int32), (nI (n0 + cnt)), cc, xs, ys, n_9, la, n_10, n_11, n_12)) else ((P_Sh_readAxis (nI (n0 + cnt)) n_10 n_11 (nI e) n_12 f xs (nI n0) (2 : Int32) (16 : Int32)).bind <| unp fun r_14 => unp fun n_15 => unp fun n_16 n_17 => if r_14 = 0 then (some ((0 : Int32), (nI (n0 + cnt)), cc, n_17, ys, n_9, la, n_10, n_15, n_16)) else ((P_Sh_readAxis (nI (n0 + cnt)) n_10 n_15 (nI e) n_16 f ys (nI n0) (4 : Int32) (32 : Int32)).bind <| unp fun r_19 => unp fun n_20 => unp fun n_21 n_22 => if r_19 = 0 then (some ((0 : Int32), (nI (n0 + cnt)), cc, n_17, n_22, n_9, la, n_10, n_20, n_21)) else ((P_Rd_isWhole n_21).bind fun r_24 => if r_24 = 0 then (some ((0 : Int32), (nI (n0 + cnt)), cc, n_17, n_22, n_9, la, n_10, n_20, n_21)) else (some ((1 : Int32), (nI (n0 + cnt)), cc, n_17, n_22, n_9, la, n_10, n_20, n_21)))))) = some u ∧ u.1 = 0 := by
      intro q2 hq2
      obtain ⟨r, on', F', q', w', e1, e2, e3, e4⟩ := fl_safe hc c1 he f cnt 0 fuel q2 0 0 0 on F (by omega) (by unfold fuel; omega) (by omega) (by omega)
      have e1 : P_Sh_readFlags (nI (n0 + cnt)) on F (nI q2) (nI e) 0 f (nI n0) = _ := e1
      have e5 : w' = 0 := e4.elim id id
      subst e5
      rw [e1, some_bind]
      simp only [unp]
      rcases e2 with rfl | rfl
      · rw [if_pos rfl]; exact ⟨_, rfl, rfl⟩
      · rw [if_neg (show ¬ (1 : Int32) = 0 by decide)]
        exact axes_0 hc c1 he (by omega) f F' xs ys on' la cc
    rcases hw with rfl | ⟨rfl, hw⟩
    · obtain ⟨v, q1, w1, h1, h2, h3, h4⟩ := rd2e hq he 0 f
      have h5 : w1 = 0 := h4.elim id id
      subst h5
      rw [h3, some_bind]
      simp only [unp]
      rw [skp h2 he h1]
      by_cases c2 : q1 + v ≤ e
      · rw [if_pos c2, some_bind]
        exact fin _ c2
      · rw [if_neg c2, some_bind]
        exact fin _ h2
    · by_cases c3 : q + 1 < e
      · rw [rd2 c3 he, some_bind]
        simp only [unp]
        rw [skp (by omega) he (W2_lt f q), if_neg (fun k => hw ⟨c3, k⟩), some_bind]
        exact fin _ (by omega)
      · rw [rd2n (by omega) (by omega), some_bind]
        simp only [unp]
        rw [show (0 : Int32) = nI 0 from rfl, skp (by omega) he (by omega), if_pos (by omega), some_bind]
        exact fin _ (by omega)
  · rw [if_neg (nI_ge (by omega) (by omega))]
    exact ⟨_, rfl, rfl⟩
/-- the class holds D's points from n0 on -/
def ShD (D : Dat) (n0 : Nat) (xs ys on : Nat → Int32) : Prop := ∀ k, k < D.1 → xs (n0 + k) = D.2.2.2.2.1 k ∧ ys (n0 + k) = D.2.2.2.2.2.1 k ∧ on (n0 + k) = D.2.2.2.2.2.2.1 k
theorem tail_1 {n0 p e n : Nat} (h0 : n0 ≤ 256) (he : e ≤ 4096) (hn : n ≤ 16) (f xs ys on la F : Nat → Int32) (hE : enC f p e n) (hq : p + 2 * n ≤ e) (cc : Int32) (z : Int32 × Int32 × Int32 × Int32 × Int32 × (Nat → Int32) × (Nat → Int32) × (Nat → Int32) × (Nat → Int32) × (Nat → Int32) × Int32 × Int32 → Option (Int32 × Int32 × Int32 × (Nat → Int32) × (Nat → Int32) × (Nat → Int32) × (Nat → Int32) × (Nat → Int32) × Int32 × Int32)) : (∃ D, smD f p e n = some D ∧ n0 + D.1 ≤ 256 ∧ ∃ xs' ys' on' F' q', P_Sh_addContours_24b (nI e) f z (nI n) (nI (cntOf f p n) - 1) (nI n) (nI n0) cc xs ys on la F (nI (p + 2 * n)) 1 = some (1, nI (n0 + D.1), cc, xs', ys', on', la, F', q', 1) ∧ ShD D n0 xs' ys' on' ∧ ∀ j, j < n0 → xs' j = xs j ∧ ys' j = ys j ∧ on' j = on j) ∨ ((∀ D, smD f p e n = some D → 256 < n0 + D.1) ∧ ∃ u, P_Sh_addContours_24b (nI e) f z (nI n) (nI (cntOf f p n) - 1) (nI n) (nI n0) cc xs ys on la F (nI (p + 2 * n)) 1 = some u ∧ u.1 = 0) := by
  have hc := cnt_le hE
  by_cases hs : skC f p e n
  · unfold P_Sh_addContours_24b smD
    rw [if_pos ⟨hE, hs⟩, if_pos (nI_le (by omega) (by omega)), pl_cnt, show (256 : Int32) = nI 256 from rfl]
    obtain ⟨s1, s2⟩ := hs
    by_cases c1 : n0 + cntOf f p n ≤ 256
    · rw [if_pos (nI_le c1 (by omega)), rd2 s1 he, some_bind]
      simp only [unp]
      rw [skp (by omega) he (W2_lt f (p + 2 * n)), if_pos s2, some_bind]
      try simp only [unp]
      generalize hcnt : cntOf f p n = cnt at *
      generalize hq : p + 2 * n + 2 + W2 f (p + 2 * n) = q0 at *
      have cg := flS_congr (f := f) (e := e) (cnt := cnt) cnt 0 q0 (fun _ => 0) F (by omega) (fun j hj => absurd hj (by omega))
      rcases fl_f hc c1 he f cnt 0 fuel q0 0 on F (by omega) (by omega) (by unfold fuel; omega) s2 with ⟨on1, F1, q1, k1, k2, k3, k4, k5⟩ | ⟨k1, r, on1, F1, q1, w1, k2, k3, k4, k5, k6⟩
      · have k2 : P_Sh_readFlags (nI (n0 + cnt)) on F (nI q0) (nI e) 1 f (nI n0) = _ := k2
        rw [k2, some_bind]
        try simp only [unp]
        rw [if_neg (show ¬ (1 : Int32) = 0 by decide)]
        cases hfl : flS f e cnt cnt 0 q0 (fun _ => 0) with
        | none => rw [cg.2 hfl] at k1; cases k1
        | some Fq =>
          obtain ⟨F0, q1'⟩ := Fq
          obtain ⟨G', w1, w2⟩ := cg.1 F0 q1' hfl
          rw [k1] at w1
          cases w1
          have hq1 := flS_q _ _ _ _ _ _ k1 s2
          have ax1 : ∀ k, k ≤ cnt → axS f e 2 16 F0 q1 k = axS f e 2 16 F1 q1 k := axS_congr w2
          rw [some_bind]
          try simp only [unp]
          rcases ax_f hc c1 he f F1 2 16 hq1 cnt 0 fuel q1 0 xs (by omega) (by unfold fuel; omega) rfl with ⟨v1, q2, xs1, a1, a2, a3, a4⟩ | ⟨a1, r, q2, w', xs1, a2, a3, a4, a5, a6⟩
          · have a2 : P_Sh_readAxis (nI (n0 + cnt)) F1 (nI q1) (nI e) 1 f xs (nI n0) (2 : Int32) (16 : Int32) = _ := a2
            rw [a2, some_bind, ax1 cnt (by omega), a1, some_bind]
            try simp only [unp]
            rw [if_neg (show ¬ (1 : Int32) = 0 by decide)]
            have ax2 : ∀ k, k ≤ cnt → axS f e 4 32 F0 q2 k = axS f e 4 32 F1 q2 k := axS_congr w2
            have hq2 := axS_e hq1 _ _ _ a1
            rcases ax_f hc c1 he f F1 4 32 hq2 cnt 0 fuel q2 0 ys (by omega) (by unfold fuel; omega) rfl with ⟨v2, q3, ys1, b1, b2, b3, b4⟩ | ⟨b1, r, q3, w', ys1, b2, b3, b4, b5, b6⟩
            · have b2 : P_Sh_readAxis (nI (n0 + cnt)) F1 (nI q2) (nI e) 1 f ys (nI n0) (4 : Int32) (32 : Int32) = _ := b2
              rw [b2, some_bind, ax2 cnt (by omega), b1, some_bind]
              try simp only [unp]
              rw [if_neg (show ¬ (1 : Int32) = 0 by decide)]
              refine Or.inl ⟨_, rfl, c1, _, _, _, _, _, rfl, fun k hk => ⟨?_, ?_, ?_⟩, fun j hj => ⟨a4 j (by omega), b4 j (by omega), k5 j (by omega)⟩⟩
              · obtain ⟨qq, w3⟩ := a3 k (by omega) hk
                rw [← ax1 (k + 1) (by exact hk)] at w3
                exact axV_of w3
              · obtain ⟨qq, w3⟩ := b3 k (by omega) hk
                rw [← ax2 (k + 1) (by exact hk)] at w3
                exact axV_of w3
              · have := k3 k (by omega) hk
                rw [this, ← w2 k hk]
            · have b2 : P_Sh_readAxis (nI (n0 + cnt)) F1 (nI q2) (nI e) 1 f ys (nI n0) (4 : Int32) (32 : Int32) = _ := b2
              rw [b2, some_bind, ax2 cnt (by omega), b1]
              try simp only [unp]
              refine Or.inr ⟨fun D hD => (by cases hD), ?_⟩
              by_cases cr : r = 0
              · rw [if_pos cr]; exact ⟨_, rfl, rfl⟩
              · rw [if_neg cr]
                have : w' = 0 := b6.resolve_left cr
                subst this
                exact ⟨_, rfl, rfl⟩
          · have a2 : P_Sh_readAxis (nI (n0 + cnt)) F1 (nI q1) (nI e) 1 f xs (nI n0) (2 : Int32) (16 : Int32) = _ := a2
            rw [a2, some_bind, ax1 cnt (by omega), a1]
            try simp only [unp]
            refine Or.inr ⟨fun D hD => (by cases hD), ?_⟩
            by_cases cr : r = 0
            · rw [if_pos cr]; exact ⟨_, rfl, rfl⟩
            · rw [if_neg cr]
              have : w' = 0 := a6.resolve_left cr
              subst this
              obtain ⟨r2, q3, w2', ax2, f1, f2, f3, f4⟩ := ax_safe hc c1 he f F1 4 32 cnt 0 fuel q2 0 0 ys (by omega) (by unfold fuel; omega) (by omega)
              have f1 : P_Sh_readAxis (nI (n0 + cnt)) F1 (nI q2) (nI e) 0 f ys (nI n0) (4 : Int32) (32 : Int32) = _ := f1
              have f5 : w2' = 0 := f4.elim id id
              subst f5
              rw [f1, some_bind]
              try simp only [unp]
              rcases f2 with rfl | rfl
              · rw [if_pos rfl]; exact ⟨_, rfl, rfl⟩
              · rw [if_neg (show ¬ (1 : Int32) = 0 by decide)]
                exact ⟨_, rfl, rfl⟩
      · have k2 : P_Sh_readFlags (nI (n0 + cnt)) on F (nI q0) (nI e) 1 f (nI n0) = _ := k2
        rw [k2, some_bind]
        try simp only [unp]
        have hno : flS f e cnt cnt 0 q0 (fun _ => 0) = none := by
          cases hfl : flS f e cnt cnt 0 q0 (fun _ => 0) with
          | none => rfl
          | some Fq =>
            obtain ⟨G', w1, w2⟩ := cg.1 Fq.1 Fq.2 hfl
            rw [k1] at w1; cases w1
        rw [hno]
        refine Or.inr ⟨fun D hD => (by cases hD), ?_⟩
        by_cases cr : r = 0
        · rw [if_pos cr]; exact ⟨_, rfl, rfl⟩
        · rw [if_neg cr]
          have : w1 = 0 := k6.resolve_left cr
          subst this
          exact axes_0 hc c1 he (by omega) f F1 xs ys on1 la cc
    · rw [if_neg (nI_ge (by omega) (by omega))]
      refine Or.inr ⟨fun D hD => ?_, _, rfl, rfl⟩
      obtain ⟨Fq, _, h2⟩ := Option.bind_eq_some_iff.mp hD
      obtain ⟨vx, _, h3⟩ := Option.bind_eq_some_iff.mp h2
      obtain ⟨vy, _, h4⟩ := Option.bind_eq_some_iff.mp h3
      cases h4
      show 256 < n0 + cntOf f p n
      omega
  · refine Or.inr ⟨fun D hD => ?_, tail_0 hc h0 he hq hn f xs ys on la F cc z 1 (Or.inr ⟨rfl, fun k => hs k⟩)⟩
    unfold smD at hD
    rw [if_neg (fun k => hs k.2)] at hD
    cases hD
