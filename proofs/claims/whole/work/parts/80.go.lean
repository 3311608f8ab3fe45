/-! PURE ROWS: the reference's go: all contours -/
theorem Jv_c {t v t' v' : Int32} {S K S' K' : Int} (h : Jv 0 0 t v S K) (h' : Jv t v.toInt t' v' S' K') (s1 : 0 ≤ S) (s2 : 0 ≤ S') : Jv 0 0 t' v' (S + S') (K + K') := by
  obtain ⟨a1, _, a3⟩ := h
  obtain ⟨b1, b2, b3⟩ := h'
  obtain ⟨a4, a5⟩ := a3 rfl
  refine ⟨b1, fun w => absurd w (by decide), fun _ => ?_⟩
  rcases a1 with w | w
  · obtain ⟨c1, c2⟩ := a4 w
    obtain ⟨b4, b5⟩ := b3 w
    refine ⟨fun z => ?_, fun z => by have := b5 z; omega⟩
    obtain ⟨d1, d2⟩ := b4 z
    refine ⟨by omega, ?_⟩
    rw [d2, ← tI_add, ← tI_all, c2, tI_add]
    congr 1
    omega
  · have z1 := b2 w
    have z2 := a5 w
    exact ⟨fun z => by rw [z1] at z; exact absurd z (by decide), fun _ => by omega⟩
theorem sumL_ic (X Y : Int) (L : List Pc) : 0 ≤ sumL (icP X Y) L := (sum_ic (fun p => cthP p X Y) L).1
theorem go_l {x y : Nat → Int} {on om ct ps : Nat → Int32} {px py : Nat → Int64} {n C g : Nat} {ls : Nat → Nat} {X Y : Int} {xq yq : Int64} (hP : Pl2 x y px py n) (hn : n ≤ 256) (hC : C ≤ 32) (hg : g < 64) (ho : ∀ i, i < n → om (256 * g + i) = on i) (hct : CtI ls C ct (256 * g) 0) (hls : ∀ i, i < C → fst_ ls i ≤ ls i ∧ ls i < n) (hlast : fst_ ls C = n) (hx : J 40000 xq X) (hy : J 40000 yq Y) : ∀ (e c m : Nat) (t v : Int32) (f1 f2 : Nat → Int64), c + e = C → e < m → Jv 0 0 t v (sumL (icP X Y) (tl x y on ls c)) (sumL (fun p => ctnP p X Y) (tl x y on ls c)) → ∃ t' v' g1 g2, lp (L_Mo_go_24 px py ps om ct) m (nI g, xq, yq, nI n, nI (fst_ ls c), t, v, f1, f2) = some (t', v', g1, g2) ∧ Jv 0 0 t' v' (sumL (icP X Y) (tl x y on ls C)) (sumL (fun p => ctnP p X Y) (tl x y on ls C)) := by
  intro e
  induction e with
  | zero =>
    intro c m t v f1 f2 hc hm hJ
    obtain ⟨m, rfl⟩ := suc_of hm
    rw [e_Mo_go_24]
    unfold P_Mo_go_24b
    rw [show c = C by omega] at hJ ⊢
    rw [if_pos (nI_le (by omega) (by omega))]
    exact ⟨t, v, f1, f2, rfl, hJ⟩
  | succ e ih =>
    intro c m t v f1 f2 hc hm hJ
    obtain ⟨m, rfl⟩ := suc_of hm
    rw [e_Mo_go_24]
    unfold P_Mo_go_24b P_Mo_go_35
    obtain ⟨h1, h2⟩ := hls c (by omega)
    rw [if_neg (nI_ge (show fst_ ls c < n by omega) (by omega))]
    have hfc : ∀ i, 1 ≤ i → fst_ ls i = ls (i - 1) + 1 := fun i hi => by unfold fst_; rw [if_neg (by omega)]
    have ctc : ∀ k, fst_ ls c ≤ k → k ≤ ls c → ct (256 * g + k) = nI c := fun k w1 w2 => by
      have := hct c (by omega) k (fun z => by have := hfc c z; omega) w2
      rwa [Nat.zero_add] at this
    have inner : ∀ (d k q : Nat), k + d = ls c + 1 → fst_ ls c ≤ k → d < q → lp (L_Mo_go_35 px py ps om ct (lp (L_Mo_go_24 px py ps om ct) m)) q (nI g, xq, yq, nI n, nI (fst_ ls c), nI k, t, v, f1, f2) = P_Mo_go_83 px py ps om ct (lp (L_Mo_go_24 px py ps om ct) m) (nI g) xq yq (nI n) (nI (fst_ ls c)) (nI (ls c + 1)) t v f1 f2 := by
      intro d
      induction d with
      | zero =>
        intro k q hk hk2 hq
        obtain ⟨q, rfl⟩ := suc_of hq
        rw [e_Mo_go_35]
        unfold P_Mo_go_35b
        rw [show k = ls c + 1 by omega]
        rcases Nat.lt_or_ge (ls c + 1) n with w | w
        · rw [if_neg (nI_ge w (by omega)), show (256 : Int32) * nI g = nI (256 * g) from pk_mul 256 g, nI_add, nI_add]
          simp only [bdI (show 256 * g + (ls c + 1) < 16384 by omega) (show 16384 < 2 ^ 31 by omega), bdI (show 256 * g + fst_ ls c < 16384 by omega) (show 16384 < 2 ^ 31 by omega), nI_clamp (show 256 * g + (ls c + 1) < 2 ^ 31 by omega), nI_clamp (show 256 * g + fst_ ls c < 2 ^ 31 by omega)]
          have hcC : c + 1 < C := by
            rcases Nat.lt_or_ge (c + 1) C with z | z
            · exact z
            · have := hfc C (by omega)
              rw [show C - 1 = c by omega] at this
              omega
          have hf1 := hfc (c + 1) (by omega)
          rw [Nat.add_sub_cancel] at hf1
          have n1 := (hls (c + 1) hcC).1
          have c2 := hct (c + 1) hcC (ls c + 1) (fun _ => by rw [Nat.add_sub_cancel]; omega) (by omega)
          rw [Nat.zero_add] at c2
          rw [c2, ctc (fst_ ls c) (by omega) h1, if_neg (fun z => absurd ((nI_eq (by omega) (by omega)).mp z) (by omega))]
        · rw [if_pos (nI_le w (by omega))]
      | succ d ihd =>
        intro k q hk hk2 hq
        obtain ⟨q, rfl⟩ := suc_of hq
        rw [e_Mo_go_35]
        unfold P_Mo_go_35b
        rw [if_neg (nI_ge (show k < n by omega) (by omega)), show (256 : Int32) * nI g = nI (256 * g) from pk_mul 256 g, nI_add, nI_add]
        simp only [bdI (show 256 * g + k < 16384 by omega) (show 16384 < 2 ^ 31 by omega), bdI (show 256 * g + fst_ ls c < 16384 by omega) (show 16384 < 2 ^ 31 by omega), nI_clamp (show 256 * g + k < 2 ^ 31 by omega), nI_clamp (show 256 * g + fst_ ls c < 2 ^ 31 by omega)]
        rw [ctc k hk2 (by omega), ctc (fst_ ls c) (by omega) h1, if_pos rfl, nI_1]
        exact ihd (k + 1) q (by omega) (by omega) (by omega)
    rw [inner (ls c + 1 - fst_ ls c) (fst_ ls c) fuel (by omega) (by omega) (by unfold fuel; omega)]
    unfold P_Mo_go_83
    rw [show (256 : Int32) * nI g = nI (256 * g) from pk_mul 256 g]
    obtain ⟨t', v', g1, g2, k1, k2⟩ := ar_v (on := on) (om := om) (f := fst_ ls c) (n := ls c + 1 - fst_ ls c) hP hn (by omega) (by omega) (show 256 * g + 256 ≤ 16384 by omega) ho hx hy hJ.1 v.toInt f1 f2
    rw [show fst_ ls c + (ls c + 1 - fst_ ls c) = ls c + 1 by omega, ← tI_all] at k1
    rw [show fst_ ls c + (ls c + 1 - fst_ ls c) - 1 = ls c by omega] at k2
    rw [k1, some_bind]
    simp only [unp]
    have hf1 := hfc (c + 1) (by omega)
    rw [Nat.add_sub_cancel] at hf1
    rw [← hf1]
    refine ih (c + 1) m t' v' g1 g2 (by omega) (by omega) ?_
    have := Jv_c hJ k2 (sumL_ic X Y _) (sumL_ic X Y _)
    rw [← sumL_app, ← sumL_app] at this
    exact this
theorem go_v {x y : Nat → Int} {on om ct ps : Nat → Int32} {px py : Nat → Int64} {n C g : Nat} {ls : Nat → Nat} {X Y : Int} {xq yq : Int64} (hP : Pl2 x y px py n) (hn : n ≤ 256) (hC : C ≤ 32) (hg : g < 64) (hp : ps g = nI n) (ho : ∀ i, i < n → om (256 * g + i) = on i) (hct : CtI ls C ct (256 * g) 0) (hls : ∀ i, i < C → fst_ ls i ≤ ls i ∧ ls i < n) (hlast : fst_ ls C = n) (hx : J 40000 xq X) (hy : J 40000 yq Y) (t v : Int32) (f1 f2 : Nat → Int64) : ∃ t' v' g1 g2, P_Mo_go t v px py f1 f2 ps om ct (nI g) xq yq = some (t', v', g1, g2) ∧ Jv 0 0 t' v' (sumL (icP X Y) (tl x y on ls C)) (sumL (fun p => ctnP p X Y) (tl x y on ls C)) := by
  unfold P_Mo_go P_Mo_go_24
  rw [bdI hg (by omega), nI_clamp (show g < 2 ^ 31 by omega), hp]
  have := go_l (ps := ps) hP hn hC hg ho hct hls hlast hx hy C 0 fuel 0 0 f1 f2 (by omega) (by unfold fuel; omega) ⟨Or.inl rfl, fun w => absurd w (by decide), fun _ => ⟨fun _ => ⟨rfl, rfl⟩, fun w => absurd w (by decide)⟩⟩
  exact this
theorem fst_D {D : Dat} (hW : WfD D) : (∀ i, i < D.2.1 → fst_ D.2.2.2.2.2.2.2 i ≤ D.2.2.2.2.2.2.2 i ∧ D.2.2.2.2.2.2.2 i < D.1) ∧ fst_ D.2.2.2.2.2.2.2 D.2.1 = D.1 := by
  obtain ⟨w1, w2, _, w4, w5, w6⟩ := hW
  refine ⟨fun i hi => ?_, ?_⟩
  · obtain ⟨a, b⟩ := w4 i hi
    refine ⟨?_, a⟩
    unfold fst_
    split
    · exact Nat.zero_le _
    · exact b (by omega)
  · unfold fst_
    split
    · rename_i h; rw [w5 h]
    · rename_i h; exact w6 (by omega)
