
theorem mkK {s : State} {args : Array Value} {D : va_G} (hc : ∀ (k : Nat) (q : vw_C), classes[k]? = some q → u_Kn s q.1 q.2.1 q.2.2 (D.1 k) (D.2 k)) (h0 : (Cond.arrayClass .int).before args s = true) (h1 : (Cond.arrayClass .byte).before args s = true) (h2 : (Cond.arrayClass .boolean).before args s = true) (h3 : (Cond.arrayClass .long).before args s = true) (h4 : va_AO "GlyphPage$Reader" s) (h5 : va_AO "GlyphPage$Part" s) : ∃ cy : Nat → ClassId, va_K D classes (TY cy) s := by
  obtain ⟨c0, k0, p0, a0, b0, d0⟩ := Cond.arrayClass_spec h0
  obtain ⟨c1, k1, p1, a1, b1, d1⟩ := Cond.arrayClass_spec h1
  obtain ⟨c2, k2, p2, a2, b2, d2⟩ := Cond.arrayClass_spec h2
  obtain ⟨c3, k3, p3, a3, b3, d3⟩ := Cond.arrayClass_spec h3
  obtain ⟨p4, c4, k4, x4, y4, a4, b4, d4⟩ := Cond.arrayOver_spec h4
  obtain ⟨p5, c5, k5, x5, y5, a5, b5, d5⟩ := Cond.arrayOver_spec h5
  refine ⟨fun i => match i with | 0 => c0 | 1 => c1 | 2 => c2 | 3 => c3 | 4 => c4 | _ => c5, hc, fun k q hk => ?_⟩
  match k, hk with
  | 0, hk => cases hk; exact ⟨fun n z => ⟨fun k h => (by cases h), k0, b0, p0, d0⟩, a0⟩
  | 1, hk => cases hk; exact ⟨fun n z => ⟨fun k h => (by cases h), k1, b1, p1, d1⟩, a1⟩
  | 2, hk => cases hk; exact ⟨fun n z => ⟨fun k h => (by cases h), k2, b2, p2, d2⟩, a2⟩
  | 3, hk => cases hk; exact ⟨fun n z => ⟨fun k h => (by cases h), k3, b3, p3, d3⟩, a3⟩
  | 4, hk => cases hk; exact ⟨fun n z => ⟨fun k h => (by cases h), k4, a4, p4, b4⟩, k4, p4, a4, b4, x4, d4⟩
  | 5, hk => cases hk; exact ⟨fun n z => ⟨fun k h => (by cases h), k5, a5, p5, b5⟩, k5, p5, a5, b5, x5, d5⟩
  | k + 6, hk => simp [TY] at hk
theorem st_Ff {args : Array Value} {s : State} {A : Nat → Prop} (hgv : (Jvm.Cond.and given_1 narrow_1).before args s = true) (hlay : (Cond.laysStatic "GlyphPage$FontFile" "TAGS" "[I").before args s = true) (hini : (Cond.initialized "GlyphPage$FontFile").before args s = true) (hA : ∀ a : Nat, a < s.heap.size → ¬ A a) : ∃ t : Nat, va_Z "GlyphPage$FontFile" "TAGS" "[I" (.ref t) A s s.heap ∧ va_T .int t 8 (fun j => .int (tgs_Ff j)) A s s.heap := by
  have hs := flat_of_before _ hgv
  have ha : (Cond.arrayOf (Jvm.Term.static "GlyphPage$FontFile" "TAGS" "[I") .int).before args s = true := hs _ (by decide +kernel)
  have hl := va_eqt (hs (Cond.eq (.length (Jvm.Term.static "GlyphPage$FontFile" "TAGS" "[I")) (.int 8)) (by decide +kernel))
  have e0 := va_eqt (hs (Cond.eq (.elem (Jvm.Term.static "GlyphPage$FontFile" "TAGS" "[I") (.int 0)) (.int 1668112752)) (by decide +kernel))
  have e1 := va_eqt (hs (Cond.eq (.elem (Jvm.Term.static "GlyphPage$FontFile" "TAGS" "[I") (.int 1)) (.int 1735162214)) (by decide +kernel))
  have e2 := va_eqt (hs (Cond.eq (.elem (Jvm.Term.static "GlyphPage$FontFile" "TAGS" "[I") (.int 2)) (.int 1751474532)) (by decide +kernel))
  have e3 := va_eqt (hs (Cond.eq (.elem (Jvm.Term.static "GlyphPage$FontFile" "TAGS" "[I") (.int 3)) (.int 1751672161)) (by decide +kernel))
  have e4 := va_eqt (hs (Cond.eq (.elem (Jvm.Term.static "GlyphPage$FontFile" "TAGS" "[I") (.int 4)) (.int 1752003704)) (by decide +kernel))
  have e5 := va_eqt (hs (Cond.eq (.elem (Jvm.Term.static "GlyphPage$FontFile" "TAGS" "[I") (.int 5)) (.int 1819239265)) (by decide +kernel))
  have e6 := va_eqt (hs (Cond.eq (.elem (Jvm.Term.static "GlyphPage$FontFile" "TAGS" "[I") (.int 6)) (.int 1835104368)) (by decide +kernel))
  have e7 := va_eqt (hs (Cond.eq (.elem (Jvm.Term.static "GlyphPage$FontFile" "TAGS" "[I") (.int 7)) (.int 1801810542)) (by decide +kernel))
  obtain ⟨t, ht, hT⟩ := va_Tof (tm := (Jvm.Term.static "GlyphPage$FontFile" "TAGS" "[I")) (ty := .int) (N := 8) (f := fun j => .int (tgs_Ff j)) (A := A) (by decide) ha hl (fun j hj => by
    match j, hj with
    | 0, _ => exact e0
    | 1, _ => exact e1
    | 2, _ => exact e2
    | 3, _ => exact e3
    | 4, _ => exact e4
    | 5, _ => exact e5
    | 6, _ => exact e6
    | 7, _ => exact e7
    | j + 8, hj => exact absurd hj (by omega)) hA
  exact ⟨t, va_Zof hlay hini ht hA, hT⟩
theorem st_Mo {args : Array Value} {s : State} {A : Nat → Prop} (hgv : (Jvm.Cond.and given_1 narrow_1).before args s = true) (hlay : (Cond.laysStatic "GlyphPageModel" "TAGS" "[I").before args s = true) (hini : (Cond.initialized "GlyphPageModel").before args s = true) (hA : ∀ a : Nat, a < s.heap.size → ¬ A a) : ∃ t : Nat, va_Z "GlyphPageModel" "TAGS" "[I" (.ref t) A s s.heap ∧ va_T .int t 8 (fun j => .int (tgs_Mo j)) A s s.heap := by
  have hs := flat_of_before _ hgv
  have ha : (Cond.arrayOf (Jvm.Term.static "GlyphPageModel" "TAGS" "[I") .int).before args s = true := hs _ (by decide +kernel)
  have hl := va_eqt (hs (Cond.eq (.length (Jvm.Term.static "GlyphPageModel" "TAGS" "[I")) (.int 8)) (by decide +kernel))
  have e0 := va_eqt (hs (Cond.eq (.elem (Jvm.Term.static "GlyphPageModel" "TAGS" "[I") (.int 0)) (.int 1668112752)) (by decide +kernel))
  have e1 := va_eqt (hs (Cond.eq (.elem (Jvm.Term.static "GlyphPageModel" "TAGS" "[I") (.int 1)) (.int 1735162214)) (by decide +kernel))
  have e2 := va_eqt (hs (Cond.eq (.elem (Jvm.Term.static "GlyphPageModel" "TAGS" "[I") (.int 2)) (.int 1751474532)) (by decide +kernel))
  have e3 := va_eqt (hs (Cond.eq (.elem (Jvm.Term.static "GlyphPageModel" "TAGS" "[I") (.int 3)) (.int 1751672161)) (by decide +kernel))
  have e4 := va_eqt (hs (Cond.eq (.elem (Jvm.Term.static "GlyphPageModel" "TAGS" "[I") (.int 4)) (.int 1752003704)) (by decide +kernel))
  have e5 := va_eqt (hs (Cond.eq (.elem (Jvm.Term.static "GlyphPageModel" "TAGS" "[I") (.int 5)) (.int 1801810542)) (by decide +kernel))
  have e6 := va_eqt (hs (Cond.eq (.elem (Jvm.Term.static "GlyphPageModel" "TAGS" "[I") (.int 6)) (.int 1819239265)) (by decide +kernel))
  have e7 := va_eqt (hs (Cond.eq (.elem (Jvm.Term.static "GlyphPageModel" "TAGS" "[I") (.int 7)) (.int 1835104368)) (by decide +kernel))
  obtain ⟨t, ht, hT⟩ := va_Tof (tm := (Jvm.Term.static "GlyphPageModel" "TAGS" "[I")) (ty := .int) (N := 8) (f := fun j => .int (tgs_Mo j)) (A := A) (by decide) ha hl (fun j hj => by
    match j, hj with
    | 0, _ => exact e0
    | 1, _ => exact e1
    | 2, _ => exact e2
    | 3, _ => exact e3
    | 4, _ => exact e4
    | 5, _ => exact e5
    | 6, _ => exact e6
    | 7, _ => exact e7
    | j + 8, hj => exact absurd hj (by omega)) hA
  exact ⟨t, va_Zof hlay hini ht hA, hT⟩
theorem cell_some {L : Nat} {xs : Nat → Int32} (hL : L ≤ 3074) (k : Int32) (hk : k = 0 ∨ k = 1) : ∃ w, P_Lw_cell L xs k = some w := by
  unfold P_Lw_cell
  by_cases c : (Int32.ofNat L) ≤ k
  · exact ⟨_, if_pos c⟩
  · refine ⟨xs k.toNatClampNeg, (if_neg c).trans ?_⟩
    · unfold bd
      rw [if_neg]
      have c2 : k.toInt < (L : Int) := by
        have this : ¬ (Int32.ofNat L).toInt ≤ k.toInt := fun q => c (Int32.le_iff_toInt_le.mpr q)
        rw [show (Int32.ofNat L).toInt = (L : Int) from nI_toInt (by omega)] at this
        omega
      rintro (h | h)
      · rcases hk with rfl | rfl
        · exact absurd h (by decide)
        · exact absurd h (by decide)
      · rcases hk with rfl | rfl
        · have e : (0 : Int32).toNatClampNeg = 0 := by decide
          have e2 : (0 : Int32).toInt = 0 := by decide
          rw [e] at h; rw [e2] at c2; omega
        · have e : (1 : Int32).toNatClampNeg = 1 := by decide
          have e2 : (1 : Int32).toInt = 1 := by decide
          rw [e] at h; rw [e2] at c2; omega
set_option maxHeartbeats 4000000 in
set_option maxRecDepth 100000 in
theorem whole_of {IN IF : LInv} (hN : StepsN IN IF) (hF : StepsF IN IF) (h0 : StartN IN) {p : Program} {e : Env} {s : State} {m : MethodId} {below : List Frame} {meth : Method} {c : Code} (l : Launch) {b L : Nat} {xs : Nat → Int32} (hL : L ≤ 3074) (C0 : lw_At p s m meth c b L xs) : W p l e room_1 s m #[Value.ref b] below meth c s.heap [] 0 0 (lw_Z below #[Value.ref b] s) (entryFrame m ([Value.ref b] : List Value).toArray 4) := by
  obtain ⟨hx, hb, hr, hml, hown, hts, hX, hbl, hlocks, hgv⟩ := id C0
  have htsG : ∀ w ∈ G, w.before #[Value.ref b] s = true := fun w hw => hts w (G_tbl w hw)
  obtain ⟨c0, i0, hKn0⟩ := u_known (C := "GlyphPage$Reader") (T := F_Rd) (N := 4) (n := 4) htsG iG_Rd (htsG _ mW32)
  obtain ⟨c1, i1, hKn1⟩ := u_known (C := "GlyphPage$Part") (T := F_Pt) (N := 8) (n := 8) htsG iG_Pt (htsG _ mW52)
  obtain ⟨c2, i2, hKn2⟩ := u_known (C := "GlyphPage$Shape") (T := F_Sh) (N := 10) (n := 10) htsG iG_Sh (htsG _ mW23)
  obtain ⟨c3, i3, hKn3⟩ := u_known (C := "GlyphPage$Curves") (T := F_Cv) (N := 13) (n := 13) htsG iG_Cv (htsG _ mW127)
  obtain ⟨c4, i4, hKn4⟩ := u_known (C := "GlyphPage$Lines") (T := F_Ln) (N := 7) (n := 7) htsG iG_Ln (htsG _ mW180)
  obtain ⟨c5, i5, hKn5⟩ := u_known (C := "GlyphPage$Page") (T := F_Pg) (N := 5) (n := 5) htsG iG_Pg (htsG _ mW214)
  obtain ⟨c6, i6, hKn6⟩ := u_known (C := "GlyphPage") (T := F_Gp) (N := 9) (n := 9) htsG iG_Gp (htsG _ mW15)
  obtain ⟨c7, i7, hKn7⟩ := u_known (C := "GlyphPage$FontFile") (T := F_Ff) (N := 16) (n := 16) htsG iG_Ff (htsG _ mW291)
  obtain ⟨c8, i8, hKn8⟩ := u_known (C := "GlyphPageModel$Font") (T := F_Mf) (N := 23) (n := 23) htsG iG_Mf (htsG _ mW769)
  obtain ⟨c9, i9, hKn9⟩ := u_known (C := "GlyphPageModel") (T := F_Mo) (N := 22) (n := 22) htsG iG_Mo (htsG _ mW763)
  obtain ⟨dC, dI, hKc⟩ : ∃ (dC : Nat → ClassId) (dI : Nat → Nat → Nat), ∀ (k : Nat) (q : vw_C), classes[k]? = some q → u_Kn s q.1 q.2.1 q.2.2 (dC k) (dI k) := by
    refine ⟨fun k => match k with | 0 => c0 | 1 => c1 | 2 => c2 | 3 => c3 | 4 => c4 | 5 => c5 | 6 => c6 | 7 => c7 | 8 => c8 | _ => c9, fun k => match k with | 0 => i0 | 1 => i1 | 2 => i2 | 3 => i3 | 4 => i4 | 5 => i5 | 6 => i6 | 7 => i7 | 8 => i8 | _ => i9, ?_⟩
    intro k q hq
    match k, hq with
    | 0, hq => cases hq; exact hKn0
    | 1, hq => cases hq; exact hKn1
    | 2, hq => cases hq; exact hKn2
    | 3, hq => cases hq; exact hKn3
    | 4, hq => cases hq; exact hKn4
    | 5, hq => cases hq; exact hKn5
    | 6, hq => cases hq; exact hKn6
    | 7, hq => cases hq; exact hKn7
    | 8, hq => cases hq; exact hKn8
    | 9, hq => cases hq; exact hKn9
    | k + 10, hq => simp [classes] at hq
  have hNw : NW s := ⟨va_Nw.of rfl (hts _ (List.mem_append_right _ (inT1 (List.mem_of_getElem? (i := 33) rfl)))), va_Nw.of rfl (hts _ (List.mem_append_right _ (inT1 (List.mem_of_getElem? (i := 53) rfl)))), va_Nw.of rfl (hts _ (List.mem_append_right _ (inT1 (List.mem_of_getElem? (i := 128) rfl)))), va_Nw.of rfl (hts _ (List.mem_append_right _ (inT1 (List.mem_of_getElem? (i := 181) rfl)))), va_Nw.of rfl (hts _ (List.mem_append_right _ (inT4 (List.mem_of_getElem? (i := 50) rfl)))), va_AO.of (hts _ (List.mem_append_right _ (inT1 (List.mem_of_getElem? (i := 29) rfl)))), va_AO.of (hts _ (List.mem_append_right _ (inT1 (List.mem_of_getElem? (i := 31) rfl))))⟩
  obtain ⟨cy, hK⟩ := mkK (D := (dC, dI)) hKc (htsG _ mW50) (htsG _ mW244) (htsG _ mW51) (htsG _ mW245) hNw.2.2.2.2.2.1 hNw.2.2.2.2.2.2
  obtain ⟨A, hAe⟩ : ∃ A : Nat → Prop, A = fun q => s.heap.size ≤ q := ⟨_, rfl⟩
  have hA : ∀ q : Nat, s.heap.size ≤ q → A q := fun q h => by rw [hAe]; exact h
  have hAs : ∀ q : Nat, A q → s.heap.size ≤ q := fun q h => by rw [hAe] at h; exact h
  have hAn : ∀ a : Nat, a < s.heap.size → ¬ A a := fun a h z => absurd (hAs a z) (by omega)
  obtain ⟨tgF, hZF, hTF⟩ := st_Ff (A := A) hgv (hts _ (List.mem_append_right _ (inT2 (List.mem_of_getElem? (i := 141) rfl)))) (htsG _ mW11) hAn
  obtain ⟨tgM, hZM, hTM⟩ := st_Mo (A := A) hgv (hts _ (List.mem_append_right _ (inT4 (List.mem_of_getElem? (i := 238) rfl)))) (htsG _ mW9) hAn
  have CL : CxL p l e s m below meth c A dC dI cy b L xs tgF tgM := ⟨hx, hb, hr, hlocks, hml, hown, htsG, hA, hK, hX, hbl, hAn b hbl, hZF, hTF, hZM, hTM, hNw, hAs, hL⟩
  have hl := lv_entry ([.ref b]) (n := 4) (Nat.le_of_ble_eq_true rfl)
  rw [lg_entry_eq]
  generalize (lg_sl ([.ref b]) ++ List.replicate (4 - (lg_sl ([.ref b])).length) Slot.unset).toArray = ls at hl ⊢
  have hl : lv_has ls 4 [(0, .ref b)] := hl
  obtain ⟨w0, hw0⟩ := cell_some (xs := xs) (by omega : L ≤ 3074) 0 (Or.inl rfl)
  obtain ⟨w1, hw1⟩ := cell_some (xs := xs) (by omega : L ≤ 3074) 1 (Or.inr rfl)
  exact law_entry (IF := IF) CL h0 (law_main CL hN hF 512 0 rfl).1 w0 w1 hw0 hw1 ls hl
