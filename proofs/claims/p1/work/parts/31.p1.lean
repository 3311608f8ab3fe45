theorem fillI (N : Nat) (hN : N ≤ 300) (v : Int32) : ∀ (d k m : Nat) (f : Nat → Int32), k + d = N → d < m → (∀ i, i < k → f i = v) → ∃ g, lp (L_Ja_fill_aIIV_5 N) m (v, nI k, nI N, f) = some g ∧ ∀ i, i < N → g i = v := by
  intro d
  induction d with
  | zero =>
    intro k m f hk hm hf
    obtain ⟨m, rfl⟩ := suc_of hm
    refine ⟨f, ?_, fun i hi => hf i (by omega)⟩
    rw [e_Ja_fill_aIIV_5]
    unfold P_Ja_fill_aIIV_5b
    rw [if_pos (nI_le (by omega) (by omega))]
  | succ d ih =>
    intro k m f hk hm hf
    obtain ⟨m, rfl⟩ := suc_of hm
    obtain ⟨g, e, hg⟩ := ih (k + 1) m (upd f k v) (by omega) (by omega) (fun i hi => by
      unfold upd
      by_cases q : i = k
      · rw [if_pos q]
      · rw [if_neg q]; exact hf i (by omega))
    refine ⟨g, ?_, hg⟩
    rw [e_Ja_fill_aIIV_5]
    unfold P_Ja_fill_aIIV_5b
    rw [if_neg (nI_ge (by omega) (by omega))]
    unfold bd
    rw [if_neg (nI_in (by omega) (by omega)), nI_clamp (by omega), nI_1]
    exact e
theorem fillI_0 (N : Nat) (hN : N ≤ 300) (f : Nat → Int32) (v : Int32) : ∃ g, P_Ja_fill_aIIV N f v = some g ∧ ∀ i, i < N → g i = v :=
  fillI N hN v N 0 fuel f (by omega) (by unfold fuel; omega) (fun i hi => absurd hi (by omega))
theorem ffinit (t : Int32) : ∃ g, P_Ff_init t = some (g, t) ∧ ∀ i, i < 8 → g i = -1 := by
  obtain ⟨g, e, hg⟩ := fillI_0 8 (by omega) (fun _ => 0) (-1)
  refine ⟨g, ?_, hg⟩
  unfold P_Ff_init
  rw [e]
  rfl
theorem two0 (f : Nat → Int32) : P_Ff_twoAt 0 f 4 = some 0 := by
  unfold P_Ff_twoAt
  rw [if_neg (by decide), if_neg (by decide)]
theorem dir0 (f s z : Nat → Int32) : P_Ff_readDirectory 0 f s z = some (0, s, z) := by
  unfold P_Ff_readDirectory
  rw [two0, some_bind, if_pos (by decide)]
theorem mdir0 (f s z : Nat → Int32) : P_Mo_directory 0 f s z = some (0, s, z) := by
  unfold P_Mo_directory
  rw [if_pos (by decide)]
theorem ffault0 (o_bytes : Nat) (o_units : Int32) (o_glyphs : Int32) (o_ascent : Int32) (o_descent : Int32) (o_gap : Int32) (o_longLoca : Int32) (o_metrics : Int32) (o_codes : Int32) (o_codesSize : Int32) (o_segments : Int32) (o_pairs : Int32) (o_bytes_f : Nat → Int32) (o_starts_f : Nat → Int32) (o_sizes_f : Nat → Int32) (o_glyphStarts_f : Nat → Int32) (a1_points : Int32) (a1_contours : Int32) (a1_parts : Int32) (a1_xs_f : Nat → Int32) (a1_ys_f : Nat → Int32) (a1_on_f : Nat → Int32) (a1_lasts_f : Nat → Int32) (a1_flags_f : Nat → Int32) (a1_readers_0_bytes : Option Nat) (a1_readers_0_place : Int32) (a1_readers_0_limit : Int32) (a1_readers_0_whole : Int32) (a1_readers_1_bytes : Option Nat) (a1_readers_1_place : Int32) (a1_readers_1_limit : Int32) (a1_readers_1_whole : Int32) (a1_readers_2_bytes : Option Nat) (a1_readers_2_place : Int32) (a1_readers_2_limit : Int32) (a1_readers_2_whole : Int32) (a1_readers_3_bytes : Option Nat) (a1_readers_3_place : Int32) (a1_readers_3_limit : Int32) (a1_readers_3_whole : Int32) (a1_readers_4_bytes : Option Nat) (a1_readers_4_place : Int32) (a1_readers_4_limit : Int32) (a1_readers_4_whole : Int32) (a1_moves_0_glyph : Int32) (a1_moves_0_isLast : Int32) (a1_moves_0_dx : Int32) (a1_moves_0_dy : Int32) (a1_moves_0_a : Int32) (a1_moves_0_b : Int32) (a1_moves_0_c : Int32) (a1_moves_0_d : Int32) (a1_moves_1_glyph : Int32) (a1_moves_1_isLast : Int32) (a1_moves_1_dx : Int32) (a1_moves_1_dy : Int32) (a1_moves_1_a : Int32) (a1_moves_1_b : Int32) (a1_moves_1_c : Int32) (a1_moves_1_d : Int32) (a1_moves_2_glyph : Int32) (a1_moves_2_isLast : Int32) (a1_moves_2_dx : Int32) (a1_moves_2_dy : Int32) (a1_moves_2_a : Int32) (a1_moves_2_b : Int32) (a1_moves_2_c : Int32) (a1_moves_2_d : Int32) (a1_moves_3_glyph : Int32) (a1_moves_3_isLast : Int32) (a1_moves_3_dx : Int32) (a1_moves_3_dy : Int32) (a1_moves_3_a : Int32) (a1_moves_3_b : Int32) (a1_moves_3_c : Int32) (a1_moves_3_d : Int32) : P_Ff_fault o_bytes 0 o_units o_glyphs o_ascent o_descent o_gap o_longLoca o_metrics o_codes o_codesSize o_segments o_pairs o_bytes_f o_starts_f o_sizes_f o_glyphStarts_f a1_points a1_contours a1_parts a1_xs_f a1_ys_f a1_on_f a1_lasts_f a1_flags_f a1_readers_0_bytes a1_readers_0_place a1_readers_0_limit a1_readers_0_whole a1_readers_1_bytes a1_readers_1_place a1_readers_1_limit a1_readers_1_whole a1_readers_2_bytes a1_readers_2_place a1_readers_2_limit a1_readers_2_whole a1_readers_3_bytes a1_readers_3_place a1_readers_3_limit a1_readers_3_whole a1_readers_4_bytes a1_readers_4_place a1_readers_4_limit a1_readers_4_whole a1_moves_0_glyph a1_moves_0_isLast a1_moves_0_dx a1_moves_0_dy a1_moves_0_a a1_moves_0_b a1_moves_0_c a1_moves_0_d a1_moves_1_glyph a1_moves_1_isLast a1_moves_1_dx a1_moves_1_dy a1_moves_1_a a1_moves_1_b a1_moves_1_c a1_moves_1_d a1_moves_2_glyph a1_moves_2_isLast a1_moves_2_dx a1_moves_2_dy a1_moves_2_a a1_moves_2_b a1_moves_2_c a1_moves_2_d a1_moves_3_glyph a1_moves_3_isLast a1_moves_3_dx a1_moves_3_dy a1_moves_3_a a1_moves_3_b a1_moves_3_c a1_moves_3_d = some (1, o_units, o_glyphs, o_ascent, o_descent, o_gap, o_longLoca, o_metrics, o_codes, o_codesSize, o_segments, o_pairs, o_starts_f, o_sizes_f, o_glyphStarts_f, a1_points, a1_contours, a1_parts, a1_xs_f, a1_ys_f, a1_on_f, a1_lasts_f, a1_flags_f, a1_readers_0_bytes, a1_readers_0_place, a1_readers_0_limit, a1_readers_0_whole, a1_readers_1_bytes, a1_readers_1_place, a1_readers_1_limit, a1_readers_1_whole, a1_readers_2_bytes, a1_readers_2_place, a1_readers_2_limit, a1_readers_2_whole, a1_readers_3_bytes, a1_readers_3_place, a1_readers_3_limit, a1_readers_3_whole, a1_readers_4_bytes, a1_readers_4_place, a1_readers_4_limit, a1_readers_4_whole, a1_moves_0_glyph, a1_moves_0_isLast, a1_moves_0_dx, a1_moves_0_dy, a1_moves_0_a, a1_moves_0_b, a1_moves_0_c, a1_moves_0_d, a1_moves_1_glyph, a1_moves_1_isLast, a1_moves_1_dx, a1_moves_1_dy, a1_moves_1_a, a1_moves_1_b, a1_moves_1_c, a1_moves_1_d, a1_moves_2_glyph, a1_moves_2_isLast, a1_moves_2_dx, a1_moves_2_dy, a1_moves_2_a, a1_moves_2_b, a1_moves_2_c, a1_moves_2_d, a1_moves_3_glyph, a1_moves_3_isLast, a1_moves_3_dx, a1_moves_3_dy, a1_moves_3_a, a1_moves_3_b, a1_moves_3_c, a1_moves_3_d) := by
  unfold P_Ff_fault
  rw [dir0]
  rfl
theorem gfont0 (o_tape : Nat) (o_tapeLength : Int32) (o_tape_f : Nat → Int32) (o_shape_points : Int32) (o_shape_contours : Int32) (o_shape_parts : Int32) (o_shape_xs_f : Nat → Int32) (o_shape_ys_f : Nat → Int32) (o_shape_on_f : Nat → Int32) (o_shape_lasts_f : Nat → Int32) (o_shape_flags_f : Nat → Int32) (o_shape_readers_0_bytes : Option Nat) (o_shape_readers_0_place : Int32) (o_shape_readers_0_limit : Int32) (o_shape_readers_0_whole : Int32) (o_shape_readers_1_bytes : Option Nat) (o_shape_readers_1_place : Int32) (o_shape_readers_1_limit : Int32) (o_shape_readers_1_whole : Int32) (o_shape_readers_2_bytes : Option Nat) (o_shape_readers_2_place : Int32) (o_shape_readers_2_limit : Int32) (o_shape_readers_2_whole : Int32) (o_shape_readers_3_bytes : Option Nat) (o_shape_readers_3_place : Int32) (o_shape_readers_3_limit : Int32) (o_shape_readers_3_whole : Int32) (o_shape_readers_4_bytes : Option Nat) (o_shape_readers_4_place : Int32) (o_shape_readers_4_limit : Int32) (o_shape_readers_4_whole : Int32) (o_shape_moves_0_glyph : Int32) (o_shape_moves_0_isLast : Int32) (o_shape_moves_0_dx : Int32) (o_shape_moves_0_dy : Int32) (o_shape_moves_0_a : Int32) (o_shape_moves_0_b : Int32) (o_shape_moves_0_c : Int32) (o_shape_moves_0_d : Int32) (o_shape_moves_1_glyph : Int32) (o_shape_moves_1_isLast : Int32) (o_shape_moves_1_dx : Int32) (o_shape_moves_1_dy : Int32) (o_shape_moves_1_a : Int32) (o_shape_moves_1_b : Int32) (o_shape_moves_1_c : Int32) (o_shape_moves_1_d : Int32) (o_shape_moves_2_glyph : Int32) (o_shape_moves_2_isLast : Int32) (o_shape_moves_2_dx : Int32) (o_shape_moves_2_dy : Int32) (o_shape_moves_2_a : Int32) (o_shape_moves_2_b : Int32) (o_shape_moves_2_c : Int32) (o_shape_moves_2_d : Int32) (o_shape_moves_3_glyph : Int32) (o_shape_moves_3_isLast : Int32) (o_shape_moves_3_dx : Int32) (o_shape_moves_3_dy : Int32) (o_shape_moves_3_a : Int32) (o_shape_moves_3_b : Int32) (o_shape_moves_3_c : Int32) (o_shape_moves_3_d : Int32) (h0 : o_tapeLength = 0) : P_Gp_font_bad o_tape o_tapeLength o_tape_f o_shape_points o_shape_contours o_shape_parts o_shape_xs_f o_shape_ys_f o_shape_on_f o_shape_lasts_f o_shape_flags_f o_shape_readers_0_bytes o_shape_readers_0_place o_shape_readers_0_limit o_shape_readers_0_whole o_shape_readers_1_bytes o_shape_readers_1_place o_shape_readers_1_limit o_shape_readers_1_whole o_shape_readers_2_bytes o_shape_readers_2_place o_shape_readers_2_limit o_shape_readers_2_whole o_shape_readers_3_bytes o_shape_readers_3_place o_shape_readers_3_limit o_shape_readers_3_whole o_shape_readers_4_bytes o_shape_readers_4_place o_shape_readers_4_limit o_shape_readers_4_whole o_shape_moves_0_glyph o_shape_moves_0_isLast o_shape_moves_0_dx o_shape_moves_0_dy o_shape_moves_0_a o_shape_moves_0_b o_shape_moves_0_c o_shape_moves_0_d o_shape_moves_1_glyph o_shape_moves_1_isLast o_shape_moves_1_dx o_shape_moves_1_dy o_shape_moves_1_a o_shape_moves_1_b o_shape_moves_1_c o_shape_moves_1_d o_shape_moves_2_glyph o_shape_moves_2_isLast o_shape_moves_2_dx o_shape_moves_2_dy o_shape_moves_2_a o_shape_moves_2_b o_shape_moves_2_c o_shape_moves_2_d o_shape_moves_3_glyph o_shape_moves_3_isLast o_shape_moves_3_dx o_shape_moves_3_dy o_shape_moves_3_a o_shape_moves_3_b o_shape_moves_3_c o_shape_moves_3_d = some (1, 0, o_shape_points, o_shape_contours, o_shape_parts, o_shape_xs_f, o_shape_ys_f, o_shape_on_f, o_shape_lasts_f, o_shape_flags_f, o_shape_readers_0_bytes, o_shape_readers_0_place, o_shape_readers_0_limit, o_shape_readers_0_whole, o_shape_readers_1_bytes, o_shape_readers_1_place, o_shape_readers_1_limit, o_shape_readers_1_whole, o_shape_readers_2_bytes, o_shape_readers_2_place, o_shape_readers_2_limit, o_shape_readers_2_whole, o_shape_readers_3_bytes, o_shape_readers_3_place, o_shape_readers_3_limit, o_shape_readers_3_whole, o_shape_readers_4_bytes, o_shape_readers_4_place, o_shape_readers_4_limit, o_shape_readers_4_whole, o_shape_moves_0_glyph, o_shape_moves_0_isLast, o_shape_moves_0_dx, o_shape_moves_0_dy, o_shape_moves_0_a, o_shape_moves_0_b, o_shape_moves_0_c, o_shape_moves_0_d, o_shape_moves_1_glyph, o_shape_moves_1_isLast, o_shape_moves_1_dx, o_shape_moves_1_dy, o_shape_moves_1_a, o_shape_moves_1_b, o_shape_moves_1_c, o_shape_moves_1_d, o_shape_moves_2_glyph, o_shape_moves_2_isLast, o_shape_moves_2_dx, o_shape_moves_2_dy, o_shape_moves_2_a, o_shape_moves_2_b, o_shape_moves_2_c, o_shape_moves_2_d, o_shape_moves_3_glyph, o_shape_moves_3_isLast, o_shape_moves_3_dx, o_shape_moves_3_dy, o_shape_moves_3_a, o_shape_moves_3_b, o_shape_moves_3_c, o_shape_moves_3_d) := by
  subst h0
  obtain ⟨q, hq, _⟩ := ffinit 0
  unfold P_Gp_font_bad
  rw [hq, some_bind]
  dsimp only [unp]
  rw [ffault0]
  rfl
theorem mfont0 (o_tapeLength : Int32) (o_at : Int32) (o_end : Int32) (o_good : Int32) (o_tape_f : Nat → Int32) (o_flag_f : Nat → Int32) (o_spare_size : Int32) (o_spare_units : Int32) (o_spare_form : Int32) (o_spare_glyphs : Int32) (o_spare_ascent : Int32) (o_spare_descent : Int32) (o_spare_gap : Int32) (o_spare_metrics : Int32) (o_spare_map : Int32) (o_spare_mapLength : Int32) (o_spare_segments : Int32) (o_spare_file_f : Nat → Int32) (o_spare_at_f : Nat → Int32) (o_spare_length_f : Nat → Int32) (o_spare_done_f : Nat → Int32) (o_spare_depth_f : Nat → Int32) (o_spare_parts_f : Nat → Int32) (o_spare_contours_f : Nat → Int32) (o_spare_points_f : Nat → Int32) (o_spare_x_f : Nat → Int32) (o_spare_y_f : Nat → Int32) (o_spare_on_f : Nat → Int32) (o_spare_contour_f : Nat → Int32) (h0 : o_tapeLength = 0) : P_Mo_font_badN o_tapeLength o_at o_end o_good o_tape_f o_flag_f o_spare_size o_spare_units o_spare_form o_spare_glyphs o_spare_ascent o_spare_descent o_spare_gap o_spare_metrics o_spare_map o_spare_mapLength o_spare_segments o_spare_file_f o_spare_at_f o_spare_length_f o_spare_done_f o_spare_depth_f o_spare_parts_f o_spare_contours_f o_spare_points_f o_spare_x_f o_spare_y_f o_spare_on_f o_spare_contour_f = some (1, 0, o_at, o_end, o_good, o_flag_f, 0, o_spare_units, o_spare_form, o_spare_glyphs, o_spare_ascent, o_spare_descent, o_spare_gap, o_spare_metrics, o_spare_map, o_spare_mapLength, o_spare_segments, o_spare_file_f, o_spare_at_f, o_spare_length_f, o_spare_done_f, o_spare_depth_f, o_spare_parts_f, o_spare_contours_f, o_spare_points_f, o_spare_x_f, o_spare_y_f, o_spare_on_f, o_spare_contour_f) := by
  subst h0
  unfold P_Mo_font_badN P_Mo_font_badN_15
  show lp (L_Mo_font_badN_15 _) (99999 + 1) _ = _
  rw [e_Mo_font_badN_15]
  unfold P_Mo_font_badN_15b
  rw [if_pos (by decide), mdir0]
  rfl
def X1 (iv : Nat → Int32) : Prop := iv 0 = 0
theorem stepN_font1 (J : LInv) : StepN_font (InvN X1) J := by
  intro j iv jv av lw ov nv ad a1 a2 a3 a4 a5 hj hI
  have hj0 : j = 0 := by omega
  subst hj0
  have h0 : iv 0 = 0 := hI.2 rfl
  obtain ⟨⟨⟨n, hn, e0, e66, ht⟩, hr⟩, _⟩ := hI
  have h66 : iv 66 = 0 := by rw [e66, ← e0, h0]
  exact Or.inl ⟨_, _, _, _, _, _, _, _, _, _, _, _, _, _, _, _, _, _, _, _, _, _, _, _, _, _, _, _, _, _, _, _, _, _, _, _, _, _, _, _, _, _, _, _, _, _, _, _, _, _, _, _, _, _, _, _, _, _, _, _, _, _, gfont0 _ _ _ _ _ _ _ _ _ _ _ _ _ _ _ _ _ _ _ _ _ _ _ _ _ _ _ _ _ _ _ _ _ _ _ _ _ _ _ _ _ _ _ _ _ _ _ _ _ _ _ _ _ _ _ _ _ _ _ _ _ _ _ h0, by decide, _, _, _, _, _, _, _, _, _, _, _, _, _, _, _, _, _, _, _, _, _, _, _, _, _, _, _, _, mfont0 _ _ _ _ _ _ _ _ _ _ _ _ _ _ _ _ _ _ _ _ _ _ _ _ _ _ _ _ _ h66, ⟨⟨0, by omega, rfl, rfl, fun k hk => absurd hk (by omega)⟩, hr⟩, nx⟩
def IF0 : LInv := fun _ _ _ _ _ _ => False
theorem stepF_feed0 (I : LInv) : StepF_feed I IF0 := by
  intro j iv jv av lw ov nv ad a1 a2 a3 a4 a5 hj h
  exact False.elim h
theorem stepF_end0 (I : LInv) : StepF_end I IF0 := by
  intro j iv jv av lw ov nv ad a1 a2 a3 a4 a5 hj h
  exact False.elim h
theorem stepF_font0 (I : LInv) : StepF_font I IF0 := by
  intro j iv jv av lw ov nv ad a1 a2 a3 a4 a5 hj h
  exact False.elim h
theorem stepF_size0 (I : LInv) : StepF_size I IF0 := by
  intro j iv jv av lw ov nv ad a1 a2 a3 a4 a5 hj h
  exact False.elim h
theorem stepF_glyph0 (I : LInv) : StepF_glyph I IF0 := by
  intro j iv jv av lw ov nv ad a1 a2 a3 a4 a5 hj h
  exact False.elim h
theorem stepF_metric0 (I : LInv) : StepF_metric I IF0 := by
  intro j iv jv av lw ov nv ad a1 a2 a3 a4 a5 hj h
  exact False.elim h
theorem stepF_look0 (I : LInv) : StepF_look I IF0 := by
  intro j iv jv av lw ov nv ad a1 a2 a3 a4 a5 hj h
  exact False.elim h
theorem stepF_point0 (I : LInv) : StepF_point I IF0 := by
  intro j iv jv av lw ov nv ad a1 a2 a3 a4 a5 hj h
  exact False.elim h
theorem stepF_kern0 (I : LInv) : StepF_kern I IF0 := by
  intro j iv jv av lw ov nv ad a1 a2 a3 a4 a5 hj h
  exact False.elim h
theorem stepF_winding0 (I : LInv) : StepF_winding I IF0 := by
  intro j iv jv av lw ov nv ad a1 a2 a3 a4 a5 hj h
  exact False.elim h
theorem stepF_stamp0 (I : LInv) : StepF_stamp I IF0 := by
  intro j iv jv av lw ov nv ad a1 a2 a3 a4 a5 hj h
  exact False.elim h
theorem stepF_text0 (I : LInv) : StepF_text I IF0 := by
  intro j iv jv av lw ov nv ad a1 a2 a3 a4 a5 hj h
  exact False.elim h
theorem stepF_line0 (I : LInv) : StepF_line I IF0 := by
  intro j iv jv av lw ov nv ad a1 a2 a3 a4 a5 hj h
  exact False.elim h
theorem stepF_pixel0 (I : LInv) : StepF_pixel I IF0 := by
  intro j iv jv av lw ov nv ad a1 a2 a3 a4 a5 hj h
  exact False.elim h
theorem stepF_row0 (I : LInv) : StepF_row I IF0 := by
  intro j iv jv av lw ov nv ad a1 a2 a3 a4 a5 hj h
  exact False.elim h
theorem stepF_inked0 (I : LInv) : StepF_inked I IF0 := by
  intro j iv jv av lw ov nv ad a1 a2 a3 a4 a5 hj h
  exact False.elim h
theorem stepF_clear0 (I : LInv) : StepF_clear I IF0 := by
  intro j iv jv av lw ov nv ad a1 a2 a3 a4 a5 hj h
  exact False.elim h
theorem steps1N : StepsN (InvN X1) IF0 := ⟨stepN_feed _, stepN_end _, stepN_font1 _, stepN_size _, stepN_glyph _, stepN_metric _, stepN_look _, stepN_point _, stepN_kern _, stepN_winding _, stepN_stamp _, stepN_text _, stepN_line _, stepN_pixel _, stepN_row _, stepN_inked _, stepN_clear _, fun j iv jv av lw ov nv ad hj hI => ⟨hI.1, nx⟩⟩
theorem steps1F : StepsF (InvN X1) IF0 := ⟨stepF_feed0 _, stepF_end0 _, stepF_font0 _, stepF_size0 _, stepF_glyph0 _, stepF_metric0 _, stepF_look0 _, stepF_point0 _, stepF_kern0 _, stepF_winding0 _, stepF_stamp0 _, stepF_text0 _, stepF_line0 _, stepF_pixel0 _, stepF_row0 _, stepF_inked0 _, stepF_clear0 _, fun j iv jv av lw ov nv ad hj h => False.elim h⟩
theorem start1 : StartN (InvN X1) := startN (fun _ h => h)
