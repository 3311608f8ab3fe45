/-! PURE ROWS: pixel, inked, clear with a font -/
theorem sh63 : ∀ i, i < 64 → ((nI i).toInt64.toUInt64 &&& Int64.toUInt64 63).toBitVec.toNat % 64 = i ∧ ((nI i).toInt64 &&& 63).toBitVec.smod 64#64 = BitVec.ofNat 64 i := by decide +kernel
theorem bit_x (x : Int64) {i : Nat} (hi : i < 64) : ((((x.toUInt64 >>> ((nI i).toInt64.toUInt64 &&& Int64.toUInt64 63)).toInt64) &&& (1 : Int64)).toInt32) = nI (jN x / 2 ^ i % 2) := by
  have e := jN_shr x _ i (sh63 i hi).1
  generalize ((x.toUInt64 >>> ((nI i).toInt64.toUInt64 &&& Int64.toUInt64 63)).toInt64) = y at e
  rw [← e]
  apply Int32.toBitVec_inj.mp
  apply BitVec.eq_of_toNat_eq
  show ((y &&& 1).toBitVec.signExtend 32).toNat = (BitVec.ofNat 32 (jN y % 2)).toNat
  rw [BitVec.signExtend_eq_setWidth_of_le _ (by decide), BitVec.toNat_setWidth, BitVec.toNat_ofNat]
  rw [show (y &&& 1).toBitVec.toNat = jN (y &&& 1) from rfl, jN_and, show jN (1 : Int64) = 2 ^ 1 - 1 from rfl, Nat.and_two_pow_sub_one_eq_mod]
theorem bit_m (x : Int64) {i : Nat} (hi : i < 64) : (((x >>> ((nI i).toInt64 &&& 63)) &&& (1 : Int64)).toInt32) = nI (jN x / 2 ^ i % 2) := by
  apply Int32.toBitVec_inj.mp
  apply BitVec.eq_of_toNat_eq
  show (((x >>> ((nI i).toInt64 &&& 63)) &&& 1).toBitVec.signExtend 32).toNat = (BitVec.ofNat 32 (jN x / 2 ^ i % 2)).toNat
  rw [BitVec.signExtend_eq_setWidth_of_le _ (by decide), BitVec.toNat_setWidth, BitVec.toNat_ofNat]
  have e : (x >>> ((nI i).toInt64 &&& 63)).toBitVec = x.toBitVec.sshiftRight i := by
    rw [Int64.toBitVec_shiftRight, show ((nI i).toInt64 &&& 63).toBitVec.smod 64 = BitVec.ofNat 64 i from (sh63 i hi).2, BitVec.sshiftRight_eq', BitVec.toNat_ofNat, Nat.mod_eq_of_lt (by omega)]
  rw [Int64.toBitVec_and, e, BitVec.toNat_and, show (1 : Int64).toBitVec.toNat = 2 ^ 1 - 1 from rfl, Nat.and_two_pow_sub_one_eq_mod]
  have b : (x.toBitVec.sshiftRight i).toNat % 2 = jN x / 2 ^ i % 2 := by
    have h1 : (x.toBitVec.sshiftRight i).getLsbD 0 = x.toBitVec.getLsbD i := by
      rw [BitVec.getLsbD_sshiftRight]; simp [hi]
    unfold BitVec.getLsbD at h1
    rw [Nat.testBit_zero, Nat.testBit_eq_decide_div_mod_eq] at h1
    unfold jN
    have h3 : ((x.toBitVec.sshiftRight i).toNat % 2 = 1) ↔ (x.toBitVec.toNat / 2 ^ i % 2 = 1) := decide_eq_decide.mp h1
    omega
  rw [show (2 : Nat) ^ 1 = 2 from rfl, b]
theorem pix_b {w h : Nat} (hw : w ≤ 64) (hh : h ≤ 64) {f g : Nat → Int64} (hf : ∀ k, k < h → f k = g k) (a1 a2 : Int32) : ∃ r, P_Gp_pixel (nI w) (nI h) h f a1 a2 = some r ∧ P_Mo_pixel (nI w) (nI h) g a1 a2 = some r := by
  unfold P_Gp_pixel P_Mo_pixel
  by_cases c1 : a1 < 0
  · exact ⟨_, if_pos c1, if_pos c1⟩
  rw [if_neg c1, if_neg c1]
  by_cases c2 : nI w ≤ a1
  · exact ⟨_, if_pos c2, if_pos c2⟩
  rw [if_neg c2, if_neg c2]
  by_cases c3 : a2 < 0
  · exact ⟨_, if_pos c3, if_pos c3⟩
  rw [if_neg c3, if_neg c3]
  by_cases c4 : a2 < nI h
  · rw [if_pos c4, if_pos c4]
    obtain ⟨k, hk, rfl⟩ := nI_of c3
    obtain ⟨i, hi, rfl⟩ := nI_of c1
    have hkh : k < h := (nI_ltI hk (by omega)).mp c4
    have hiw : i < w := by
      rcases Nat.lt_or_ge i w with q | q
      · exact q
      · exact absurd (nI_le q (by omega)) c2
    rw [bdI hkh (by omega), bdI (show k < 64 by omega) (by omega), nI_clamp hk, hf k hkh, bit_x _ (show i < 64 by omega), bit_m _ (show i < 64 by omega)]
    exact ⟨_, rfl, rfl⟩
  · exact ⟨_, if_neg c4, if_neg c4⟩
theorem pix_v {w h : Nat} (hw : w ≤ 64) (hh : h ≤ 64) (g : Nat → Int64) {i k : Nat} (hi : i < w) (hk : k < h) : P_Mo_pixel (nI w) (nI h) g (nI i) (nI k) = some (nI (jN (g k) / 2 ^ i % 2)) := by
  unfold P_Mo_pixel
  rw [if_neg (nI_pos (by omega)), if_neg (nI_ge hi (by omega)), if_neg (nI_pos (by omega)), if_pos (nI_lt hk (by omega)), bdI (show k < 64 by omega) (by omega), nI_clamp (by omega), bit_m _ (show i < 64 by omega)]
def pcs (g : Nat → Int64) (w : Nat) : Nat → Nat
  | 0 => 0
  | k + 1 => pcs g w k + pc (jN (g k)) w
theorem pcs_le (g : Nat → Int64) (w k : Nat) : pcs g w k ≤ k * w := by
  induction k with
  | zero => exact Nat.zero_le _
  | succ k ih =>
    have := pc_le (jN (g k)) w
    show pcs g w k + _ ≤ _
    rw [Nat.succ_mul]; omega
theorem pcs_4096 {w h k : Nat} (hw : w ≤ 64) (hh : h ≤ 64) (hk : k ≤ h) (g : Nat → Int64) : pcs g w k ≤ 4096 := by
  have h1 := pcs_le g w k
  have h2 : k * w ≤ 64 * 64 := Nat.mul_le_mul (by omega) hw
  omega
theorem cs_v {w h : Nat} (hw : w ≤ 64) (hh : h ≤ 64) {f g : Nat → Int64} (hf : ∀ k, k < h → f k = g k ∧ (f k).toBitVec.toNat < 2 ^ w) : ∀ (d k m : Nat), k + d = h → d < m → lp (L_Pg_countSet_4 (nI h) h f) m (nI (pcs g w k), nI k) = some (nI (pcs g w h)) := by
  intro d
  induction d with
  | zero =>
    intro k m hk hm
    obtain ⟨m, rfl⟩ := suc_of hm
    rw [e_Pg_countSet_4]
    unfold P_Pg_countSet_4b
    rw [if_pos (nI_le (by omega) (by omega)), show k = h by omega]
  | succ d ih =>
    intro k m hk hm
    obtain ⟨m, rfl⟩ := suc_of hm
    have hkh : k < h := by omega
    rw [e_Pg_countSet_4]
    unfold P_Pg_countSet_4b
    rw [if_neg (nI_ge (by omega) (by omega)), bdI hkh (by omega), nI_clamp (by omega), bc_v, some_bind]
    have e : pc (jN (f k)) 64 = pc (jN (g k)) w := (pc_w hw (hf k hkh).2).trans (by rw [(hf k hkh).1]; rfl)
    rw [e, nI_1, nI_add]
    exact ih (k + 1) m (by omega) (by omega)
theorem mi_in {w h : Nat} (hw : w ≤ 64) (hh : h ≤ 64) (g : Nat → Int64) (z : Int32 × Int32 → Option Int32) {k : Nat} (hk : k < h) (a : Nat) : ∀ (d i m : Nat), i + d = w → d < m → lp (L_Mo_inked_14 (nI w) (nI h) g z) m (nI (a + pc (jN (g k)) i), nI k, nI i) = z (nI (a + pc (jN (g k)) w), nI (k + 1)) := by
  intro d
  induction d with
  | zero =>
    intro i m hi hm
    obtain ⟨m, rfl⟩ := suc_of hm
    rw [e_Mo_inked_14]
    unfold P_Mo_inked_14b
    rw [if_pos (nI_le (by omega) (by omega)), nI_1, show i = w by omega]
  | succ d ih =>
    intro i m hi hm
    obtain ⟨m, rfl⟩ := suc_of hm
    rw [e_Mo_inked_14]
    unfold P_Mo_inked_14b
    rw [if_neg (nI_ge (by omega) (by omega)), pix_v hw hh g (show i < w by omega) hk, some_bind, nI_1, nI_add, Nat.add_assoc]
    exact ih (i + 1) m (by omega) (by omega)
theorem mi_v {w h : Nat} (hw : w ≤ 64) (hh : h ≤ 64) (g : Nat → Int64) : ∀ (d k m : Nat), k + d = h → d < m → lp (L_Mo_inked_4 (nI w) (nI h) g) m (nI (pcs g w k), nI k) = some (nI (pcs g w h)) := by
  intro d
  induction d with
  | zero =>
    intro k m hk hm
    obtain ⟨m, rfl⟩ := suc_of hm
    rw [e_Mo_inked_4]
    unfold P_Mo_inked_4b
    rw [if_pos (nI_le (by omega) (by omega)), show k = h by omega]
  | succ d ih =>
    intro k m hk hm
    obtain ⟨m, rfl⟩ := suc_of hm
    rw [e_Mo_inked_4]
    unfold P_Mo_inked_4b P_Mo_inked_14
    rw [if_neg (nI_ge (by omega) (by omega))]
    have e := mi_in hw hh g (lp (L_Mo_inked_4 (nI w) (nI h) g) m) (show k < h by omega) (pcs g w k) w 0 fuel (by omega) (by unfold fuel; omega)
    exact e.trans (ih (k + 1) m (by omega) (by omega))
theorem ink_b {w h : Nat} (hw : w ≤ 64) (hh : h ≤ 64) {f g : Nat → Int64} (hf : ∀ k, k < h → f k = g k ∧ (f k).toBitVec.toNat < 2 ^ w) : P_Pg_countSet (nI h) h f = some (nI (pcs g w h)) ∧ P_Mo_inked (nI w) (nI h) g = some (nI (pcs g w h)) :=
  ⟨cs_v hw hh hf h 0 fuel (by omega) (by unfold fuel; omega), mi_v hw hh g h 0 fuel (by omega) (by unfold fuel; omega)⟩
theorem stepF_pixel (X : LInv) : StepF_pixel X InvF := by
  intro j iv jv av lw ov nv ad a1 a2 a3 a4 a5 hj hI
  obtain ⟨w, h, ⟨_, hw, _, hh⟩, e1, e2, e3, e4, n0, n1, hk⟩ := hI.2.2.1
  obtain ⟨r, p1, p2⟩ := pix_b hw hh (fun k q => (hk k q).1) a1 a2
  refine ⟨r, ?_, ?_, hI⟩
  · rw [e1, e2, n0]; exact p1
  · rw [e3, e4]; exact p2
theorem stepF_inked (X : LInv) : StepF_inked X InvF := by
  intro j iv jv av lw ov nv ad a1 a2 a3 a4 a5 hj hI
  obtain ⟨w, h, ⟨_, hw, _, hh⟩, e1, e2, e3, e4, n0, n1, hk⟩ := hI.2.2.1
  obtain ⟨p1, p2⟩ := ink_b hw hh hk
  refine ⟨nI (pcs (lw 1) w h), ?_, ?_, hI⟩
  · unfold P_Gp_inked; rw [e2, n0, p1, some_bind]
  · rw [e3, e4]; exact p2
theorem stepF_clear (X : LInv) : StepF_clear X InvF := by
  intro j iv jv av lw ov nv ad a1 a2 a3 a4 a5 hj ⟨ht, hz, ⟨w, h, hb, e1, e2, e3, e4, n0, n1, hk⟩, hl, hr⟩
  obtain ⟨p1, p2⟩ := ink_b hb.2.1 hb.2.2.2 hk
  obtain ⟨g, eg, hg0⟩ := wipe_0 h hb.2.2.2 (lw 0)
  obtain ⟨g', eg', hg0'⟩ := mclr w h hb.2.2.2 (nI (pcs (lw 1) w h)) h 0 fuel (lw 1) (by omega) (by unfold fuel; omega) (fun i hi => absurd hi (by omega))
  refine ⟨nI (pcs (lw 1) w h), g, ?_, g', ?_, ht, hz, ⟨w, h, hb, e1, e2, e3, e4, n0, n1, fun k q => ⟨(hg0 k q).trans (hg0' k q).symm, ?_⟩⟩, hl, hr⟩
  · unfold P_Gp_clear; rw [e2, n0, p1, some_bind, eg, some_bind]
  · unfold P_Mo_clear; rw [e3, e4, p2, some_bind]; exact eg'
  · show (g k).toBitVec.toNat < 2 ^ w
    rw [hg0 k q]; exact Nat.two_pow_pos w
