/-! PURE ROWS: a file's bytes, as class and reference read them -/
theorem bdI {α : Type} {c N : Nat} (h : c < N) (hN : N < 2 ^ 31) (k : Option α) : bd (nI c) N k = k := if_neg (nI_in h hN)
def By (f : Nat → Int32) (p : Nat) : Nat := (f p).toBitVec.toNat % 256
theorem By_lt (f : Nat → Int32) (p : Nat) : By f p < 256 := Nat.mod_lt _ (by decide)
theorem By_and (f : Nat → Int32) (p : Nat) : f p &&& (255 : Int32) = nI (By f p) := pk_and (f p) 8 (by decide)
def W2 (f : Nat → Int32) (p : Nat) : Nat := By f p * 256 + By f (p + 1)
theorem W2_lt (f : Nat → Int32) (p : Nat) : W2 f p < 65536 := by
  have := By_lt f p
  have := By_lt f (p + 1)
  unfold W2; omega
def W4 (f : Nat → Int32) (p : Nat) : Nat := W2 f p * 65536 + W2 f (p + 2)
theorem W4_lt (f : Nat → Int32) (p : Nat) : W4 f p < 4294967296 := by
  have := W2_lt f p
  have := W2_lt f (p + 2)
  unfold W4; omega
theorem nI_or {a b : Nat} (k : Nat) (hb : b < 2 ^ k) : nI (a * 2 ^ k) ||| nI b = nI (a * 2 ^ k + b) := by
  rw [← Nat.shiftLeft_eq, Nat.shiftLeft_add_eq_or_of_lt hb]
  apply Int32.toBitVec_inj.mp
  exact (BitVec.ofNat_or ..).symm
theorem lN_or {a b : Nat} (k : Nat) (hb : b < 2 ^ k) : lN (a * 2 ^ k) ||| lN b = lN (a * 2 ^ k + b) := by
  rw [← Nat.shiftLeft_eq, Nat.shiftLeft_add_eq_or_of_lt hb]
  apply Int64.toBitVec_inj.mp
  exact (BitVec.ofNat_or ..).symm
theorem lN_shl16 (n : Nat) : lN n <<< ((16 : Int32).toInt64 &&& 63) = lN (n * 2 ^ 16) := by
  apply Int64.toBitVec_inj.mp
  rw [Int64.toBitVec_shiftLeft, show (((16 : Int32).toInt64 &&& 63).toBitVec.smod 64) = 16#64 from by decide]
  apply BitVec.eq_of_toNat_eq
  show (BitVec.ofNat 64 n <<< 16#64).toNat = (BitVec.ofNat 64 (n * 2 ^ 16)).toNat
  simp [Nat.shiftLeft_eq]
theorem w2_val (f : Nat → Int32) (p : Nat) : ((f p &&& (255 : Int32)) <<< ((8 : Int32) &&& 31)) ||| (f (p + 1) &&& (255 : Int32)) = nI (W2 f p) := by
  rw [By_and, By_and, pk_shlN (n := By f p) ((8 : Int32) &&& 31) 8 (by decide) (by have := By_lt f p; omega)]
  exact nI_or 8 (By_lt f (p + 1))
def tAt (n : Nat) (f : Nat → Int32) (p : Nat) : Nat := if p + 1 < n then W2 f p else 0
theorem tAt_lt (n : Nat) (f : Nat → Int32) (p : Nat) : tAt n f p < 65536 := by
  unfold tAt
  split
  · exact W2_lt f p
  · decide
theorem tAt_in {n p : Nat} (f : Nat → Int32) (h : p + 1 < n) : tAt n f p = W2 f p := if_pos h
def fAt (n : Nat) (f : Nat → Int32) (p : Nat) : Nat := tAt n f p * 65536 + tAt n f (p + 2)
theorem fAt_lt (n : Nat) (f : Nat → Int32) (p : Nat) : fAt n f p < 4294967296 := by
  have := tAt_lt n f p
  have := tAt_lt n f (p + 2)
  unfold fAt; omega
theorem fAt_in {n p : Nat} (f : Nat → Int32) (h : p + 3 < n) : fAt n f p = W4 f p := by
  unfold fAt W4
  rw [tAt_in f (by omega), tAt_in f (by omega)]
theorem tw {n p : Nat} (hn : n ≤ 4096) (hp : p < 2 ^ 30) (f : Nat → Int32) : P_Ff_twoAt (nI n) f (nI p) = some (nI (tAt n f p)) := by
  unfold P_Ff_twoAt tAt
  rw [if_neg (nI_pos (by omega)), nI_1]
  by_cases h : p + 1 < n
  · rw [if_pos (nI_lt h (by omega)), if_pos h]
    unfold bd
    rw [if_neg (nI_in (by omega) (by omega)), if_neg (nI_in (by omega) (by omega)), nI_clamp (by omega), nI_clamp (by omega), w2_val]
  · rw [if_neg (nI_nlt (by omega) (by omega)), if_neg h]; rfl
theorem mtw {p : Nat} (hp : p + 1 < 4096) (f : Nat → Int32) : P_Mf_two f (nI p) = some (nI (W2 f p)) := by
  unfold P_Mf_two
  rw [nI_1]
  unfold bd
  rw [if_neg (nI_in (by omega) (by omega)), if_neg (nI_in (by omega) (by omega)), nI_clamp (by omega), nI_clamp (by omega), w2_val]
theorem mon {p : Nat} (hp : p < 4096) (f : Nat → Int32) : P_Mf_one f (nI p) = some (nI (By f p)) := by
  unfold P_Mf_one
  unfold bd
  rw [if_neg (nI_in (by omega) (by omega)), nI_clamp (by omega), By_and]
theorem mfo {p : Nat} (hp : p + 3 < 4096) (f : Nat → Int32) : P_Mf_four f (nI p) = some (nI (W4 f p)) := by
  unfold P_Mf_four
  rw [show (2 : Int32) = nI 2 from rfl, nI_add, mtw (by omega), mtw (by omega)]
  show some ((nI (W2 f p) <<< ((16 : Int32) &&& 31)) ||| nI (W2 f (p + 2))) = _
  rw [pk_shlN ((16 : Int32) &&& 31) 16 (by decide) (by have := W2_lt f p; omega), nI_or 16 (W2_lt f (p + 2))]
  rfl
theorem mbg {p : Nat} (hp : p + 3 < 4096) (f : Nat → Int32) : P_Mf_big f (nI p) = some (lN (W4 f p)) := by
  unfold P_Mf_big
  rw [show (2 : Int32) = nI 2 from rfl, nI_add, mtw (by omega), mtw (by omega)]
  show some (((nI (W2 f p)).toInt64 <<< ((16 : Int32).toInt64 &&& 63)) ||| (nI (W2 f (p + 2))).toInt64) = _
  have := W2_lt f p
  have := W2_lt f (p + 2)
  rw [nI_l (by omega), nI_l (by omega), lN_shl16, lN_or 16 (W2_lt f (p + 2))]
  rfl
theorem fo {n p : Nat} (hn : n ≤ 4096) (hp : p + 2 < 2 ^ 30) (f : Nat → Int32) : P_Ff_fourAt (nI n) f (nI p) = some (lN (fAt n f p)) := by
  unfold P_Ff_fourAt
  rw [show (2 : Int32) = nI 2 from rfl, nI_add, tw hn (by omega), tw hn (by omega)]
  show some (((nI (tAt n f p)).toInt64 <<< ((16 : Int32).toInt64 &&& 63)) ||| (nI (tAt n f (p + 2))).toInt64) = _
  have := tAt_lt n f p
  have := tAt_lt n f (p + 2)
  rw [nI_l (by omega), nI_l (by omega), lN_shl16, lN_or 16 (tAt_lt n f (p + 2))]
  rfl
def s16 (v : Nat) : Int32 := (nI v).toInt16.toInt32
theorem sg {n p : Nat} (hn : n ≤ 4096) (hp : p < 2 ^ 30) (f : Nat → Int32) : P_Ff_signedAt (nI n) f (nI p) = some (s16 (tAt n f p)) := by
  unfold P_Ff_signedAt
  rw [tw hn hp]
  rfl
theorem msg {p : Nat} (hp : p + 1 < 4096) (f : Nat → Int32) : P_Mf_signed f (nI p) = some (s16 (W2 f p)) := by
  unfold P_Mf_signed
  rw [mtw hp]
  rfl
def Agr (n : Nat) (f g : Nat → Int32) : Prop := ∀ k, k < n → f k = g k
theorem Agr.by {n : Nat} {f g : Nat → Int32} (h : Agr n f g) {p : Nat} (hp : p < n) : By g p = By f p := by
  unfold By; rw [h p hp]
theorem Agr.w2 {n : Nat} {f g : Nat → Int32} (h : Agr n f g) {p : Nat} (hp : p + 1 < n) : W2 g p = W2 f p := by
  unfold W2; rw [h.by (by omega), h.by hp]
theorem Agr.w4 {n : Nat} {f g : Nat → Int32} (h : Agr n f g) {p : Nat} (hp : p + 3 < n) : W4 g p = W4 f p := by
  unfold W4; rw [h.w2 (by omega), h.w2 (by omega)]
/-- the reference reads two bytes that lie in the file -/
theorem mtA {n : Nat} {f g : Nat → Int32} (hn : n ≤ 4096) (h : Agr n f g) {p : Nat} (hp : p + 1 < n) : P_Mf_two g (nI p) = some (nI (tAt n f p)) := by
  rw [mtw (by omega), h.w2 hp, tAt_in f hp]
theorem mfA {n : Nat} {f g : Nat → Int32} (hn : n ≤ 4096) (h : Agr n f g) {p : Nat} (hp : p + 3 < n) : P_Mf_four g (nI p) = some (nI (fAt n f p)) := by
  rw [mfo (by omega), h.w4 hp, fAt_in f hp]
theorem mbA {n : Nat} {f g : Nat → Int32} (hn : n ≤ 4096) (h : Agr n f g) {p : Nat} (hp : p + 3 < n) : P_Mf_big g (nI p) = some (lN (fAt n f p)) := by
  rw [mbg (by omega), h.w4 hp, fAt_in f hp]
theorem msA {n : Nat} {f g : Nat → Int32} (hn : n ≤ 4096) (h : Agr n f g) {p : Nat} (hp : p + 1 < n) : P_Mf_signed g (nI p) = some (s16 (tAt n f p)) := by
  rw [msg (by omega), h.w2 hp, tAt_in f hp]
theorem bl0 {α : Type} (k : Option α) : bd (0 : Int32) 8 k = k := if_neg (by decide)
theorem cl0 : (0 : Int32).toNatClampNeg = 0 := by decide
theorem bl1 {α : Type} (k : Option α) : bd (1 : Int32) 8 k = k := if_neg (by decide)
theorem cl1 : (1 : Int32).toNatClampNeg = 1 := by decide
theorem bl2 {α : Type} (k : Option α) : bd (2 : Int32) 8 k = k := if_neg (by decide)
theorem cl2 : (2 : Int32).toNatClampNeg = 2 := by decide
theorem bl3 {α : Type} (k : Option α) : bd (3 : Int32) 8 k = k := if_neg (by decide)
theorem cl3 : (3 : Int32).toNatClampNeg = 3 := by decide
theorem bl4 {α : Type} (k : Option α) : bd (4 : Int32) 8 k = k := if_neg (by decide)
theorem cl4 : (4 : Int32).toNatClampNeg = 4 := by decide
theorem bl5 {α : Type} (k : Option α) : bd (5 : Int32) 8 k = k := if_neg (by decide)
theorem cl5 : (5 : Int32).toNatClampNeg = 5 := by decide
theorem bl6 {α : Type} (k : Option α) : bd (6 : Int32) 8 k = k := if_neg (by decide)
theorem cl6 : (6 : Int32).toNatClampNeg = 6 := by decide
theorem bl7 {α : Type} (k : Option α) : bd (7 : Int32) 8 k = k := if_neg (by decide)
theorem cl7 : (7 : Int32).toNatClampNeg = 7 := by decide
