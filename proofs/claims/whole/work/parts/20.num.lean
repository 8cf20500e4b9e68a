/-! ===== numbers and bits ===== -/
def iI (z : Int) : Int32 := Int32.ofInt z
theorem iI_add (a b : Int) : iI a + iI b = iI (a + b) := (Int32.ofInt_add a b).symm
theorem iI_sub (a b : Int) : iI a - iI b = iI (a - b) := (Int32.ofInt_sub a b).symm
theorem iI_mul (a b : Int) : iI a * iI b = iI (a * b) := (Int32.ofInt_mul a b).symm
theorem iI_neg (a : Int) : -iI a = iI (-a) := (Int32.ofInt_neg a).symm
theorem iI_n (n : Nat) : nI n = iI n := Int32.ofInt_eq_ofNat.symm
theorem iI_of (x : Int32) : x = iI x.toInt := (Int32.ofInt_toInt x).symm
/-- small: no sum of a few leaves the machine's numbers -/
def sm (a : Int) : Prop := -1000000000 ≤ a ∧ a ≤ 1000000000
theorem iI_t {a : Int} (h : sm a) : (iI a).toInt = a := Int32.toInt_ofInt_of_le (by unfold sm at h; omega) (by unfold sm at h; omega)
theorem iI_lt {a b : Int} (ha : sm a) (hb : sm b) : iI a < iI b ↔ a < b := by rw [Int32.lt_iff_toInt_lt, iI_t ha, iI_t hb]
theorem iI_le {a b : Int} (ha : sm a) (hb : sm b) : iI a ≤ iI b ↔ a ≤ b := by rw [Int32.le_iff_toInt_le, iI_t ha, iI_t hb]
theorem iI_eq {a b : Int} (ha : sm a) (hb : sm b) : iI a = iI b ↔ a = b := by rw [← Int32.toInt_inj, iI_t ha, iI_t hb]
theorem iI_c {a : Int} (h : sm a) (h0 : 0 ≤ a) : (iI a).toNatClampNeg = a.toNat := by
  show (iI a).toInt.toNat = a.toNat
  rw [iI_t h]
theorem nI_c {n : Nat} (h : n ≤ 1000000000) : (nI n).toNatClampNeg = n := nI_clamp (by omega)
theorem vin {n N : Nat} (h : n < N) (hN : N ≤ 1000000000) : vp_in (nI n) N := vp_in_nI h (by omega)
theorem n_of {x : Int32} (h : 0 ≤ x.toInt) : ∃ n : Nat, n < 2 ^ 31 ∧ x = nI n := by
  refine ⟨x.toInt.toNat, ?_, ?_⟩
  · have := x.toInt_lt
    omega
  · have e : ((x.toInt.toNat : Nat) : Int) = x.toInt := Int.toNat_of_nonneg h
    rw [iI_n, e]
    exact iI_of x
theorem l0 : (0 : Int32) = iI 0 := rfl
theorem bt_nI {n i : Nat} (hi : i < 32) : (nI n).toBitVec.getLsbD i = n.testBit i := by
  show (BitVec.ofNat 32 n).getLsbD i = n.testBit i
  rw [BitVec.getLsbD_ofNat, decide_eq_true hi, Bool.true_and]
theorem nI_ext {a b : Int32} (h : ∀ i, i < 32 → a.toBitVec.getLsbD i = b.toBitVec.getLsbD i) : a = b := Int32.toBitVec_inj.mp (BitVec.eq_of_getLsbD_eq (fun i hi => h i hi))
theorem nI_and (a b : Nat) : nI a &&& nI b = nI (a &&& b) := by
  apply nI_ext
  intro i hi
  rw [Int32.toBitVec_and, BitVec.getLsbD_and, bt_nI hi, bt_nI hi, bt_nI hi, Nat.testBit_and]
theorem nI_or (a b : Nat) : nI a ||| nI b = nI (a ||| b) := by
  apply nI_ext
  intro i hi
  rw [Int32.toBitVec_or, BitVec.getLsbD_or, bt_nI hi, bt_nI hi, bt_nI hi, Nat.testBit_or]
theorem nI_xor (a b : Nat) : nI a ^^^ nI b = nI (a ^^^ b) := by
  apply nI_ext
  intro i hi
  rw [Int32.toBitVec_xor, BitVec.getLsbD_xor, bt_nI hi, bt_nI hi, bt_nI hi, Nat.testBit_xor]
/-- a without b -/
def dif (a b : Nat) : Nat := a ^^^ (a &&& b)
theorem dif_b (a b i : Nat) : (dif a b).testBit i = (a.testBit i && !b.testBit i) := by
  unfold dif
  rw [Nat.testBit_xor, Nat.testBit_and]
  cases a.testBit i <;> cases b.testBit i <;> rfl
theorem nI_dif (a b : Nat) : nI a &&& (nI b ^^^ (-1)) = nI (dif a b) := by
  apply nI_ext
  intro i hi
  rw [Int32.toBitVec_and, BitVec.getLsbD_and, Int32.toBitVec_xor, BitVec.getLsbD_xor, bt_nI hi, bt_nI hi, bt_nI hi, dif_b]
  have : (-1 : Int32).toBitVec.getLsbD i = true := (by decide +kernel : ∀ i, i < 32 → (-1 : Int32).toBitVec.getLsbD i = true) i hi
  rw [this]
  cases a.testBit i <;> cases b.testBit i <;> rfl
theorem shc : ∀ n, n < 32 → ((nI n &&& 31).toBitVec.smod 32).toNat = n := by decide +kernel
theorem nI_sh {p : Nat} (hp : p < 31) : (1 : Int32) <<< (nI p &&& 31) = nI (2 ^ p) := by
  have h := pk_shlN (n := 1) (nI p &&& 31) p (shc p (by omega)) (by
    have : 2 ^ p ≤ 2 ^ 30 := Nat.pow_le_pow_right (by decide) (by omega)
    omega)
  rw [Nat.one_mul] at h
  exact h
theorem nI_bit {S p : Nat} (hS : S < 2 ^ 31) (hp : p < 31) : (nI S >>> (nI p &&& 31)) &&& 1 = if S.testBit p then 1 else 0 := by
  rw [pk_shrN hS (nI p &&& 31) p (shc p (by omega))]
  have h2 : S / 2 ^ p < 2 ^ 32 := Nat.lt_of_le_of_lt (Nat.div_le_self _ _) (by omega)
  rw [pk_andN h2 1 (by decide)]
  rw [Nat.testBit_eq_decide_div_mod_eq]
  have : S / 2 ^ p % 2 ^ 1 = 0 ∨ S / 2 ^ p % 2 ^ 1 = 1 := by omega
  rcases this with h | h
  · rw [h, if_neg (fun q => by have := of_decide_eq_true q; omega)]
    rfl
  · rw [h, if_pos (decide_eq_true (by omega))]
    rfl
theorem nI_bit0 {S p : Nat} (hS : S < 2 ^ 31) (hp : p < 31) : (nI S >>> (nI p &&& 31)) &&& 1 = 0 ↔ S.testBit p = false := by
  rw [nI_bit hS hp]
  cases S.testBit p
  · simp
  · simp
theorem nI_bit1 {S p : Nat} (hS : S < 2 ^ 31) (hp : p < 31) : (nI S >>> (nI p &&& 31)) &&& 1 = 1 ↔ S.testBit p = true := by
  rw [nI_bit hS hp]
  cases S.testBit p
  · simp
  · simp
theorem lt_bits {S n : Nat} (h : ∀ i, S.testBit i = true → i < n) : S < 2 ^ n := by
  apply Nat.lt_pow_two_of_testBit
  intro i hi
  cases hb : S.testBit i
  · rfl
  · have := h i hb
    omega
theorem bits_lt {S n i : Nat} (h : S < 2 ^ n) (hb : S.testBit i = true) : i < n := by
  rcases Nat.lt_or_ge i n with q | q
  · exact q
  · rw [Nat.testBit_lt_two_pow (Nat.lt_of_lt_of_le h (Nat.pow_le_pow_right (by decide) q))] at hb
    cases hb
theorem dif_lt {a b n : Nat} (h : a < 2 ^ n) : dif a b < 2 ^ n := lt_bits (fun i hi => by
  rw [dif_b] at hi
  simp only [Bool.and_eq_true] at hi
  exact bits_lt h hi.1)
/-- contains(set, p) -/
theorem w_con {S p : Nat} (hS : S < 2 ^ 31) (hp : p < 31) {σ : MS} {Q : Int32 → MS → Prop} (h0 : S.testBit p = false → Q 0 σ) (h1 : S.testBit p = true → Q 1 σ) : w_X8_contains (nI S) (nI p) σ Q := by
  unfold w_X8_contains w_X8_contains_E
  refine ⟨fun h => h0 ((nI_bit0 hS hp).mp h), fun h => h1 ?_⟩
  cases hb : S.testBit p
  · exact absurd ((nI_bit0 hS hp).mpr hb) h
  · rfl
