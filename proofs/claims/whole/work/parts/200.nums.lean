/-! numbers: every int is J of a number below 2^32; reads of the abstract heap -/
def J (n : Nat) : Int32 := Int32.ofNat n
theorem J_surj (x : Int32) : ∃ n, n < 4294967296 ∧ x = J n := ⟨x.toBitVec.toNat, x.toBitVec.isLt, by
  unfold J
  rw [← Int32.ofBitVec_ofNat, BitVec.ofNat_toNat, BitVec.setWidth_eq, Int32.ofBitVec_toBitVec]⟩
theorem J_inj {a b : Nat} (ha : a < 4294967296) (hb : b < 4294967296) : J a = J b ↔ a = b := by
  constructor
  · intro h
    have h1 : (J a).toBitVec.toNat = (J b).toBitVec.toNat := by rw [h]
    unfold J at h1
    simp only [Int32.toBitVec_ofNat', BitVec.toNat_ofNat] at h1
    omega
  · intro h; rw [h]
theorem J_toInt {a : Nat} (ha : a < 2147483648) : (J a).toInt = a := Int32.toInt_ofNat_of_lt ha
theorem J_toIntN {a : Nat} (h1 : 2147483648 ≤ a) (ha : a < 4294967296) : (J a).toInt = (a : Int) - 4294967296 := by
  unfold J
  rw [Int32.toInt_ofNat', show Int32.size = 4294967296 from rfl, Int.bmod_def]
  split <;> omega
theorem J_lt {a b : Nat} (ha : a < 4294967296) (hb : b < 2147483648) : J a < J b ↔ (2147483648 ≤ a ∨ a < b) := by
  rw [Int32.lt_iff_toInt_lt, J_toInt hb]
  by_cases h : a < 2147483648
  · rw [J_toInt h]; omega
  · rw [J_toIntN (by omega) ha]; omega
theorem J_le {a b : Nat} (ha : a < 2147483648) (hb : b < 4294967296) : J a ≤ J b ↔ (b < 2147483648 ∧ a ≤ b) := by
  rw [Int32.le_iff_toInt_le, J_toInt ha]
  by_cases h : b < 2147483648
  · rw [J_toInt h]; omega
  · rw [J_toIntN (by omega) hb]; omega
theorem J_add (a b : Nat) : J a + J b = J (a + b) := (Int32.ofNat_add a b).symm
theorem J_mul (a b : Nat) : J a * J b = J (a * b) := (Int32.ofNat_mul a b).symm
theorem J_sub {a b : Nat} (h : b ≤ a) : J a - J b = J (a - b) := (Int32.ofNat_sub a b h).symm
theorem J_clamp {a : Nat} (h : a < 2147483648) : (J a).toNatClampNeg = a := Int32.toNatClampNeg_ofNat_of_lt h
theorem J_neg {a : Nat} (h : a < 2147483648) : ¬ J a < 0 := by
  have e : (0 : Int32) = J 0 := rfl
  rw [e, J_lt (by omega) (by omega)]
  omega
theorem J_in {a n : Nat} (h : a < n) (hn : n ≤ 2147483648) : ¬ (J a < 0 ∨ n ≤ (J a).toNatClampNeg) := by
  rw [J_clamp (by omega)]
  intro h9
  rcases h9 with h9 | h9
  · exact J_neg (by omega) h9
  · omega
theorem m1_J : (-1 : Int32) = J 4294967295 := by decide
theorem test1 (a : Nat) (ha : a < 24) : ¬ (24 : Int32) ≤ J a := by
  have e : (24 : Int32) = J 24 := rfl
  simp (disch := omega) only [e, J_le]
  omega
/-! reads -/
theorem aI_at {h : AH} {t a n i : Nat} {f : Nat → Int32} (e : h.1 a = some (.inl (t, n, .inl f))) (hi : i < n) (hn : n ≤ 2147483648) : aI h t a (J i) = some (f i) := by
  unfold aI
  rw [e]
  simp only
  rw [if_pos ⟨trivial, J_in hi hn⟩, J_clamp (by omega)]
theorem sI_at {h : AH} {t a n i : Nat} {f : Nat → Int32} {x : Int32} (e : h.1 a = some (.inl (t, n, .inl f))) (hi : i < n) (hn : n ≤ 2147483648) : sI h t a (J i) x = some (hset h a (.inl (t, n, .inl (upd f i (vp_nar (tyA t) x))))) := by
  unfold sI
  rw [e]
  simp only
  rw [if_pos ⟨trivial, J_in hi hn⟩, J_clamp (by omega)]
theorem gI_at {h : AH} {c a k : Nat} {fs : List Value} {x : Int32} (e : h.1 a = some (.inr (c, fs))) (hk : fs[k]? = some (.int x)) : gI h c a k = some x := by
  unfold gI gF
  rw [e]
  simp only [if_true, hk]
theorem gR_at {h : AH} {c a k : Nat} {fs : List Value} {x : Nat} (e : h.1 a = some (.inr (c, fs))) (hk : fs[k]? = some (.ref x)) : gR h c a k = some x := by
  unfold gR gF
  rw [e]
  simp only [if_true, hk]
theorem hasC_at {h : AH} {c a : Nat} {fs : List Value} (e : h.1 a = some (.inr (c, fs))) : hasC h c a = true := by
  unfold hasC
  rw [e]
  simp
theorem pF_at {h : AH} {c a k : Nat} {fs : List Value} {v : Value} (e : h.1 a = some (.inr (c, fs))) (hk : k < fs.length) : pF h c a k v = some (hset h a (.inr (c, fs.set k v))) := by
  unfold pF
  rw [e]
  simp only
  rw [if_pos ⟨trivial, hk⟩]
theorem aL_at {h : AH} {t a n : Nat} {d : (Nat → Int32) ⊕ (Nat → Int64) ⊕ (Nat → UInt32) ⊕ (Nat → UInt64) ⊕ (Nat → Option Nat)} (e : h.1 a = some (.inl (t, n, d))) : aL h t a = some (J n) := by
  unfold aL
  rw [e]
  simp only [if_true]
  rfl
/-! bits -/
theorem J_bv (n : Nat) : (J n).toBitVec = BitVec.ofNat 32 n := rfl
theorem J_eqbv {x : Int32} {n : Nat} (h : x.toBitVec = BitVec.ofNat 32 n) : x = J n := Int32.toBitVec.inj h
theorem J_and (a b : Nat) : J a &&& J b = J (a &&& b) := J_eqbv (by
  rw [Int32.toBitVec_and, J_bv, J_bv]
  apply BitVec.eq_of_toNat_eq
  simp only [BitVec.toNat_and, BitVec.toNat_ofNat, Nat.and_mod_two_pow])
theorem J_or (a b : Nat) : J a ||| J b = J (a ||| b) := J_eqbv (by
  rw [Int32.toBitVec_or, J_bv, J_bv]
  apply BitVec.eq_of_toNat_eq
  simp only [BitVec.toNat_or, BitVec.toNat_ofNat, Nat.or_mod_two_pow])
theorem J_xor (a b : Nat) : J a ^^^ J b = J (a ^^^ b) := J_eqbv (by
  rw [Int32.toBitVec_xor, J_bv, J_bv]
  apply BitVec.eq_of_toNat_eq
  simp only [BitVec.toNat_xor, BitVec.toNat_ofNat, Nat.xor_mod_two_pow])
theorem sh31 : ∀ p : Nat, p < 32 → ((J p &&& 31).toBitVec.smod 32) = BitVec.ofNat 32 p := by decide +kernel
theorem J_shl (a : Nat) {p : Nat} (hp : p < 32) : J a <<< (J p &&& 31) = J (a <<< p) := J_eqbv (by
  rw [Int32.toBitVec_shiftLeft, sh31 p hp, J_bv]
  apply BitVec.eq_of_toNat_eq
  rw [BitVec.shiftLeft_eq', BitVec.toNat_shiftLeft, BitVec.toNat_ofNat, BitVec.toNat_ofNat, BitVec.toNat_ofNat, Nat.mod_eq_of_lt (a := p) (by omega)]
  rw [Nat.shiftLeft_eq, Nat.shiftLeft_eq, Nat.mul_mod, Nat.mod_mod, ← Nat.mul_mod])
theorem J_shr {a p : Nat} (ha : a < 2147483648) (hp : p < 32) : J a >>> (J p &&& 31) = J (a >>> p) := J_eqbv (by
  rw [Int32.toBitVec_shiftRight, sh31 p hp, J_bv, BitVec.sshiftRight_eq', BitVec.sshiftRight_eq_of_msb_false]
  · apply BitVec.eq_of_toNat_eq
    have : a >>> p ≤ a := Nat.shiftRight_le a p
    rw [BitVec.toNat_ushiftRight, BitVec.toNat_ofNat, BitVec.toNat_ofNat, BitVec.toNat_ofNat, Nat.mod_eq_of_lt (a := p) (by omega), Nat.mod_eq_of_lt (a := a) (by omega), Nat.mod_eq_of_lt (a := a >>> p) (by omega)]
  · rw [BitVec.msb_eq_decide, BitVec.toNat_ofNat, Nat.mod_eq_of_lt (by omega)]
    exact decide_eq_false (by omega))
theorem J_ush {a p : Nat} (ha : a < 4294967296) (hp : p < 32) : jush (J a) (J p) = J (a >>> p) := J_eqbv (by
  unfold jush
  have : a >>> p ≤ a := Nat.shiftRight_le a p
  apply BitVec.eq_of_toNat_eq
  rw [UInt32.toBitVec_toInt32, UInt32.toBitVec_shiftRight]
  have e1 : ((J p).toUInt32 &&& Int32.toUInt32 31).toBitVec = BitVec.ofNat 32 p := by
    have h : ∀ p : Nat, p < 32 → ((J p).toUInt32 &&& Int32.toUInt32 31).toBitVec = BitVec.ofNat 32 p := by decide +kernel
    exact h p hp
  have e2 : (J a).toUInt32.toBitVec = BitVec.ofNat 32 a := rfl
  have e3 : (BitVec.ofNat 32 p).umod 32 = BitVec.ofNat 32 p := by
    have h : ∀ p : Nat, p < 32 → (BitVec.ofNat 32 p).umod 32 = BitVec.ofNat 32 p := by decide +kernel
    exact h p hp
  rw [e1, e2]
  show ((BitVec.ofNat 32 a) >>> ((BitVec.ofNat 32 p).umod 32)).toNat = _
  rw [e3, BitVec.ushiftRight_eq', BitVec.toNat_ushiftRight, BitVec.toNat_ofNat, BitVec.toNat_ofNat, BitVec.toNat_ofNat, Nat.mod_eq_of_lt (a := p) (by omega), Nat.mod_eq_of_lt (a := a) (by omega), Nat.mod_eq_of_lt (a := a >>> p) (by omega)])
theorem bit_1 (a p : Nat) : (a >>> p) &&& 1 = if a.testBit p then 1 else 0 := by
  rw [Nat.testBit, Nat.and_comm (a >>> p) 1, Nat.one_and_eq_mod_two]
  have := Nat.mod_two_eq_zero_or_one (a >>> p)
  rcases this with h | h <;> simp [h]
theorem tb_ush {a p : Nat} (ha : a < 4294967296) (hp : p < 32) : jush (J a) (J p) &&& 1 = 1 ↔ a.testBit p = true := by
  have e : (1 : Int32) = J 1 := rfl
  rw [e, J_ush ha hp, J_and, bit_1]
  split
  · rename_i h; simp [h]
  · rename_i h
    constructor
    · intro h9; rw [J_inj (by omega) (by omega)] at h9; omega
    · intro h9; exact absurd h9 h
theorem tb_shr {a p : Nat} (ha : a < 2147483648) (hp : p < 32) : (J a >>> (J p &&& 31)) &&& 1 = 1 ↔ a.testBit p = true := by
  have e : (1 : Int32) = J 1 := rfl
  rw [e, J_shr ha hp, J_and, bit_1]
  split
  · rename_i h; simp [h]
  · rename_i h
    constructor
    · intro h9; rw [J_inj (by omega) (by omega)] at h9; omega
    · intro h9; exact absurd h9 h
/-- a bit set, a bit cleared -/
def bset (a p : Nat) : Nat := a ||| (1 <<< p)
def bclr (a p : Nat) : Nat := a ^^^ (a &&& (1 <<< p))
theorem bset_tb (a p i : Nat) : (bset a p).testBit i = (a.testBit i || decide (i = p)) := by
  unfold bset
  rw [Nat.testBit_or, Nat.one_shiftLeft, Nat.testBit_two_pow]
  congr 1
  rw [decide_eq_decide]
  exact eq_comm
theorem bclr_tb (a p i : Nat) : (bclr a p).testBit i = (a.testBit i && !decide (i = p)) := by
  unfold bclr
  rw [Nat.testBit_xor, Nat.testBit_and, Nat.one_shiftLeft, Nat.testBit_two_pow]
  by_cases h : p = i
  · subst h; simp
  · simp [h, Ne.symm h]
theorem tb_lt {a n : Nat} (h : ∀ i, n ≤ i → a.testBit i = false) : a < 2 ^ n := Nat.lt_pow_two_of_testBit a h
theorem tb_hi {a n i : Nat} (h : a < 2 ^ n) (hi : n ≤ i) : a.testBit i = false := Nat.testBit_lt_two_pow (Nat.lt_of_lt_of_le h (Nat.pow_le_pow_right (by omega) hi))
theorem bset_lt {a p n : Nat} (h : a < 2 ^ n) (hp : p < n) : bset a p < 2 ^ n := tb_lt fun i hi => by
  rw [bset_tb, tb_hi h hi, decide_eq_false (by omega)]
  rfl
theorem bclr_lt {a p n : Nat} (h : a < 2 ^ n) : bclr a p < 2 ^ n := tb_lt fun i hi => by
  rw [bclr_tb, tb_hi h hi]
  rfl
theorem J_bset (a : Nat) {p : Nat} (hp : p < 32) : J a ||| (1 <<< (J p &&& 31)) = J (bset a p) := by
  have e : (1 : Int32) = J 1 := rfl
  rw [e, J_shl 1 hp, J_or]
  rfl
theorem J_bclr {a p : Nat} (ha : a < 4294967296) (hp : p < 32) : J a &&& ((1 <<< (J p &&& 31)) ^^^ (-1)) = J (bclr a p) := by
  have e : (1 : Int32) = J 1 := rfl
  rw [m1_J, e, J_shl 1 hp, J_xor, J_and]
  congr 1
  apply Nat.eq_of_testBit_eq
  intro i
  rw [bclr_tb, Nat.testBit_and, Nat.testBit_xor, Nat.one_shiftLeft, Nat.testBit_two_pow]
  by_cases hi : i < 32
  · have : Nat.testBit 4294967295 i = true := by
      have h : ∀ i : Nat, i < 32 → Nat.testBit 4294967295 i = true := by decide
      exact h i hi
    rw [this]
    by_cases h : p = i
    · subst h; simp
    · simp [h, Ne.symm h]
  · rw [tb_hi (n := 32) ha (by omega)]
    rfl
/-! literals -/
theorem l_0 : (0 : Int32) = J 0 := rfl
theorem l_1 : (1 : Int32) = J 1 := rfl
theorem l_2 : (2 : Int32) = J 2 := rfl
theorem l_3 : (3 : Int32) = J 3 := rfl
theorem l_4 : (4 : Int32) = J 4 := rfl
theorem l_5 : (5 : Int32) = J 5 := rfl
theorem l_6 : (6 : Int32) = J 6 := rfl
theorem l_7 : (7 : Int32) = J 7 := rfl
theorem l_8 : (8 : Int32) = J 8 := rfl
theorem l_9 : (9 : Int32) = J 9 := rfl
theorem l_10 : (10 : Int32) = J 10 := rfl
theorem l_12 : (12 : Int32) = J 12 := rfl
theorem l_16 : (16 : Int32) = J 16 := rfl
theorem l_18 : (18 : Int32) = J 18 := rfl
theorem l_20 : (20 : Int32) = J 20 := rfl
theorem l_21 : (21 : Int32) = J 21 := rfl
theorem l_23 : (23 : Int32) = J 23 := rfl
theorem l_24 : (24 : Int32) = J 24 := rfl
theorem l_25 : (25 : Int32) = J 25 := rfl
theorem l_32 : (32 : Int32) = J 32 := rfl
theorem l_40 : (40 : Int32) = J 40 := rfl
theorem l_48 : (48 : Int32) = J 48 := rfl
theorem l_49 : (49 : Int32) = J 49 := rfl
theorem l_57 : (57 : Int32) = J 57 := rfl
theorem l_60 : (60 : Int32) = J 60 := rfl
theorem l_61 : (61 : Int32) = J 61 := rfl
theorem l_64 : (64 : Int32) = J 64 := rfl
theorem l_79 : (79 : Int32) = J 79 := rfl
theorem l_80 : (80 : Int32) = J 80 := rfl
theorem l_96 : (96 : Int32) = J 96 := rfl
theorem l_97 : (97 : Int32) = J 97 := rfl
theorem l_99 : (99 : Int32) = J 99 := rfl
theorem l_100 : (100 : Int32) = J 100 := rfl
theorem l_101 : (101 : Int32) = J 101 := rfl
theorem l_102 : (102 : Int32) = J 102 := rfl
theorem l_192 : (192 : Int32) = J 192 := rfl
theorem l_216 : (216 : Int32) = J 216 := rfl
theorem l_240 : (240 : Int32) = J 240 := rfl
theorem l_264 : (264 : Int32) = J 264 := rfl
theorem l_288 : (288 : Int32) = J 288 := rfl
theorem l_312 : (312 : Int32) = J 312 := rfl
theorem l_318 : (318 : Int32) = J 318 := rfl
theorem l_324 : (324 : Int32) = J 324 := rfl
theorem l_325 : (325 : Int32) = J 325 := rfl
theorem l_1000 : (1000 : Int32) = J 1000 := rfl
theorem l_10000 : (10000 : Int32) = J 10000 := rfl
theorem l_1000000 : (1000000 : Int32) = J 1000000 := rfl
theorem l_2275 : (2275 : Int32) = J 2275 := rfl
theorem J_m {a : Nat} (h : 0 < a) (h2 : a ≤ 4294967296) : -(J a) = J (4294967296 - a) := by
  have e : -(J a) = J 0 - J a := by rw [← l_0]; exact (Int32.zero_sub _).symm
  rw [e]
  have e2 : J 0 = J 4294967296 := J_eqbv (by decide)
  rw [e2, J_sub h2]
