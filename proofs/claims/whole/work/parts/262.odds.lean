/-! chances -/
theorem JL_add (a b : Nat) : JL a + JL b = JL (a + b) := JL_eqbv (by
  rw [Int64.toBitVec_add, JL_bv, JL_bv]
  apply BitVec.eq_of_toNat_eq
  simp only [BitVec.toNat_add, BitVec.toNat_ofNat, Nat.add_mod_mod, Nat.mod_add_mod])
theorem JL_mul (a b : Nat) : JL a * JL b = JL (a * b) := JL_eqbv (by
  rw [Int64.toBitVec_mul, JL_bv, JL_bv]
  apply BitVec.eq_of_toNat_eq
  simp only [BitVec.toNat_mul, BitVec.toNat_ofNat]
  exact (Nat.mul_mod a b (2 ^ 64)).symm)
theorem JL_toInt {a : Nat} (h : a < 9223372036854775808) : (JL a).toInt = a := Int64.toInt_ofNat_of_lt h
theorem JL_inj {a b : Nat} (ha : a < 9223372036854775808) (hb : b < 9223372036854775808) : JL a = JL b ↔ a = b := by
  constructor
  · intro z
    have : (JL a).toInt = (JL b).toInt := by rw [z]
    rw [JL_toInt ha, JL_toInt hb] at this
    omega
  · intro z; rw [z]
theorem JL_of {a : Nat} (h : a < 2147483648) : Int32.toInt64 (J a) = JL a := Int32.toInt64_ofNat' (by
  have : Int32.maxValue.toInt = 2147483647 := by decide
  rw [this]
  omega)
theorem JL_0 : (0 : Int64) = JL 0 := rfl
theorem JL_1 : (1 : Int64) = JL 1 := rfl
theorem jdivL_J {a b : Nat} (ha : a < 9223372036854775808) (hb : 0 < b) (hb2 : b < 9223372036854775808) : jdivL (JL a) (JL b) = some (JL (a / b)) := by
  unfold jdivL
  have hb0 : ¬ JL b = 0 := fun z => by rw [JL_0, JL_inj hb2 (by decide)] at z; omega
  rw [if_neg hb0]
  congr 1
  have hq : a / b ≤ a := Nat.div_le_self a b
  apply Int64.toInt_inj.mp
  rw [JL_toInt (show a / b < 9223372036854775808 by omega), Int64.toInt_div, JL_toInt ha, JL_toInt hb2, Int.tdiv_eq_ediv_of_nonneg (by omega)]
  have this : ((a : Int) / (b : Int)) = ((a / b : Nat) : Int) := rfl
  rw [this, Int.bmod_def]
  clear this
  generalize a / b = q at hq ⊢
  split <;> omega
theorem JL_sub {a b : Nat} (h : b ≤ a) (ha : a < 9223372036854775808) : JL a - JL b = JL (a - b) := by
  apply Int64.toInt_inj.mp
  rw [JL_toInt (show a - b < 9223372036854775808 by omega), Int64.toInt_sub, JL_toInt ha, JL_toInt (show b < 9223372036854775808 by omega), Int.bmod_def]
  split <;> omega
theorem jremL_J {a b : Nat} (ha : a < 9223372036854775808) (hb : 0 < b) (hb2 : b < 9223372036854775808) : jremL (JL a) (JL b) = some (JL (a % b)) := by
  have hd := jdivL_J ha hb hb2
  unfold jdivL at hd
  unfold jremL
  have hb0 : ¬ JL b = 0 := fun z => by rw [JL_0, JL_inj hb2 (by decide)] at z; omega
  rw [if_neg hb0] at hd ⊢
  have h2 : JL a / JL b = JL (a / b) := Option.some.inj hd
  have h3 : a / b * b ≤ a := Nat.div_mul_le_self a b
  have h4 := Nat.div_add_mod a b
  rw [Nat.mul_comm] at h4
  rw [h2, JL_mul, JL_sub h3 ha, show a - a / b * b = a % b by omega]
theorem lgc_0 {b : Nat} (hb : b < 9223372036854775808) : lg_cmp (JL b) 0 = 0 ↔ b = 0 := by
  have e : JL b = 0 ↔ b = 0 := by rw [JL_0]; exact JL_inj hb (by decide)
  unfold lg_cmp
  by_cases z : b = 0
  · rw [z]
    exact ⟨fun _ => rfl, fun _ => by decide⟩
  · rw [if_neg (fun y => z (e.1 y))]
    constructor
    · intro y
      split at y
      · exact absurd y (by decide)
      · exact absurd y (by decide)
    · intro y; exact absurd y z
/-- powers, choices -/
def chN (n c : Nat) : Nat → Nat
  | 0 => 1
  | i + 1 => chN n c i * (n - c + (i + 1)) / (i + 1)
theorem ch_le : ∀ n : Nat, n < 9 → ∀ c : Nat, c < 9 → ∀ i : Nat, i < 9 → chN n c i ≤ 100000 := by decide +kernel
theorem ch_100 : ∀ n : Nat, n < 9 → ∀ c : Nat, c < n + 1 → chN n c c ≤ 100 := by decide +kernel
theorem c_power {h : AH} {b e : Nat} (hb : b < 100) (he : e < 100) : fX10_power h (J b) (J e) = some (JL (b ^ e)) := by
  have e1 : ∀ m q i, i + m = e → m < q → fX10_power_L5 h q (J b) (J e) (JL (b ^ i)) (J i) = some (JL (b ^ e)) := by
    intro m
    induction m with
    | zero =>
      intro q i hi hq'
      obtain ⟨q, rfl⟩ : ∃ z, q = z + 1 := ⟨q - 1, by omega⟩
      rw [fX10_power_L5, if_pos (by rw [J_le (by omega) (by omega)]; omega), show i = e by omega]
    | succ m ih =>
      intro q i hi hq'
      obtain ⟨q, rfl⟩ : ∃ z, q = z + 1 := ⟨q - 1, by omega⟩
      have e2 : J i + 1 = J (i + 1) := by rw [l_1, J_add]
      rw [fX10_power_L5, if_neg (fun y => by rw [J_le (by omega) (by omega)] at y; omega), JL_of (by omega), JL_mul]
      simp only [letF, e2]
      exact ih q (i + 1) (by omega) (by omega)
  exact e1 e FU 0 (by omega) (FU_gt (by omega))
theorem c_choices {h : AH} {n c : Nat} (hn : n < 9) (hc : c ≤ n) : fX10_choices h (J n) (J c) = some (JL (chN n c c)) := by
  have e1 : ∀ m q i, i + m = c → m < q → fX10_choices_L5 h q (J n) (J c) (JL (chN n c i)) (J (i + 1)) = some (JL (chN n c c)) := by
    intro m
    induction m with
    | zero =>
      intro q i hi hq'
      obtain ⟨q, rfl⟩ : ∃ z, q = z + 1 := ⟨q - 1, by omega⟩
      rw [fX10_choices_L5, if_pos (by rw [J_lt (by omega) (by omega)]; omega), show i = c by omega]
    | succ m ih =>
      intro q i hi hq'
      obtain ⟨q, rfl⟩ : ∃ z, q = z + 1 := ⟨q - 1, by omega⟩
      have e2 : J (i + 1) + 1 = J (i + 1 + 1) := by rw [l_1, J_add]
      have b1 := ch_le n hn c (by omega) i (by omega)
      have b2 : chN n c i * (n - c + (i + 1)) ≤ 100000 * 20 := Nat.mul_le_mul b1 (by omega)
      rw [fX10_choices_L5, if_neg (fun y => by rw [J_lt (by omega) (by omega)] at y; omega), J_sub hc, J_add, JL_of (by omega), JL_of (by omega), JL_mul, jdivL_J (by omega) (by omega) (by omega), Option.bind_some]
      simp only [letF, e2]
      exact ih q (i + 1) (by omega) (by omega)
  exact e1 c FU 0 (by omega) (FU_gt (by omega))
def tmF (n p j : Nat) : Nat := p ^ j * (10 - p) ^ (n - j)
def upN (n p : Nat) : Nat → Nat
  | 0 => 0
  | i + 1 => upN n p i + chN n i i * p ^ i * (10 - p) ^ (n - i)
theorem tm_le {n p j : Nat} (hp : p ≤ 10) (hj : j ≤ n) : tmF n p j ≤ 10 ^ n := by
  unfold tmF
  have h1 : p ^ j ≤ 10 ^ j := Nat.pow_le_pow_left hp j
  have h2 : (10 - p) ^ (n - j) ≤ 10 ^ (n - j) := Nat.pow_le_pow_left (by omega) _
  have h3 := Nat.mul_le_mul h1 h2
  rw [← Nat.pow_add, show j + (n - j) = n by omega] at h3
  exact h3
theorem up_le {n p : Nat} (hn : n < 9) (hp : p ≤ 10) : ∀ i, i ≤ n + 1 → upN n p i ≤ i * (100 * 100000000)
  | 0, _ => Nat.zero_le _
  | i + 1, hi => by
    have ih := up_le hn hp i (by omega)
    have h1 := ch_100 n hn i (by omega)
    have h2 := tm_le (n := n) (p := p) (j := i) hp (by omega)
    have h3 : 10 ^ n ≤ 10 ^ 8 := Nat.pow_le_pow_right (by decide) (by omega)
    have h6 : (10 : Nat) ^ 8 = 100000000 := by decide
    have h4 : chN n i i * tmF n p i ≤ 100 * 100000000 := Nat.mul_le_mul h1 (by omega)
    have h5 : chN n i i * p ^ i * (10 - p) ^ (n - i) = chN n i i * tmF n p i := by unfold tmF; rw [Nat.mul_assoc]
    show upN n p i + chN n i i * p ^ i * (10 - p) ^ (n - i) ≤ (i + 1) * (100 * 100000000)
    rw [h5, Nat.succ_mul]
    omega
/-! sets by how many they have -/
def ptN (n p s : Nat) : Nat → Nat
  | 0 => 1
  | i + 1 => ptN n p s i * (if s.testBit i = true then p else 10 - p)
theorem pt_eq (n p s : Nat) : ∀ i, ptN n p s i = p ^ cnt (fun i => s.testBit i) i * (10 - p) ^ (i - cnt (fun i => s.testBit i) i)
  | 0 => rfl
  | i + 1 => by
    have ih := pt_eq n p s i
    have cl : cnt (fun i => s.testBit i) i ≤ i := cnt_le
    show ptN n p s i * (if s.testBit i = true then p else 10 - p) = _
    rw [ih]
    by_cases z : s.testBit i = true
    · rw [if_pos z, cnt_yes z, Nat.pow_succ, show i + 1 - (cnt (fun i => s.testBit i) i + 1) = i - cnt (fun i => s.testBit i) i by omega, Nat.mul_right_comm]
    · rw [if_neg z, cnt_no z, show i + 1 - cnt (fun i => s.testBit i) i = (i - cnt (fun i => s.testBit i) i) + 1 by omega, Nat.pow_succ, Nat.mul_assoc]
def smS2 (n p k : Nat) : Nat → Nat
  | 0 => 0
  | s + 1 => smS2 n p k s + (if bc s ≤ k then ptN n p s n else 0)
def cbN (j : Nat) (S : Nat) : Nat := cnt (fun s => decide (bc s = j)) S
theorem sm_one (F : Nat → Nat) (b : Nat) : ∀ m, sm (fun j => (if b = j then 1 else 0) * F j) m = if b < m then F b else 0
  | 0 => rfl
  | m + 1 => by
    have ih := sm_one F b m
    show sm (fun j => (if b = j then 1 else 0) * F j) m + (if b = m then 1 else 0) * F m = _
    rw [ih]
    by_cases z : b < m
    · rw [if_pos z, if_neg (by omega), if_pos (by omega), Nat.zero_mul]
      rfl
    · rw [if_neg z]
      by_cases y : b = m
      · rw [if_pos y, if_pos (by omega), Nat.one_mul, Nat.zero_add, y]
      · rw [if_neg y, if_neg (by omega), Nat.zero_mul]
theorem sm_add (f g : Nat → Nat) : ∀ m, sm (fun j => f j + g j) m = sm f m + sm g m
  | 0 => rfl
  | m + 1 => by
    have ih := sm_add f g m
    show sm (fun j => f j + g j) m + (f m + g m) = sm f m + f m + (sm g m + g m)
    rw [ih]
    omega
theorem sm_0 : ∀ m, sm (fun _ => 0) m = 0
  | 0 => rfl
  | m + 1 => sm_0 m
theorem sums (F : Nat → Nat) (k : Nat) (G : Nat → Nat) : ∀ S, (∀ s, s < S → G s = F (bc s)) → sm (fun s => if bc s ≤ k then G s else 0) S = sm (fun j => cbN j S * F j) (k + 1)
  | 0, _ => by
    have : (fun j => cbN j 0 * F j) = fun _ => 0 := by
      funext j
      show 0 * F j = 0
      exact Nat.zero_mul _
    rw [this, sm_0]
    rfl
  | S + 1, h => by
    have ih := sums F k G S (fun s hs => h s (by omega))
    show sm (fun s => if bc s ≤ k then G s else 0) S + (if bc S ≤ k then G S else 0) = _
    have e : (fun j => cbN j (S + 1) * F j) = fun j => cbN j S * F j + (if bc S = j then 1 else 0) * F j := by
      funext j
      rw [← Nat.add_mul]
      congr 1
      unfold cbN
      by_cases z : bc S = j
      · rw [cnt_yes (by simp [z]), if_pos z]
      · rw [cnt_no (by simp [z]), if_neg z]
        rfl
    rw [e, sm_add, ih, sm_one, h S (by omega)]
    congr 1
    by_cases z : bc S ≤ k
    · rw [if_pos z, if_pos (by omega)]
    · rw [if_neg z, if_neg (by omega)]
theorem cb_ch : ∀ n : Nat, n < 9 → ∀ j : Nat, j < 9 → cbN j (2 ^ n) = if j ≤ n then chN n j j else 0 := by decide +kernel
theorem sm_cut (f : Nat → Nat) (n : Nat) : ∀ m, (∀ j, n ≤ j → j < m → f j = 0) → sm f m = sm f (min n m)
  | 0, _ => by rw [Nat.min_zero]
  | m + 1, h => by
    have ih := sm_cut f n m (fun j h1 h2 => h j h1 (by omega))
    by_cases z : n ≤ m
    · show sm f m + f m = _
      rw [h m z (by omega), Nat.min_eq_left (show n ≤ m + 1 by omega), ih, Nat.min_eq_left z]
      rfl
    · rw [Nat.min_eq_right (show m + 1 ≤ n by omega)]
theorem up_sm (n p : Nat) : ∀ i, upN n p i = sm (fun j => chN n j j * tmF n p j) i
  | 0 => rfl
  | i + 1 => by
    show upN n p i + chN n i i * p ^ i * (10 - p) ^ (n - i) = sm (fun j => chN n j j * tmF n p j) i + chN n i i * tmF n p i
    rw [up_sm n p i]
    unfold tmF
    rw [Nat.mul_assoc]
theorem smS2_sm (n p k : Nat) : ∀ S, smS2 n p k S = sm (fun s => if bc s ≤ k then ptN n p s n else 0) S
  | 0 => rfl
  | S + 1 => by
    show smS2 n p k S + _ = sm _ S + _
    rw [smS2_sm n p k S]
theorem bc_n {n s : Nat} (hn : n ≤ 24) (hs : s < 2 ^ n) : bc s = cnt (fun i => s.testBit i) n := by
  unfold bc
  have := cnt_add (fun i => s.testBit i) n (24 - n)
  rw [show n + (24 - n) = 24 by omega] at this
  rw [this, cnt_congr (f := fun i => s.testBit (n + i)) (g := fun _ => false) (fun i hi => Nat.testBit_lt_two_pow (Nat.lt_of_lt_of_le hs (Nat.pow_le_pow_right (by decide) (by omega)))), cnt_z, Nat.add_zero]
theorem sm_up {n p k : Nat} (hn : n < 9) (hk : k < 9) : smS2 n p k (2 ^ n) = upN n p (min (n + 1) (k + 1)) := by
  rw [smS2_sm, sums (tmF n p) k (fun s => ptN n p s n) (2 ^ n) (fun s hs => by
    rw [bc_n (by omega) hs]
    exact pt_eq n p s n), up_sm]
  rw [sm_cut (fun j => cbN j (2 ^ n) * tmF n p j) (n + 1) (k + 1) (fun j h1 h2 => by
    show cbN j (2 ^ n) * tmF n p j = 0
    rw [cb_ch n hn j (by omega), if_neg (by omega), Nat.zero_mul])]
  exact sm_congr (fun j hj => by
    show cbN j (2 ^ n) * tmF n p j = chN n j j * tmF n p j
    rw [cb_ch n hn j (by omega), if_pos (by omega)])
/-! the greatest common divisor -/
def euN : Nat → Nat → Nat → Nat
  | 0, a, _ => a
  | d + 1, a, b => if b = 0 then a else euN d b (a % b)
def hal : Nat → Nat → Nat → Prop
  | 0, _, b => b = 0
  | d + 1, a, b => b = 0 ∨ hal d b (a % b)
theorem hal_2 : ∀ m a b, b < 2 ^ m → hal (2 * m) a b
  | 0, a, b, h => by
    have : (2 : Nat) ^ 0 = 1 := rfl
    show b = 0
    omega
  | m + 1, a, b, h => by
    show hal (2 * m + 1 + 1) a b
    by_cases b0 : b = 0
    · exact Or.inl b0
    · right
      by_cases r0 : a % b = 0
      · exact Or.inl r0
      · right
        refine hal_2 m (a % b) (b % (a % b)) ?_
        have h1 : a % b < b := Nat.mod_lt _ (by omega)
        have h2 : b % (a % b) < a % b := Nat.mod_lt _ (by omega)
        have h3 := Nat.div_add_mod b (a % b)
        have h4 : 0 < b / (a % b) := Nat.div_pos (by omega) (by omega)
        have h5 : a % b ≤ a % b * (b / (a % b)) := Nat.le_mul_of_pos_right _ h4
        have h6 : (2 : Nat) ^ (m + 1) = 2 ^ m * 2 := Nat.pow_succ 2 m
        omega
theorem eu_pos : ∀ d a b, hal d a b → 0 < a ∨ 0 < b → 0 < euN d a b
  | 0, a, b, h, z => by
    have h0 : b = 0 := h
    show 0 < a
    omega
  | d + 1, a, b, h, z => by
    unfold euN
    by_cases b0 : b = 0
    · rw [if_pos b0]
      omega
    · rw [if_neg b0]
      exact eu_pos d b (a % b) (h.resolve_left b0) (Or.inl (by omega))
theorem c_gcdL {h : AH} : ∀ d a b t q, hal d a b → t + d < 100 → d < q → a < 4611686018427387904 → b < 4611686018427387904 → fX10_commonDivisor_L9 h q (JL a) (JL b) (J t) = some (JL (euN d a b))
  | 0, a, b, t, q + 1, hh, ht, _, ha, hb => by
    have b0 : b = 0 := hh
    rw [fX10_commonDivisor_L9, if_neg (fun y => by rw [l_100, J_le (by decide) (by omega)] at y; omega), if_pos ((lgc_0 (by omega)).2 b0)]
    rfl
  | d + 1, a, b, t, q + 1, hh, ht, hq', ha, hb => by
    rw [fX10_commonDivisor_L9, if_neg (fun y => by rw [l_100, J_le (by decide) (by omega)] at y; omega)]
    unfold euN
    by_cases b0 : b = 0
    · rw [if_pos ((lgc_0 (by omega)).2 b0), if_pos b0]
    · have e1 : J t + 1 = J (t + 1) := by rw [l_1, J_add]
      have hr : a % b < b := Nat.mod_lt _ (by omega)
      rw [if_neg (fun y => b0 ((lgc_0 (by omega)).1 y)), if_neg b0, jremL_J (by omega) (by omega) (by omega), Option.bind_some]
      simp only [letF, e1]
      exact c_gcdL d b (a % b) (t + 1) q (hh.resolve_left b0) (by omega) (by omega) hb (by omega)
theorem m_gcd {h : AH} : ∀ d a b q, hal d a b → d < q → a < 4611686018427387904 → b < 4611686018427387904 → fX11_gcd h q (JL a) (JL b) = some (JL (euN d a b))
  | 0, a, b, q + 1, hh, _, ha, hb => by
    have b0 : b = 0 := hh
    show fX11_common__b _ h (JL a) (JL b) = _
    unfold fX11_common__b
    rw [if_pos ((lgc_0 (by omega)).2 b0)]
    rfl
  | d + 1, a, b, q + 1, hh, hq', ha, hb => by
    show fX11_common__b _ h (JL a) (JL b) = _
    unfold fX11_common__b euN
    by_cases b0 : b = 0
    · rw [if_pos ((lgc_0 (by omega)).2 b0), if_pos b0]
    · have hr : a % b < b := Nat.mod_lt _ (by omega)
      rw [if_neg (fun y => b0 ((lgc_0 (by omega)).1 y)), if_neg b0, jremL_J (by omega) (by omega) (by omega), Option.bind_some, m_gcd d b (a % b) q (hh.resolve_left b0) (by omega) hb (by omega), Option.bind_some]
def odN (w : ST) (s : Nat) : Nat := if nds w s = true then 8 else 8 - bc (w 8 (tp w s))
def odU (w : ST) (s p k : Nat) : Nat := upN (odN w s) p (min (odN w s + 1) (k + 1))
def odG (w : ST) (s p k : Nat) : Nat := euN 54 (odU w s p k) (10 ^ odN w s)
abbrev odO (w : ST) (s p k : Nat) : Prop := hs w s = true ∧ p ≤ 10 ∧ k ≤ 8
def odA (w : ST) (s p k : Nat) : Nat := if odO w s p k then 0 else 4294967295
def odR (w : ST) (s p k : Nat) (row : List Int64) : List Int64 := if odO w s p k then [JL (odU w s p k / odG w s p k), JL (10 ^ odN w s / odG w s p k)] else row
theorem od_facts {w : ST} {s p k : Nat} (hp : p ≤ 10) : odN w s < 9 ∧ odU w s p k < 4611686018427387904 ∧ 0 < 10 ^ odN w s ∧ 10 ^ odN w s < 4611686018427387904 ∧ hal 54 (odU w s p k) (10 ^ odN w s) ∧ 0 < odG w s p k ∧ odG w s p k < 9223372036854775808 := by
  have n9 : odN w s < 9 := by unfold odN; split <;> omega
  have u := up_le (n := odN w s) (p := p) n9 hp (min (odN w s + 1) (k + 1)) (Nat.min_le_left _ _)
  have mi : min (odN w s + 1) (k + 1) ≤ 9 := by have := Nat.min_le_left (odN w s + 1) (k + 1); omega
  have u2 : odU w s p k ≤ 9 * (100 * 100000000) := Nat.le_trans u (Nat.mul_le_mul_right _ mi)
  have p1 : 0 < 10 ^ odN w s := Nat.pow_pos (by decide)
  have p2 : 10 ^ odN w s ≤ 10 ^ 8 := Nat.pow_le_pow_right (by decide) (by omega)
  have p3 : (10 : Nat) ^ 8 = 100000000 := by decide
  have p4 : 10 ^ odN w s < 2 ^ 27 := by
    have : (2 : Nat) ^ 27 = 134217728 := by decide
    omega
  have hh := hal_2 27 (odU w s p k) (10 ^ odN w s) p4
  have eb : ∀ d a b, a < 4611686018427387904 → b < 4611686018427387904 → euN d a b < 4611686018427387904 := by
    intro d
    induction d with
    | zero => intro a b ha _; exact ha
    | succ d ih =>
      intro a b ha hb
      unfold euN
      by_cases b0 : b = 0
      · rw [if_pos b0]; exact ha
      · rw [if_neg b0]
        have : a % b < b := Nat.mod_lt _ (by omega)
        exact ih b (a % b) hb (by omega)
  have u3 : odU w s p k < 4611686018427387904 := by omega
  have p5 : 10 ^ odN w s < 4611686018427387904 := by omega
  have g1 := eu_pos 54 _ _ hh (Or.inr p1)
  have g2 := eb 54 _ _ u3 p5
  exact ⟨n9, u3, p1, p5, hh, g1, by unfold odG; omega⟩
section OD
variable {h g : AH} {mk : Nat} {tx : Nat → Nat} {len : Nat} {w : ST} {un : Nat} {us : Nat → ST} {kp : Nat → Bool} {ks : Nat → ST} {C : List Nat} {ρ : Nat → Nat} {rn : Nat} {row : List Int64} {hq : List (Nat × Nat)} {sq : List (Nat × Nat × Bool)}
theorem c_oddL {p k n : Nat} (hp : p ≤ 10) (hk : k ≤ 8) (hn : n < 9) (K : AH → Nat → Int32 → Int64 → Option (Int32 × AH)) : ∀ m q i, i + m = min (n + 1) (k + 1) → m < q → fX10_odds_L55 K q h 0 (J p) (J k) (J n) (JL (upN n p i)) (J i) = K h 0 (J n) (JL (upN n p (min (n + 1) (k + 1))))
  | 0, q + 1, i, e, _ => by
    have ei : i = min (n + 1) (k + 1) := by omega
    rw [fX10_odds_L55, ← ei]
    by_cases z : k < i
    · rw [if_pos (by rw [J_lt (by omega) (by omega)]; omega)]
    · rw [if_neg (fun y => by rw [J_lt (by omega) (by omega)] at y; omega), if_pos (by rw [J_lt (by omega) (by omega)]; omega)]
  | m + 1, q + 1, i, e, hq' => by
    have ih := c_oddL hp hk hn K m q (i + 1) (by omega) (by omega)
    have e1 : J i + 1 = J (i + 1) := by rw [l_1, J_add]
    rw [fX10_odds_L55, if_neg (fun y => by rw [J_lt (by omega) (by omega)] at y; omega), if_neg (fun y => by rw [J_lt (by omega) (by omega)] at y; omega), c_choices hn (by omega), Option.bind_some, c_power (by omega) (by omega), Option.bind_some, l_10, J_sub hp, J_sub (show i ≤ n by omega), c_power (by omega) (by omega), Option.bind_some, JL_mul, JL_mul, JL_add]
    simp only [letF, e1]
    exact ih
theorem xc_odds (W : CIk h mk tx len w un us kp ks C row hq sq) (I : INV w) {s p k : Nat} (hs' : s < 4294967296) (hp' : p < 4294967296) (hk' : k < 4294967296) : ∃ h' mk', fX10_odds h 0 (J s) (J p) (J k) = some (J (odA w s p k), h') ∧ CIk h' mk' tx len w un us kp ks C (odR w s p k row) hq sq ∧ On PC0 h h' := by
  have R := I.rg
  have bad : ¬ odO w s p k → ∃ h' mk', some (-1, h) = some (J (if odO w s p k then 0 else 4294967295), h') ∧ CIk h' mk' tx len w un us kp ks C (if odO w s p k then [JL (odU w s p k / odG w s p k), JL (10 ^ odN w s / odG w s p k)] else row) hq sq ∧ On PC0 h h' := fun h0 => by
    rw [if_neg h0, if_neg h0, m1_J]
    exact ⟨h, mk, rfl, W, On.rf⟩
  have n0 : ∀ {x : Nat}, x < 4294967296 → (J x < 0 ↔ 2147483648 ≤ x) := fun hx => J_neg0 hx
  unfold fX10_odds odA odR
  rw [if_pos (x_h W.1), x_2 W.1, Option.bind_some, c_hs W.2.2.1 R hs', Option.bind_some]
  by_cases h0 : hs w s = true
  · rw [if_pos h0]
    by_cases h1 : p ≤ 10
    · rw [if_neg (fun y => by have := (n0 hp').1 y; omega), if_neg (fun y => by rw [l_10, J_lt (by decide) (by omega)] at y; omega)]
      by_cases h2 : k ≤ 8
      · rw [if_neg (fun y => by have := (n0 hk').1 y; omega), if_pos (by rw [l_8, J_le (by omega) (by decide)]; omega)]
        have ok : odO w s p k := ⟨h0, h1, h2⟩
        obtain ⟨n9, u1, p1, p2, hh, g1, g2⟩ := od_facts (w := w) (s := s) (p := p) (k := k) h1
        obtain ⟨s1, s2, s3⟩ := hs_tp h0 R I.gr
        obtain ⟨t1, t2⟩ := ho_lt s3
        have r8 := (R.2.2.1 _ t1).2.2.2.2.2
        have own : fX9_ownPages h 2 (J s) = some (J (if nds w s = true then 0 else w 8 (tp w s))) := by
          unfold fX9_ownPages
          rw [if_pos (wr_h W.2.2.1), c_nds W.2.2.1 R hs', Option.bind_some]
          by_cases z : nds w s = true
          · rw [if_pos z, if_pos z]; rfl
          · rw [if_neg z, if_neg z, c_tp W.2.2.1 R hs', Option.bind_some, c_heldOf W.2.2.1 R (by omega), Option.bind_some]
            unfold at0
            rw [if_pos t1]
        have bo : (if nds w s = true then 0 else w 8 (tp w s)) < 16777216 := by split <;> omega
        have bw : bc (w 8 (tp w s)) ≤ 8 := by rw [bc_8 r8]; exact cnt_le
        have en : (8 : Int32) - J (bc (if nds w s = true then 0 else w 8 (tp w s))) = J (odN w s) := by
          unfold odN
          by_cases z : nds w s = true
          · rw [if_pos z, if_pos z]
            have : bc 0 = 0 := by decide
            rw [this]
            rfl
          · rw [if_neg z, if_neg z, l_8, J_sub bw]
        rw [if_pos ok, if_pos ok, Option.bind_some, own, Option.bind_some, bc_J bo, Option.bind_some]
        obtain ⟨ga, ea, Wa, Oa⟩ := ci_clr W
        obtain ⟨gb, eb, Wb, Ob⟩ := ci_add Wa (by simp) (JL (odU w s p k / odG w s p k))
        obtain ⟨gc, ec, Wc, Oc⟩ := ci_add Wb (by simp) (JL (10 ^ odN w s / odG w s p k))
        refine ⟨gc, mk, ?_, Wc, ((lon Oa (fun k hk => by omega)).trans (lon Ob (fun k hk => by omega))).trans (lon Oc (fun k hk => by omega))⟩
        simp only [letF, en]
        have eL := fun K => c_oddL (h := h) h1 h2 n9 K (min (odN w s + 1) (k + 1)) FU 0 (by omega) (FU_gt (by omega))
        have eL' : ∀ K : AH → Nat → Int32 → Int64 → Option (Int32 × AH), fX10_odds_L55 K FU h 0 (J p) (J k) (J (odN w s)) 0 0 = K h 0 (J (odN w s)) (JL (odU w s p k)) := fun K => eL K
        rw [eL']
        unfold fX10_odds_J106 fX10_tellFraction fX10_tellFraction_J33 fX10_tellFraction_J55
        have cg : fX10_commonDivisor h (JL (odU w s p k)) (JL (10 ^ odN w s)) = some (JL (odG w s p k)) := c_gcdL 54 _ _ 0 FU hh (by decide) (FU_gt (by decide)) u1 p2
        rw [l_10, c_power (by decide) (by omega), Option.bind_some, if_pos (x_h W.1), cg, Option.bind_some, x_8 W.1, Option.bind_some, ea, Option.bind_some, x_8 Wa.1, Option.bind_some, if_neg (fun y => by have := (lgc_0 g2).1 y; omega), jdivL_J (by omega) g1 g2, Option.bind_some, eb, Option.bind_some, x_8 Wb.1, Option.bind_some, if_neg (fun y => by have := (lgc_0 g2).1 y; omega), jdivL_J (by omega) g1 g2, Option.bind_some, ec, Option.bind_some, Option.bind_some]
        rfl
      · by_cases q : 2147483648 ≤ k
        · rw [if_pos ((n0 hk').2 q)]
          exact bad (fun z => h2 z.2.2)
        · rw [if_neg (fun z => q ((n0 hk').1 z)), if_neg (fun z => by rw [l_8, J_le (by omega) (by decide)] at z; omega)]
          exact bad (fun z => h2 z.2.2)
    · by_cases q : 2147483648 ≤ p
      · rw [if_pos ((n0 hp').2 q)]
        exact bad (fun z => h1 z.2.1)
      · rw [if_neg (fun z => q ((n0 hp').1 z)), if_pos (by rw [l_10, J_lt (by decide) (by omega)]; omega)]
        exact bad (fun z => h1 z.2.1)
  · rw [if_neg h0]
    exact bad (fun z => h0 z.1)
theorem y_lowL {p k n : Nat} {x5 : Int64} (hn : n < 9) (K : AH → Nat → Int32 → Int32 → Int32 → Int64 → Int64 → Option (Int32 × AH)) : ∀ m q i, i + m = n → m < q → fX11_odds_L88 K q h 145 (J p) (J k) (J n) x5 (JL (10 ^ i)) (J i) = K h 145 (J p) (J k) (J n) x5 (JL (10 ^ n))
  | 0, q + 1, i, e, _ => by
    rw [fX11_odds_L88, if_pos (by rw [J_le (by omega) (by omega)]; omega), show i = n by omega]
  | m + 1, q + 1, i, e, hq' => by
    have ih := y_lowL (p := p) (k := k) (x5 := x5) hn K m q (i + 1) (by omega) (by omega)
    have e1 : J i + 1 = J (i + 1) := by rw [l_1, J_add]
    have l10 : (10 : Int64) = JL 10 := rfl
    rw [fX11_odds_L88, if_neg (fun y => by rw [J_le (by omega) (by omega)] at y; omega), l10, JL_mul]
    simp only [letF, e1]
    exact ih
theorem y_prtL {p k n s : Nat} {x5 x7 : Int64} (hp : p ≤ 10) (hn : n < 9) (hs' : s < 65536) (K : AH → Nat → Int32 → Int32 → Int32 → Int64 → Int64 → Int32 → Int64 → Option (Int32 × AH)) : ∀ m q i, i + m = n → m < q → fX11_odds_L139 K q h 145 (J p) (J k) (J n) x5 x7 (J s) (JL (ptN n p s i)) (J i) = K h 145 (J p) (J k) (J n) x5 x7 (J s) (JL (ptN n p s n))
  | 0, q + 1, i, e, _ => by
    rw [fX11_odds_L139, if_pos (by rw [J_le (by omega) (by omega)]; omega), show i = n by omega]
  | m + 1, q + 1, i, e, hq' => by
    have ih := y_prtL (k := k) (x5 := x5) (x7 := x7) hp hn hs' K m q (i + 1) (by omega) (by omega)
    have e1 : J i + 1 = J (i + 1) := by rw [l_1, J_add]
    have es : ptN n p s (i + 1) = ptN n p s i * (if s.testBit i = true then p else 10 - p) := rfl
    rw [es] at ih
    rw [fX11_odds_L139, if_neg (fun y => by rw [J_le (by omega) (by omega)] at y; omega), m_has (by omega) (by omega), Option.bind_some]
    unfold fX11_odds_J168
    by_cases z : s.testBit i = true
    · rw [if_pos z] at ih
      rw [if_pos z, JL_of (by omega), JL_mul]
      simp only [letF, e1]
      exact ih
    · rw [if_neg z] at ih
      rw [if_neg z, l_10, J_sub hp, JL_of (by omega), JL_mul]
      simp only [letF, e1]
      exact ih
theorem y_setL {p k n : Nat} {x7 : Int64} (hp : p ≤ 10) (hk : k ≤ 8) (hn : n < 9) (K : AH → Nat → Int64 → Int64 → Option (Int32 × AH)) : ∀ m q s, s + m = 2 ^ n → m < q → fX11_odds_L112 K q h 145 (J p) (J k) (J n) (JL (smS2 n p k s)) x7 (J s) = K h 145 (JL (smS2 n p k (2 ^ n))) x7
  | 0, q + 1, s, e, _ => by
    have e2 : (1 : Int32) <<< (J n &&& 31) = J (2 ^ n) := by rw [l_1, J_shl 1 (by omega), Nat.one_shiftLeft]
    have p2 : 2 ^ n ≤ 2 ^ 8 := Nat.pow_le_pow_right (by decide) (by omega)
    have p3 : (2 : Nat) ^ 8 = 256 := by decide
    rw [fX11_odds_L112, e2, if_pos (by rw [J_le (by omega) (by omega)]; omega), show s = 2 ^ n by omega]
  | m + 1, q + 1, s, e, hq' => by
    have e2 : (1 : Int32) <<< (J n &&& 31) = J (2 ^ n) := by rw [l_1, J_shl 1 (by omega), Nat.one_shiftLeft]
    have p2 : 2 ^ n ≤ 2 ^ 8 := Nat.pow_le_pow_right (by decide) (by omega)
    have p3 : (2 : Nat) ^ 8 = 256 := by decide
    have ih := y_setL (x7 := x7) hp hk hn K m q (s + 1) (by omega) (by omega)
    have e1 : J s + 1 = J (s + 1) := by rw [l_1, J_add]
    have bl := bc_le s
    have es : smS2 n p k (s + 1) = smS2 n p k s + (if bc s ≤ k then ptN n p s n else 0) := rfl
    rw [es] at ih
    rw [fX11_odds_L112, e2, if_neg (fun y => by rw [J_le (by omega) (by omega)] at y; omega), bc_J (by omega), Option.bind_some]
    by_cases z : bc s ≤ k
    · rw [if_pos z] at ih
      rw [if_pos (by rw [J_le (by omega) (by omega)]; omega)]
      have eP := y_prtL (h := h) (k := k) (x5 := JL (smS2 n p k s)) (x7 := x7) hp hn (show s < 65536 by omega) (fun h15 x7 x8 x9 x10 x11 x12 x13 x14 =>
            letF (x11 + x14 : Int64) fun x16 =>
            letF (x13 + 1 : Int32) fun x17 =>
            fX11_odds_L112 K q h15 x7 x8 x9 x10 x16 x12 x17) n FU 0 (by omega) (FU_gt (by omega))
      refine Eq.trans eP ?_
      simp only [letF, e1, JL_add]
      exact ih
    · rw [if_neg z] at ih
      rw [if_neg (fun y => by rw [J_le (by omega) (by omega)] at y; omega)]
      simp only [letF, e1]
      exact ih
theorem xm_odds (W : MIv h tx len w un us kp ks ρ rn row hq sq) (I : INV w) {s p k : Nat} (hs' : s < 4294967296) (hp' : p < 4294967296) (hk' : k < 4294967296) : ∃ h', fX11_odds h 145 (J s) (J p) (J k) = some (J (odA w s p k), h') ∧ MIv h' tx len w un us kp ks ρ rn (odR w s p k row) hq sq ∧ On PM0 h h' := by
  have R := I.rg
  obtain ⟨g0, e0, W0, -, O0⟩ := mi_t0 W
  have O0' : On PM0 h g0 := mon O0 (fun k hk => by omega)
  have i1 : fX11_in g0 (J p) 0 10 = some (decide (p ≤ 10)) := by
    rw [l_0, l_10, m_in hp' (by decide) (by decide), decide_eq_true (Nat.zero_le p), Bool.true_and]
  have i2 : fX11_in g0 (J k) 0 8 = some (decide (k ≤ 8)) := by
    rw [l_0, l_8, m_in hk' (by decide) (by decide), decide_eq_true (Nat.zero_le k), Bool.true_and]
  have bad : ¬ odO w s p k → ∃ h', some (-1, g0) = some (J (if odO w s p k then 0 else 4294967295), h') ∧ MIv h' tx len w un us kp ks ρ rn (if odO w s p k then [JL (odU w s p k / odG w s p k), JL (10 ^ odN w s / odG w s p k)] else row) hq sq ∧ On PM0 h h' := fun h0 => by
    rw [if_neg h0, if_neg h0, m1_J]
    exact ⟨g0, rfl, W0, O0'⟩
  unfold fX11_odds odA odR
  rw [if_pos (y_h W.1), e0, Option.bind_some, y_0 W0.1, Option.bind_some, m_hs W0.2.2.1 R hs', Option.bind_some]
  by_cases h0 : hs w s = true
  · rw [if_pos h0, i1, Option.bind_some]
    by_cases h1 : p ≤ 10
    · rw [if_pos (decide_eq_true h1), i2, Option.bind_some]
      by_cases h2 : k ≤ 8
      · rw [if_pos (decide_eq_true h2)]
        have ok : odO w s p k := ⟨h0, h1, h2⟩
        obtain ⟨n9, u1, p1, p2, hh, g1, g2⟩ := od_facts (w := w) (s := s) (p := p) (k := k) h1
        obtain ⟨s1, s2, s3⟩ := hs_tp h0 R I.gr
        obtain ⟨t1, t2⟩ := ho_lt s3
        have r8 := (R.2.2.1 _ t1).2.2.2.2.2
        have bw : bc (w 8 (tp w s)) ≤ 8 := by rw [bc_8 r8]; exact cnt_le
        obtain ⟨ga, ea, Wa, Oa⟩ := mi_clr W0
        obtain ⟨gb, eb, Wb, Ob⟩ := mi_tell Wa (by simp) (JL (odU w s p k / odG w s p k))
        obtain ⟨gc, ec, Wc, Oc⟩ := mi_tell Wb (by simp) (JL (10 ^ odN w s / odG w s p k))
        have key : fX11_odds_J77 g0 145 (J p) (J k) (J (odN w s)) = some (J 0, gc) := by
          have q2 : 2 ^ odN w s ≤ 2 ^ 8 := Nat.pow_le_pow_right (by decide) (by omega)
          have q3 : (2 : Nat) ^ 8 = 256 := by decide
          have cg : fX11_common_ g0 (JL (odU w s p k)) (JL (10 ^ odN w s)) = some (JL (odG w s p k)) := m_gcd 54 _ _ GD hh (by decide) u1 p2
          have eS := y_setL (h := g0) (x7 := JL (10 ^ odN w s)) h1 h2 n9 (fun h29 x26 x27 x28 =>
              (fX11_common_ h29 x27 x28).bind fun q30 =>
              (pF h29 11 x26 4 (.int 0)).bind fun h31 =>
              (jdivL x27 q30).bind fun x32 =>
              (fX11_tell h31 x26 x32).bind fun q33 =>
              (jdivL x28 q30).bind fun x34 =>
              (fX11_tell q33 x26 x34).bind fun q35 =>
              some ((0, q35))) (2 ^ odN w s) FU 0 (by omega) (FU_gt (by omega))
          have eL := y_lowL (h := g0) (p := p) (k := k) (x5 := 0) n9 (fun h25 x19 x20 x21 x22 x23 x24 =>
              fX11_odds_L112
                (fun h29 x26 x27 x28 =>
                  (fX11_common_ h29 x27 x28).bind fun q30 =>
                  (pF h29 11 x26 4 (.int 0)).bind fun h31 =>
                  (jdivL x27 q30).bind fun x32 =>
                  (fX11_tell h31 x26 x32).bind fun q33 =>
                  (jdivL x28 q30).bind fun x34 =>
                  (fX11_tell q33 x26 x34).bind fun q35 =>
                  some ((0, q35)))
                FU h25 x19 x20 x21 x22 x23 x24 0) (odN w s) FU 0 (by omega) (FU_gt (by omega))
          unfold fX11_odds_J77
          refine Eq.trans eL ?_
          refine Eq.trans eS ?_
          have eu : upN (odN w s) p (min (odN w s + 1) (k + 1)) = odU w s p k := rfl
          rw [sm_up n9 (by omega), eu, cg, Option.bind_some, ea, Option.bind_some, jdivL_J (by omega) g1 g2, Option.bind_some, eb, Option.bind_some, jdivL_J (by omega) g1 g2, Option.bind_some, ec, Option.bind_some]
          rfl
        rw [if_pos ok, if_pos ok, Option.bind_some, m_shared W0.2.2.1 R I.gr h0, Option.bind_some]
        refine ⟨gc, ?_, Wc, ((O0'.trans (mon Oa (fun k hk => by omega))).trans (mon Ob (fun k hk => by omega))).trans (mon Oc (fun k hk => by omega))⟩
        by_cases z : nds w s = true
        · have en : odN w s = 8 := by unfold odN; rw [if_pos z]
          rw [if_pos z]
          rw [en] at key
          exact key
        · have en : J (odN w s) = 8 - J (bc (w 8 (tp w s))) := by unfold odN; rw [if_neg z, l_8, J_sub bw]
          rw [if_neg z, Option.bind_some, Option.bind_some, l_312, J_add, ra_tp W0.2.2.1 s1, Option.bind_some, ← s2, nn_id t1, m_pages W0.2.2.1 R t1, Option.bind_some, bc_J (by omega), Option.bind_some, ← en]
          exact key
      · rw [if_neg (fun y => h2 (of_decide_eq_true y))]
        exact bad (fun z => h2 z.2.2)
    · rw [if_neg (fun y => h1 (of_decide_eq_true y))]
      exact bad (fun z => h1 z.2.1)
  · rw [if_neg h0]
    exact bad (fun z => h0 z.1)
end OD
