/-! bits counted -/
def cnt (f : Nat → Bool) : Nat → Nat
  | 0 => 0
  | n + 1 => cnt f n + (if f n = true then 1 else 0)
def bc (n : Nat) : Nat := cnt (fun i => n.testBit i) 24
theorem cnt_congr {f g : Nat → Bool} : ∀ {n : Nat}, (∀ i, i < n → f i = g i) → cnt f n = cnt g n
  | 0, _ => rfl
  | n + 1, h => by
    show cnt f n + _ = cnt g n + _
    rw [cnt_congr (fun i hi => h i (by omega)), h n (by omega)]
theorem cnt_le {f : Nat → Bool} : ∀ {n : Nat}, cnt f n ≤ n
  | 0 => Nat.le_refl _
  | n + 1 => by
    show cnt f n + _ ≤ _
    have := cnt_le (f := f) (n := n)
    split <;> omega
theorem cnt_full {f : Nat → Bool} : ∀ {n : Nat}, cnt f n = n → ∀ i, i < n → f i = true
  | 0, _, i, hi => absurd hi (Nat.not_lt_zero i)
  | n + 1, h, i, hi => by
    have h1 : cnt f n + (if f n = true then 1 else 0) = n + 1 := h
    have h2 := cnt_le (f := f) (n := n)
    by_cases h3 : f n = true
    · rw [if_pos h3] at h1
      by_cases h4 : i = n
      · subst h4; exact h3
      · exact cnt_full (n := n) (by omega) i (by omega)
    · rw [if_neg h3] at h1
      omega
theorem cnt_upd {f g : Nat → Bool} {p : Nat} (hf : f p = false) (hg : g p = true) (h : ∀ i, i ≠ p → f i = g i) : ∀ {n : Nat}, p < n → cnt g n = cnt f n + 1
  | 0, hp => absurd hp (Nat.not_lt_zero p)
  | n + 1, hp => by
    show cnt g n + _ = cnt f n + _ + 1
    by_cases h1 : p = n
    · subst h1
      rw [cnt_congr (f := g) (g := f) (fun i hi => (h i (by omega)).symm), hf, hg]
      simp
    · rw [cnt_upd hf hg h (n := n) (by omega), h n (Ne.symm h1)]
      omega
theorem cnt_mono {f g : Nat → Bool} (h : ∀ i, f i = true → g i = true) : ∀ {n : Nat}, cnt f n ≤ cnt g n
  | 0 => Nat.le_refl _
  | n + 1 => by
    show cnt f n + _ ≤ cnt g n + _
    have := cnt_mono h (n := n)
    by_cases h1 : f n = true
    · rw [if_pos h1, if_pos (h n h1)]; omega
    · rw [if_neg h1]; split <;> omega
theorem cnt_lt {f g : Nat → Bool} {p : Nat} (h : ∀ i, f i = true → g i = true) (hf : f p = false) (hg : g p = true) : ∀ {n : Nat}, p < n → cnt f n < cnt g n
  | 0, hp => absurd hp (Nat.not_lt_zero p)
  | n + 1, hp => by
    show cnt f n + _ < cnt g n + _
    by_cases h1 : p = n
    · subst h1
      have := cnt_mono h (n := p)
      rw [hf, hg]
      simp
      omega
    · have := cnt_lt h hf hg (n := n) (by omega)
      by_cases h2 : f n = true
      · rw [if_pos h2, if_pos (h n h2)]; omega
      · rw [if_neg h2]; split <;> omega
theorem bc_le (n : Nat) : bc n ≤ 24 := cnt_le
theorem bc_bset {n p : Nat} (hp : p < 24) : bc (bset n p) = bc n + (if n.testBit p = true then 0 else 1) := by
  by_cases h : n.testBit p = true
  · rw [if_pos h, Nat.add_zero]
    unfold bc
    refine cnt_congr fun i _ => ?_
    rw [bset_tb]
    by_cases hi : i = p
    · subst hi; simp [h]
    · simp [hi]
  · rw [if_neg h]
    unfold bc
    refine cnt_upd (p := p) (by simpa using h) (by rw [bset_tb]; simp) (fun i hi => ?_) hp
    rw [bset_tb]; simp [hi]
theorem bc_bclr {n p : Nat} (hp : p < 24) : bc n = bc (bclr n p) + (if n.testBit p = true then 1 else 0) := by
  by_cases h : n.testBit p = true
  · rw [if_pos h]
    unfold bc
    refine cnt_upd (p := p) (by rw [bclr_tb]; simp) h (fun i hi => ?_) hp
    rw [bclr_tb]; simp [hi]
  · rw [if_neg h, Nat.add_zero]
    unfold bc
    refine cnt_congr fun i _ => ?_
    rw [bclr_tb]
    by_cases hi : i = p
    · subst hi; simpa using h
    · simp [hi]
theorem bc_full {n : Nat} (h : bc n = 24) : ∀ i, i < 24 → n.testBit i = true := cnt_full h
/-! the JDK's bitCount, on 24 bits -/
def bcr (n : Nat) : Nat :=
  let a := n - ((n >>> 1) &&& 1431655765)
  let b := (a &&& 858993459) + ((a >>> 2) &&& 858993459)
  let c := (b + (b >>> 4)) &&& 252645135
  let d := c + (c >>> 8)
  let e := d + (d >>> 16)
  e &&& 63
theorem bcr_J {h : AH} {n : Nat} (hn : n < 16777216) : fJ6_bitCount_0f7a4 h (J n) = some (J (bcr n)) := by
  unfold fJ6_bitCount_0f7a4 bcr
  have m1 : (1431655765 : Int32) = J 1431655765 := rfl
  have m2 : (858993459 : Int32) = J 858993459 := rfl
  have m3 : (252645135 : Int32) = J 252645135 := rfl
  have m4 : (63 : Int32) = J 63 := rfl
  have h1 : (n >>> 1) &&& 1431655765 ≤ n := Nat.le_trans Nat.and_le_left (Nat.shiftRight_le n 1)
  generalize ha : n - ((n >>> 1) &&& 1431655765) = a
  have la : a < 16777216 := by omega
  have b1 : a &&& 858993459 ≤ a := Nat.and_le_left
  have b2 : (a >>> 2) &&& 858993459 ≤ a := Nat.le_trans Nat.and_le_left (Nat.shiftRight_le a 2)
  generalize hb : (a &&& 858993459) + ((a >>> 2) &&& 858993459) = b
  have lb : b < 33554432 := by omega
  have b3 : b >>> 4 ≤ b := Nat.shiftRight_le b 4
  generalize hc : (b + (b >>> 4)) &&& 252645135 = c
  have lc : c < 67108864 := by
    have : (b + (b >>> 4)) &&& 252645135 ≤ b + (b >>> 4) := Nat.and_le_left
    omega
  have c3 : c >>> 8 ≤ c := Nat.shiftRight_le c 8
  generalize hd : c + (c >>> 8) = d
  have ld : d < 134217728 := by omega
  simp (disch := omega) only [letF, l_1, l_2, l_4, l_8, l_16, m1, m2, m3, m4, J_ush, J_and, J_sub, ha, J_add, hb, hc, hd]
theorem cat_tb {a b i : Nat} (ha : a < 256) : (256 * b + a).testBit i = if i < 8 then a.testBit i else b.testBit (i - 8) := by
  have := Nat.testBit_two_pow_mul_add b (b := a) (i := 8) ha i
  simpa using this
theorem and_cat {a b m c : Nat} (ha : a < 256) (hm : m < 256) : (256 * b + a) &&& (256 * c + m) = 256 * (b &&& c) + (a &&& m) := by
  apply Nat.eq_of_testBit_eq
  intro i
  have h1 : a &&& m < 256 := Nat.lt_of_le_of_lt Nat.and_le_left ha
  rw [Nat.testBit_and, cat_tb ha, cat_tb hm, cat_tb h1, Nat.testBit_and, Nat.testBit_and]
  split <;> rfl
theorem shr_cat {a b : Nat} (k : Nat) (ha : a < 256) (hk : k ≤ 8) : (256 * b + a) >>> k = 256 * (b >>> k) + ((256 * (b % 2 ^ k) + a) >>> k) := by
  rw [Nat.shiftRight_eq_div_pow, Nat.shiftRight_eq_div_pow, Nat.shiftRight_eq_div_pow]
  have h0 : 0 < 2 ^ k := Nat.two_pow_pos k
  have h1 := Nat.div_add_mod b (2 ^ k)
  have e : 256 * b + a = 2 ^ k * (256 * (b / 2 ^ k)) + (256 * (b % 2 ^ k) + a) := by
    rw [Nat.mul_left_comm, ← Nat.add_assoc, ← Nat.mul_add, h1]
  rw [e, Nat.mul_add_div h0]
def s1 (b : Nat) : Nat := b - ((b >>> 1) &&& 85)
def s2 (a : Nat) : Nat := (a &&& 51) + ((a >>> 2) &&& 51)
def s3 (b : Nat) : Nat := (b + (b >>> 4)) &&& 15
theorem t1 : ∀ b : Nat, b < 256 → ∀ x : Nat, x < 2 → ((256 * x + b) >>> 1) &&& 85 = (b >>> 1) &&& 85 ∧ (b >>> 1) &&& 85 ≤ b ∧ (256 * x + b) >>> 1 < 256 ∧ (b >>> 1) &&& 21845 = (b >>> 1) &&& 85 ∧ s1 b < 256 := by decide +kernel
theorem t2 : ∀ b : Nat, b < 256 → ∀ x : Nat, x < 4 → ((256 * x + b) >>> 2) &&& 51 = (b >>> 2) &&& 51 ∧ s2 b < 256 ∧ (256 * x + b) >>> 2 < 256 ∧ (b >>> 2) &&& 13107 = (b >>> 2) &&& 51 ∧ b &&& 13107 = b &&& 51 := by decide +kernel
theorem t3 : ∀ b : Nat, b < 69 → ∀ x : Nat, x < 5 → (b + ((256 * x + b) >>> 4)) &&& 15 = s3 b ∧ b + ((256 * x + b) >>> 4) < 256 ∧ (b + (b >>> 4)) &&& 3855 = s3 b := by decide +kernel
theorem t4 : ∀ b : Nat, b < 256 → s2 (s1 b) < 69 ∧ s2 (s1 b) % 16 < 5 ∧ s3 (s2 (s1 b)) = cnt (fun i => b.testBit i) 8 := by decide +kernel
theorem cnt_add (f : Nat → Bool) (m : Nat) : ∀ n, cnt f (m + n) = cnt f m + cnt (fun i => f (m + i)) n
  | 0 => rfl
  | n + 1 => by
    show cnt f (m + n) + (if f (m + n) = true then 1 else 0) = cnt f m + (cnt (fun i => f (m + i)) n + (if f (m + n) = true then 1 else 0))
    rw [cnt_add f m n, Nat.add_assoc]
theorem step1 {b0 b1 b2 : Nat} (h0 : b0 < 256) (h1 : b1 < 256) (h2 : b2 < 256) : (256 * (256 * b2 + b1) + b0) - (((256 * (256 * b2 + b1) + b0) >>> 1) &&& 1431655765) = 256 * (256 * s1 b2 + s1 b1) + s1 b0 := by
  have e : 1431655765 = 256 * (256 * 21845 + 85) + 85 := rfl
  have y1 := t1 b0 h0 ((256 * b2 + b1) % 2) (Nat.mod_lt _ (by decide))
  have y2 := t1 b1 h1 (b2 % 2) (Nat.mod_lt _ (by decide))
  have y3 := t1 b2 h2 0 (by decide)
  rw [shr_cat 1 h0 (by decide), shr_cat 1 h1 (by decide), e]
  rw [and_cat y1.2.2.1 (by decide), and_cat y2.2.2.1 (by decide)]
  rw [y1.1, y2.1, y3.2.2.2.1]
  have z0 := y1.2.1
  have z1 := y2.2.1
  have z2 := y3.2.1
  unfold s1
  omega
theorem step2 {b0 b1 b2 : Nat} (h0 : b0 < 256) (h1 : b1 < 256) (h2 : b2 < 256) : ((256 * (256 * b2 + b1) + b0) &&& 858993459) + (((256 * (256 * b2 + b1) + b0) >>> 2) &&& 858993459) = 256 * (256 * s2 b2 + s2 b1) + s2 b0 := by
  have e : 858993459 = 256 * (256 * 13107 + 51) + 51 := rfl
  have y1 := t2 b0 h0 ((256 * b2 + b1) % 4) (Nat.mod_lt _ (by decide))
  have y2 := t2 b1 h1 (b2 % 4) (Nat.mod_lt _ (by decide))
  have y3 := t2 b2 h2 0 (by decide)
  rw [shr_cat 2 h0 (by decide), shr_cat 2 h1 (by decide), e]
  rw [and_cat y1.2.2.1 (by decide), and_cat y2.2.2.1 (by decide), and_cat h0 (by decide), and_cat h1 (by decide)]
  rw [y1.1, y2.1, y3.2.2.2.1, y3.2.2.2.2]
  unfold s2
  omega
theorem step3 {e0 e1 e2 : Nat} (h0 : e0 < 69) (h1 : e1 < 69) (h2 : e2 < 69) (k1 : e1 % 16 < 5) (k2 : e2 % 16 < 5) : ((256 * (256 * e2 + e1) + e0) + ((256 * (256 * e2 + e1) + e0) >>> 4)) &&& 252645135 = 256 * (256 * s3 e2 + s3 e1) + s3 e0 := by
  have e : 252645135 = 256 * (256 * 3855 + 15) + 15 := rfl
  have m1 : (256 * e2 + e1) % 16 = e1 % 16 := by omega
  obtain ⟨y1, y1', -⟩ := t3 e0 h0 (e1 % 16) k1
  obtain ⟨y2, y2', -⟩ := t3 e1 h1 (e2 % 16) k2
  obtain ⟨-, -, y3⟩ := t3 e2 h2 0 (by decide)
  rw [shr_cat 4 (Nat.lt_trans h0 (by decide)) (by decide), shr_cat 4 (Nat.lt_trans h1 (by decide)) (by decide), e, m1]
  have g : 256 * (256 * e2 + e1) + e0 + (256 * (256 * (e2 >>> 4) + (256 * (e2 % 16) + e1) >>> 4) + (256 * (e1 % 16) + e0) >>> 4) = 256 * (256 * (e2 + e2 >>> 4) + (e1 + (256 * (e2 % 16) + e1) >>> 4)) + (e0 + (256 * (e1 % 16) + e0) >>> 4) := by omega
  rw [g, and_cat y1' (by decide), and_cat y2' (by decide), y1, y2, y3]
theorem cnt8 {b a : Nat} (ha : a < 256) : cnt (fun i => (256 * b + a).testBit i) 8 = cnt (fun i => a.testBit i) 8 := cnt_congr fun i hi => by
  rw [cat_tb ha, if_pos hi]
theorem bc_J {h : AH} {n : Nat} (hn : n < 16777216) : fJ6_bitCount_0f7a4 h (J n) = some (J (bc n)) := by
  rw [bcr_J hn]
  congr 2
  have h0 : n % 256 < 256 := Nat.mod_lt _ (by decide)
  have h1 : n / 256 % 256 < 256 := Nat.mod_lt _ (by decide)
  have h2 : n / 65536 < 256 := by omega
  have en : n = 256 * (256 * (n / 65536) + n / 256 % 256) + n % 256 := by omega
  generalize n % 256 = b0 at h0 en
  generalize n / 256 % 256 = b1 at h1 en
  generalize n / 65536 = b2 at h2 en
  subst en
  have q0 := t4 b0 h0
  have q1 := t4 b1 h1
  have q2 := t4 b2 h2
  unfold bcr
  rw [step1 h0 h1 h2]
  dsimp only
  rw [step2 (t1 b0 h0 0 (by decide)).2.2.2.2 (t1 b1 h1 0 (by decide)).2.2.2.2 (t1 b2 h2 0 (by decide)).2.2.2.2]
  rw [step3 q0.1 q1.1 q2.1 q1.2.1 q2.2.1]
  rw [q0.2.2, q1.2.2, q2.2.2]
  have eb : bc (256 * (256 * b2 + b1) + b0) = cnt (fun i => b0.testBit i) 8 + (cnt (fun i => b1.testBit i) 8 + cnt (fun i => b2.testBit i) 8) := by
    unfold bc
    rw [cnt_add _ 8 16, cnt_add _ 8 8, cnt8 h0]
    congr 1
    congr 1
    · refine cnt_congr fun i hi => ?_
      rw [cat_tb h0, if_neg (by omega), show 8 + i - 8 = i by omega, cat_tb h1, if_pos hi]
    · refine cnt_congr fun i hi => ?_
      rw [cat_tb h0, if_neg (by omega), show 8 + (8 + i) - 8 = 8 + i by omega, cat_tb h1, if_neg (by omega), show 8 + i - 8 = i by omega]
  rw [eb]
  have z0 : cnt (fun i => b0.testBit i) 8 ≤ 8 := cnt_le
  have z1 : cnt (fun i => b1.testBit i) 8 ≤ 8 := cnt_le
  have z2 : cnt (fun i => b2.testBit i) 8 ≤ 8 := cnt_le
  generalize cnt (fun i => b0.testBit i) 8 = f0 at z0 ⊢
  generalize cnt (fun i => b1.testBit i) 8 = f1 at z1 ⊢
  generalize cnt (fun i => b2.testBit i) 8 = f2 at z2 ⊢
  rw [show (63 : Nat) = 2 ^ 6 - 1 from rfl, Nat.and_two_pow_sub_one_eq_mod, Nat.shiftRight_eq_div_pow, Nat.shiftRight_eq_div_pow]
  have d1 : (256 * (256 * f2 + f1) + f0) / 2 ^ 8 = 256 * f2 + f1 := by omega
  rw [d1]
  have d2 : (256 * (256 * f2 + f1) + f0 + (256 * f2 + f1)) / 2 ^ 16 = f2 := by omega
  rw [d2]
  have d3 : 256 * (256 * f2 + f1) + f0 + (256 * f2 + f1) + f2 = 64 * (1028 * f2 + 4 * f1) + (f0 + f1 + f2) := by omega
  rw [d3]
  omega
/-! the least bit missing -/
def lm (n : Nat) : Nat → Nat → Nat
  | 0, k => k
  | m + 1, k => if n.testBit k = true then lm n m (k + 1) else k
theorem lm_and {n k : Nat} (hn : n < 16777216) (hk : k ≤ 24) (h1 : ∀ i, i < k → n.testBit i = true) (h2 : n.testBit k = false) : n &&& (4294967294 - n) = 2 ^ k - 1 := by
  have hp : 0 < 2 ^ k := Nat.two_pow_pos k
  have e0 : 2 ^ (k + 1) = 2 * 2 ^ k := by rw [Nat.pow_succ, Nat.mul_comm]
  have e1 : n % 2 ^ (k + 1) = 2 ^ k - 1 := by
    apply Nat.eq_of_testBit_eq
    intro i
    rw [Nat.testBit_mod_two_pow, Nat.testBit_two_pow_sub_one]
    by_cases hi : i < k
    · rw [h1 i hi, decide_eq_true hi, decide_eq_true (show i < k + 1 by omega)]; rfl
    · rw [decide_eq_false hi]
      by_cases hi2 : i = k
      · subst hi2; rw [h2]; simp
      · rw [decide_eq_false (show ¬ i < k + 1 by omega)]; rfl
  have e2 := Nat.div_add_mod n (2 ^ (k + 1))
  rw [e1] at e2
  generalize hq : n / 2 ^ (k + 1) = q at e2
  have hT : 2 ^ (k + 1) * 2 ^ (31 - k) = 4294967296 := by
    rw [← Nat.pow_add, show k + 1 + (31 - k) = 32 by omega]
  generalize hT' : 2 ^ (31 - k) = T at hT
  have hqT : q < T := by
    apply Nat.lt_of_mul_lt_mul_left (a := 2 ^ (k + 1))
    omega
  have e3 : 4294967294 - n = 2 ^ (k + 1) * (T - (q + 1)) + (2 ^ k - 1) := by
    rw [Nat.mul_sub, Nat.mul_add, Nat.mul_one, hT]
    have : 2 ^ (k + 1) * (q + 1) ≤ 2 ^ (k + 1) * T := Nat.mul_le_mul_left _ hqT
    rw [Nat.mul_add, Nat.mul_one, hT] at this
    omega
  have hl : 2 ^ k - 1 < 2 ^ (k + 1) := by omega
  rw [e3]
  conv => lhs; arg 1; rw [← e2]
  apply Nat.eq_of_testBit_eq
  intro i
  rw [Nat.testBit_and, Nat.testBit_two_pow_mul_add _ hl, Nat.testBit_two_pow_mul_add _ hl]
  by_cases hi : i < k + 1
  · rw [if_pos hi, if_pos hi, Bool.and_self]
  · rw [if_neg hi, if_neg hi, ← hT', Nat.testBit_two_pow_sub_succ (by rw [hT']; exact hqT), Nat.testBit_two_pow_sub_one, decide_eq_false (show ¬ i < k by omega)]
    cases q.testBit (i - (k + 1)) <;> simp
theorem ntz_rest : ∀ k : Nat, k ≤ 24 → (if 0 < J (2 ^ k - 1) then (if J (2 ^ k - 1) ≤ 65536 then fJ6_numberOfTrailingZeros_0f7a4_J34 (fun _ => none, 0) (J (2 ^ k - 1)) 1 else letF (1 + 16 : Int32) fun x8 => letF (jush (J (2 ^ k - 1)) 16 : Int32) fun x9 => fJ6_numberOfTrailingZeros_0f7a4_J34 (fun _ => none, 0) x9 x8) else some (J (2 ^ k - 1) &&& 32)) = some (J k) := by decide +kernel
theorem ntz_J {h : AH} {n k : Nat} (hn : n < 16777216) (hk : k ≤ 24) (h1 : ∀ i, i < k → n.testBit i = true) (h2 : n.testBit k = false) : fJ6_numberOfTrailingZeros_0f7a4 h (J n ^^^ (-1)) = some (J k) := by
  unfold fJ6_numberOfTrailingZeros_0f7a4
  have e : ∀ x : Nat, x ^^^ 4294967295 = 4294967295 ^^^ x := fun x => Nat.xor_comm _ _
  have c1 : n ^^^ 4294967295 = 4294967295 - n := by
    apply Nat.eq_of_testBit_eq
    intro i
    rw [show 4294967295 - n = 2 ^ 32 - (n + 1) by omega, Nat.testBit_two_pow_sub_succ (by omega), Nat.testBit_xor, show 4294967295 = 2 ^ 32 - 1 from rfl, Nat.testBit_two_pow_sub_one]
    by_cases hi : i < 32
    · rw [decide_eq_true hi]; simp
    · rw [decide_eq_false hi, tb_hi (n := 32) (show n < 2 ^ 32 by omega) (by omega)]; rfl
  have c2 : (n ^^^ 4294967295) ^^^ 4294967295 = n := by rw [Nat.xor_assoc, Nat.xor_self, Nat.xor_zero]
  have x7 : ((J n ^^^ -1) ^^^ -1) &&& ((J n ^^^ -1) - 1) = J (2 ^ k - 1) := by
    rw [m1_J, J_xor, J_xor, c2, c1, l_1, J_sub (by omega), J_and, show 4294967295 - n - 1 = 4294967294 - n by omega, lm_and hn hk h1 h2]
  rw [x7]
  exact ntz_rest k hk
theorem lm_spec (n : Nat) : ∀ m k, (∀ i, i < k → n.testBit i = true) → n.testBit (k + m) = false → (∀ i, i < lm n m k → n.testBit i = true) ∧ n.testBit (lm n m k) = false ∧ lm n m k ≤ k + m
  | 0, k, h1, h2 => ⟨h1, h2, Nat.le_refl _⟩
  | m + 1, k, h1, h2 => by
    unfold lm
    by_cases h : n.testBit k = true
    · rw [if_pos h]
      have := lm_spec n m (k + 1) (fun i hi => by
        by_cases hik : i = k
        · subst hik; exact h
        · exact h1 i (by omega)) (by rw [show k + 1 + m = k + (m + 1) by omega]; exact h2)
      exact ⟨this.1, this.2.1, by omega⟩
    · rw [if_neg h]
      exact ⟨h1, by simpa using h, by omega⟩
theorem c_lm {h : AH} {n N : Nat} (hN : N ≤ 24) (hn : n < 2 ^ N) : fX9_leastMissing h (J n) (J N) = some (J (lm n N 0)) := by
  have h24 : n < 16777216 := Nat.lt_of_lt_of_le hn (Nat.pow_le_pow_right (n := 2) (by decide) hN)
  have s := lm_spec n N 0 (fun i hi => absurd hi (Nat.not_lt_zero i)) (by rw [Nat.zero_add]; exact tb_hi hn (Nat.le_refl _))
  unfold fX9_leastMissing
  rw [ntz_J h24 (by omega) s.1 s.2.1]
  show some (jmin (J N) (J (lm n N 0))) = _
  congr 1
  unfold jmin
  have := s.2.2
  by_cases hh : lm n N 0 = N
  · rw [hh]; simp
  · simp (disch := omega) only [J_le, J_lt]
    split <;> first | rfl | omega
