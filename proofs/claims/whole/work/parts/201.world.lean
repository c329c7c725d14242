/-! a world of the class, as a state: 0 tops (24: none), 1 (0: sharing bits, 1: space bits, 2: object bits, 3: writes), 2 pagers (4: not there), 3 digits, 4 shadows, 5 copies, 6 values, 7 awaited bits, 8 held bits -/
abbrev ST : Type := Nat → Nat → Nat
def put (σ : ST) (f k v : Nat) : ST := fun f' k' => if f' = f ∧ k' = k then v else σ f' k'
/-- ranges, and what is said twice -/
def RG (σ : ST) : Prop := (∀ s, s < 6 → σ 0 s ≤ 24) ∧ (σ 1 0 < 64 ∧ σ 1 1 < 64 ∧ σ 1 2 < 16777216 ∧ σ 1 3 < 4294967296) ∧ (∀ o, o < 24 → σ 2 o ≤ 4 ∧ σ 3 o ≤ 9 ∧ σ 4 o ≤ 24 ∧ σ 5 o ≤ 24 ∧ σ 7 o < 256 ∧ σ 8 o < 256) ∧ (∀ k, k < 192 → σ 6 k < 100) ∧
  (∀ s, s < 6 → (σ 1 1).testBit s = decide (σ 0 s < 24)) ∧ (∀ o, o < 24 → (σ 1 2).testBit o = decide (σ 2 o < 4)) ∧ (∀ o, o < 24 → ¬ σ 2 o < 4 → σ 4 o = 24 ∧ σ 5 o = 24 ∧ σ 7 o = 0 ∧ σ 8 o = 0)
def WC (h : AH) (w : Nat) (A : Nat → Nat → Int32) (I : Nat → Int32) : Prop :=
  h.1 w = some (.inr (9, [.int (I 0), .int (I 1), .int (I 2), .int (I 3), .ref (w + 1), .ref (w + 2), .ref (w + 3), .ref (w + 4), .ref (w + 5), .ref (w + 6), .ref (w + 7), .ref (w + 8), .int (I 4), .int (I 5)])) ∧
  h.1 (w + 1) = some (.inl (0, 6, .inl (A 0))) ∧ h.1 (w + 2) = some (.inl (0, 24, .inl (A 1))) ∧ h.1 (w + 3) = some (.inl (0, 24, .inl (A 2))) ∧ h.1 (w + 4) = some (.inl (0, 24, .inl (A 3))) ∧ h.1 (w + 5) = some (.inl (0, 24, .inl (A 4))) ∧ h.1 (w + 6) = some (.inl (0, 24, .inl (A 5))) ∧ h.1 (w + 7) = some (.inl (0, 24, .inl (A 6))) ∧ h.1 (w + 8) = some (.inl (0, 192, .inl (A 7)))
def WS (A : Nat → Nat → Int32) (I : Nat → Int32) (σ : ST) : Prop :=
  (I 0 = J (σ 1 1) ∧ I 1 = J (σ 1 0) ∧ I 2 = J (σ 1 2) ∧ I 3 = J (σ 1 3)) ∧ (∀ s, s < 6 → A 0 s = J (σ 0 s)) ∧ (∀ o, o < 24 → A 1 o = J (σ 8 o)) ∧ (∀ o, o < 24 → A 2 o = J (σ 7 o)) ∧ (∀ o, o < 24 → A 3 o = J (σ 4 o)) ∧ (∀ o, o < 24 → A 4 o = J (σ 5 o)) ∧
  (∀ o, o < 24 → σ 2 o < 4 → A 5 o = J (σ 2 o)) ∧ (∀ o, o < 24 → σ 2 o < 4 → A 6 o = J (σ 3 o)) ∧ (∀ o p, o < 24 → p < 8 → (σ 8 o).testBit p = true → A 7 (8 * o + p) = J (σ 6 (8 * o + p)))
def WR (h : AH) (w : Nat) (σ : ST) : Prop := ∃ A I, WC h w A I ∧ WS A I σ
section WR
variable {h : AH} {w : Nat} {σ : ST}
theorem wr_h (W : WR h w σ) : hasC h 9 w = true := by
  obtain ⟨A, I, C, S⟩ := W
  exact hasC_at C.1
theorem wr_i0 (W : WR h w σ) : gI h 9 w 0 = some (J (σ 1 1)) := by
  obtain ⟨A, I, C, S⟩ := W
  rw [← S.1.1]
  exact gI_at C.1 rfl
theorem wr_i1 (W : WR h w σ) : gI h 9 w 1 = some (J (σ 1 0)) := by
  obtain ⟨A, I, C, S⟩ := W
  rw [← S.1.2.1]
  exact gI_at C.1 rfl
theorem wr_i2 (W : WR h w σ) : gI h 9 w 2 = some (J (σ 1 2)) := by
  obtain ⟨A, I, C, S⟩ := W
  rw [← S.1.2.2.1]
  exact gI_at C.1 rfl
theorem wr_i3 (W : WR h w σ) : gI h 9 w 3 = some (J (σ 1 3)) := by
  obtain ⟨A, I, C, S⟩ := W
  rw [← S.1.2.2.2]
  exact gI_at C.1 rfl
theorem wr_r4 (W : WR h w σ) : gR h 9 w 4 = some (w + 1) := by
  obtain ⟨A, I, C, S⟩ := W
  exact gR_at C.1 rfl
theorem wr_r5 (W : WR h w σ) : gR h 9 w 5 = some (w + 2) := by
  obtain ⟨A, I, C, S⟩ := W
  exact gR_at C.1 rfl
theorem wr_r6 (W : WR h w σ) : gR h 9 w 6 = some (w + 3) := by
  obtain ⟨A, I, C, S⟩ := W
  exact gR_at C.1 rfl
theorem wr_r7 (W : WR h w σ) : gR h 9 w 7 = some (w + 4) := by
  obtain ⟨A, I, C, S⟩ := W
  exact gR_at C.1 rfl
theorem wr_r8 (W : WR h w σ) : gR h 9 w 8 = some (w + 5) := by
  obtain ⟨A, I, C, S⟩ := W
  exact gR_at C.1 rfl
theorem wr_r9 (W : WR h w σ) : gR h 9 w 9 = some (w + 6) := by
  obtain ⟨A, I, C, S⟩ := W
  exact gR_at C.1 rfl
theorem wr_r10 (W : WR h w σ) : gR h 9 w 10 = some (w + 7) := by
  obtain ⟨A, I, C, S⟩ := W
  exact gR_at C.1 rfl
theorem wr_r11 (W : WR h w σ) : gR h 9 w 11 = some (w + 8) := by
  obtain ⟨A, I, C, S⟩ := W
  exact gR_at C.1 rfl
theorem wr_a0 (W : WR h w σ) : ∀ i : Nat, i < 6 → aI h 0 (w + 1) (J i) = some (J (σ 0 i)) := by
  obtain ⟨A, I, C, S⟩ := W
  intro i hi
  rw [← S.2.1 i hi]
  exact aI_at C.2.1 hi (by decide)
theorem wr_a1 (W : WR h w σ) : ∀ i : Nat, i < 24 → aI h 0 (w + 2) (J i) = some (J (σ 8 i)) := by
  obtain ⟨A, I, C, S⟩ := W
  intro i hi
  rw [← S.2.2.1 i hi]
  exact aI_at C.2.2.1 hi (by decide)
theorem wr_a2 (W : WR h w σ) : ∀ i : Nat, i < 24 → aI h 0 (w + 3) (J i) = some (J (σ 7 i)) := by
  obtain ⟨A, I, C, S⟩ := W
  intro i hi
  rw [← S.2.2.2.1 i hi]
  exact aI_at C.2.2.2.1 hi (by decide)
theorem wr_a3 (W : WR h w σ) : ∀ i : Nat, i < 24 → aI h 0 (w + 4) (J i) = some (J (σ 4 i)) := by
  obtain ⟨A, I, C, S⟩ := W
  intro i hi
  rw [← S.2.2.2.2.1 i hi]
  exact aI_at C.2.2.2.2.1 hi (by decide)
theorem wr_a4 (W : WR h w σ) : ∀ i : Nat, i < 24 → aI h 0 (w + 5) (J i) = some (J (σ 5 i)) := by
  obtain ⟨A, I, C, S⟩ := W
  intro i hi
  rw [← S.2.2.2.2.2.1 i hi]
  exact aI_at C.2.2.2.2.2.1 hi (by decide)
theorem wr_a5 (W : WR h w σ) : ∀ i : Nat, i < 24 → σ 2 i < 4 → aI h 0 (w + 6) (J i) = some (J (σ 2 i)) := by
  obtain ⟨A, I, C, S⟩ := W
  intro i hi h4
  rw [← S.2.2.2.2.2.2.1 i hi h4]
  exact aI_at C.2.2.2.2.2.2.1 hi (by decide)
theorem wr_a6 (W : WR h w σ) : ∀ i : Nat, i < 24 → σ 2 i < 4 → aI h 0 (w + 7) (J i) = some (J (σ 3 i)) := by
  obtain ⟨A, I, C, S⟩ := W
  intro i hi h4
  rw [← S.2.2.2.2.2.2.2.1 i hi h4]
  exact aI_at C.2.2.2.2.2.2.2.1 hi (by decide)
theorem wr_a7 (W : WR h w σ) : ∀ o p : Nat, o < 24 → p < 8 → (σ 8 o).testBit p = true → aI h 0 (w + 8) (J (8 * o + p)) = some (J (σ 6 (8 * o + p))) := by
  obtain ⟨A, I, C, S⟩ := W
  intro o p ho hp hb
  rw [← S.2.2.2.2.2.2.2.2 o p ho hp hb]
  exact aI_at C.2.2.2.2.2.2.2.2 (by omega) (by decide)
end WR
/-! loops -/
def fold {β : Type} (g : Nat → β → β) : Nat → Nat → β → β
  | 0, _, b => b
  | m + 1, k, b => fold g m (k + 1) (g k b)
theorem loop_fold {β γ : Type} (F : Nat → Nat → β → Option γ) (N : Nat) (g : Nat → β → β) (fin : β → Option γ) (hs : ∀ n k b, k < N → F (n + 1) k b = F n (k + 1) (g k b)) (he : ∀ n b, F (n + 1) N b = fin b) : ∀ (m n k : Nat) (b : β), k + m = N → m < n → F n k b = fin (fold g m k b)
  | 0, n + 1, k, b, h1, _ => by
    have : k = N := by omega
    subst this
    exact he n b
  | m + 1, n + 1, k, b, h1, h2 => by
    rw [hs n k b (by omega)]
    exact loop_fold F N g fin hs he m n (k + 1) (g k b) (by omega) (by omega)
/-! what is asked of a world -/
def ho (σ : ST) (n : Nat) : Bool := decide (n < 24) && decide (σ 2 n < 4)
def hs (σ : ST) (n : Nat) : Bool := decide (n < 6) && decide (σ 0 n < 24)
def hd (σ : ST) (n p : Nat) : Bool := decide (n < 24) && (decide (p < 8) && (σ 8 n).testBit p)
def tp (σ : ST) (n : Nat) : Nat := if n < 6 then σ 0 n else 24
def at24 (σ : ST) (f n : Nat) : Nat := if n < 24 then σ f n else 24
def at0 (σ : ST) (f n : Nat) : Nat := if n < 24 then σ f n else 0
def fh (σ : ST) (p : Nat) : Nat → Nat → Nat
  | 0, _ => 24
  | k + 1, o => if ho σ o = true then (if hd σ o p = true then o else fh σ p k (σ 4 o)) else 24
def dep (σ : ST) : Nat → Nat → Nat
  | 0, _ => 0
  | k + 1, o => if ho σ o = true then dep σ k (σ 4 o) + 1 else 0
def plc (σ : ST) (x : Nat) : Nat → Nat → Nat
  | 0, _ => 0
  | k + 1, o => if ho σ o = true ∧ o ≠ x then plc σ x k (σ 4 o) + 1 else 0
def lst (σ : ST) : Nat → Nat → Nat
  | 0, o => o
  | k + 1, o => if ho σ (at24 σ 4 o) = true then lst σ k (σ 4 o) else o
theorem ho_lt {σ : ST} {n : Nat} (h : ho σ n = true) : n < 24 ∧ σ 2 n < 4 := by
  unfold ho at h
  simpa using h
theorem hd_lt {σ : ST} {n p : Nat} (h : hd σ n p = true) : n < 24 ∧ p < 8 ∧ (σ 8 n).testBit p = true := by
  unfold hd at h
  simpa using h
theorem hs_lt {σ : ST} {n : Nat} (h : hs σ n = true) : n < 6 ∧ σ 0 n < 24 := by
  unfold hs at h
  simpa using h
section CL
variable {h : AH} {w : Nat} {σ : ST}
theorem c_isPage {n : Nat} (hn : n < 4294967296) : fX10_isPage h (J n) = some (decide (n < 8)) := by
  unfold fX10_isPage
  by_cases h1 : n < 8
  · simp (disch := omega) only [l_0, l_8, J_lt, J_le]
    rw [if_neg (by omega), if_neg (by omega), decide_eq_true h1]
  · simp (disch := omega) only [l_0, l_8, J_lt, J_le]
    rw [decide_eq_false h1]
    by_cases h2 : 2147483648 ≤ n
    · rw [if_pos (by omega)]
    · rw [if_neg (by omega), if_pos (by omega)]
theorem c_isIn {a n : Nat} (ha : a < 4294967296) (hn : n < 4294967296) : fX10_isIn h (J a) (J n) = some (a.testBit n) := by
  unfold fX10_isIn
  simp (disch := omega) only [l_0, l_32, J_lt, J_le]
  by_cases h1 : n < 32
  · rw [if_neg (by omega), if_neg (by omega)]
    simp (disch := omega) only [tb_ush]
    cases a.testBit n <;> rfl
  · rw [tb_hi (n := 32) ha (by omega)]
    by_cases h2 : 2147483648 ≤ n
    · rw [if_pos (by omega)]
    · rw [if_neg (by omega), if_pos (by omega)]
theorem c_ho (W : WR h w σ) (R : RG σ) {n : Nat} (hn : n < 4294967296) : fX9_hasObject h w (J n) = some (ho σ n) := by
  unfold fX9_hasObject ho
  have r1 := R.2.1.2.2.1
  simp (disch := omega) only [wr_h W, if_true, l_0, l_24, J_lt, J_le, wr_i2 W, Option.bind_some]
  by_cases h1 : n < 24
  · rw [if_neg (by omega), if_neg (by omega)]
    simp (disch := omega) only [tb_ush, R.2.2.2.2.2.1 n h1, h1, decide_true, Bool.true_and]
    cases decide (σ 2 n < 4) <;> rfl
  · rw [decide_eq_false h1]
    by_cases h2 : 2147483648 ≤ n
    · rw [if_pos (by omega)]; rfl
    · rw [if_neg (by omega), if_pos (by omega)]; rfl
theorem c_hd (W : WR h w σ) (R : RG σ) {n p : Nat} (hn : n < 4294967296) (hp : p < 4294967296) : fX9_holds h w (J n) (J p) = some (hd σ n p) := by
  unfold fX9_holds
  simp (disch := omega) only [wr_h W, if_true, c_ho W R, c_isPage, Option.bind_some, decide_eq_true_eq]
  by_cases h1 : ho σ n = true
  · obtain ⟨h2, h3⟩ := ho_lt h1
    have r1 := (R.2.2.1 n h2).2.2.2.2.2
    unfold hd
    by_cases h4 : p < 8
    · simp (disch := omega) only [h1, h4, if_true, wr_r5 W, wr_a1 W, Option.bind_some, c_isIn, h2, decide_true, Bool.true_and]
      cases (σ 8 n).testBit p <;> rfl
    · simp [h1, h4]
  · unfold hd
    by_cases h2 : n < 24
    · have h3 : ¬ σ 2 n < 4 := fun h3 => h1 (by unfold ho; simp [h2, h3])
      rw [(R.2.2.2.2.2.2 n h2 h3).2.2.2]
      simp [h1]
    · simp [h1, h2]
theorem c_val (W : WR h w σ) (R : RG σ) {n p : Nat} (hn : n < 4294967296) (hp : p < 4294967296) : fX9_valueOf h w (J n) (J p) = some (J (if hd σ n p = true then σ 6 (8 * n + p) else 0)) := by
  unfold fX9_valueOf
  simp (disch := omega) only [wr_h W, if_true, c_hd W R, Option.bind_some]
  by_cases h1 : hd σ n p = true
  · obtain ⟨h2, h3, h4⟩ := hd_lt h1
    rw [if_pos h1, if_pos h1]
    simp (disch := omega) only [wr_r11 W, l_8, J_mul, J_add, Nat.mul_comm n 8, wr_a7 W n p h2 h3 h4, Option.bind_some]
  · rw [if_neg h1, if_neg h1]; rfl
theorem c_hs (W : WR h w σ) (R : RG σ) {n : Nat} (hn : n < 4294967296) : fX9_hasSpace h w (J n) = some (hs σ n) := by
  unfold fX9_hasSpace hs
  simp (disch := omega) only [wr_h W, if_true, l_0, l_6, J_lt, J_le, Option.bind_some]
  by_cases h1 : n < 6
  · have r1 := R.1 n h1
    rw [if_neg (by omega), if_neg (by omega)]
    simp (disch := omega) only [wr_r4 W, wr_a0 W, l_24, J_inj, Option.bind_some, h1, decide_true, Bool.true_and]
    by_cases h2 : σ 0 n = 24
    · rw [if_pos h2, decide_eq_false (by omega)]
    · rw [if_neg h2, decide_eq_true (by omega)]
  · rw [decide_eq_false h1]
    by_cases h2 : 2147483648 ≤ n
    · rw [if_pos (by omega)]; rfl
    · rw [if_neg (by omega), if_pos (by omega)]; rfl
theorem c_tp (W : WR h w σ) (R : RG σ) {n : Nat} (hn : n < 4294967296) : fX9_topOf h w (J n) = some (J (tp σ n)) := by
  unfold fX9_topOf tp
  simp (disch := omega) only [wr_h W, if_true, c_hs W R, Option.bind_some]
  by_cases h1 : hs σ n = true
  · obtain ⟨h2, h3⟩ := hs_lt h1
    rw [if_pos h1, if_pos h2]
    simp (disch := omega) only [wr_r4 W, wr_a0 W, Option.bind_some]
  · rw [if_neg h1]
    by_cases h2 : n < 6
    · have r1 := R.1 n h2
      have : ¬ σ 0 n < 24 := fun h3 => h1 (by unfold hs; simp [h2, h3])
      rw [if_pos h2, show σ 0 n = 24 by omega]; rfl
    · rw [if_neg h2]; rfl
end CL
