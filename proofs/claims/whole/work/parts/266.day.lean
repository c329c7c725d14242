/-! a day told as a text -/
def dIx (c : Nat) : Nat := if c = 97 then 4 else if c = 101 then 3 else if c = 102 then 3 else if c = 114 then 1 else if c = 116 then 3 else if c = 119 then 2 else 0
def dLn (i : Nat) : Nat := if i = 1 then 2 else if i = 2 then 4 else if i = 3 then 1 else if i = 4 then 5 else 0
def dHi (i j : Nat) : Nat := if i = 1 ∧ j = 1 ∨ i = 2 ∧ j = 1 ∨ i = 4 ∧ j = 2 then 55 else 57
theorem dIx_5 (c : Nat) : dIx c < 5 := by
  unfold dIx
  repeat' split
  all_goals omega
theorem dLn_5 (i : Nat) : dLn i ≤ 5 := by
  unfold dLn
  repeat' split
  all_goals omega
theorem st_len {h : AH} : ∀ i, i < 5 → fJ0_length_8abf5 h i = some (J (dLn i))
  | 0, _ => rfl
  | 1, _ => rfl
  | 2, _ => rfl
  | 3, _ => rfl
  | 4, _ => rfl
theorem st_emp {h : AH} : ∀ i, i < 5 → fJ0_isEmpty_aae02 h i = some (decide (dLn i = 0))
  | 0, _ => rfl
  | 1, _ => rfl
  | 2, _ => rfl
  | 3, _ => rfl
  | 4, _ => rfl
theorem st_at {h : AH} : ∀ i, i < 5 → ∀ j, j < dLn i → fJ0_charAt_5068e h i (J j) = some (J (dHi i j), h)
  | 0, _, j, hj => absurd hj (Nat.not_lt_zero j)
  | 1, _, 0, _ => rfl
  | 1, _, 1, _ => rfl
  | 1, _, j + 2, hj => absurd hj (by have : dLn 1 = 2 := rfl; omega)
  | 2, _, 0, _ => rfl
  | 2, _, 1, _ => rfl
  | 2, _, 2, _ => rfl
  | 2, _, 3, _ => rfl
  | 2, _, j + 4, hj => absurd hj (by have : dLn 2 = 4 := rfl; omega)
  | 3, _, 0, _ => rfl
  | 3, _, j + 1, hj => absurd hj (by have : dLn 3 = 1 := rfl; omega)
  | 4, _, 0, _ => rfl
  | 4, _, 1, _ => rfl
  | 4, _, 2, _ => rfl
  | 4, _, 3, _ => rfl
  | 4, _, 4, _ => rfl
  | 4, _, j + 5, hj => absurd hj (by have : dLn 4 = 5 := rfl; omega)
def dyP (tx : Nat → Nat) (n : Nat) : Nat → Nat → Nat → Nat → Nat
  | 0, _, _, _ => BIG
  | m + 1, a, i, j => if n ≤ a ∨ 60 ≤ a then (if 60 < n then 60 else if j < dLn i then n else BIG) else if dLn i ≤ j then (if dLn (dIx (tx a)) = 0 then a else dyP tx n m (a + 1) (dIx (tx a)) 0) else if 48 ≤ tx a ∧ tx a ≤ dHi i j then dyP tx n m (a + 1) i (j + 1) else a
def dyF (tx : Nat → Nat) (n : Nat) : Nat := dyP tx n 61 0 0 0
theorem dyP_r (tx : Nat → Nat) (n : Nat) : ∀ m a i j, a + m = 61 → dyP tx n m a i j = BIG ∨ dyP tx n m a i j ≤ 60
  | 0, a, i, j, e => Or.inl rfl
  | m + 1, a, i, j, e => by
    unfold dyP
    by_cases z : n ≤ a ∨ 60 ≤ a
    · rw [if_pos z]
      split
      · exact Or.inr (by omega)
      · split
        · exact Or.inr (by omega)
        · exact Or.inl rfl
    · rw [if_neg z]
      split
      · split
        · exact Or.inr (by omega)
        · exact dyP_r tx n m _ _ _ (by omega)
      · split
        · exact dyP_r tx n m _ _ _ (by omega)
        · exact Or.inr (by omega)
abbrev dL (tx : Nat → Nat) (a : Nat) : Nat := dLn (dIx (tx a))
def dAk (tx : Nat → Nat) (n a : Nat) : Prop := a < n ∧ 0 < dL tx a ∧ a + 1 + dL tx a ≤ n ∧ ∀ j, j < dL tx a → 48 ≤ tx (a + 1 + j) ∧ tx (a + 1 + j) ≤ dHi (dIx (tx a)) j
def dOk (tx : Nat → Nat) (n : Nat) : Nat → Nat → Prop
  | 0, a => a = n
  | N + 1, a => dAk tx n a ∧ dOk tx n N (a + 1 + dL tx a)
theorem dyP_ok {tx : Nat → Nat} {n : Nat} : ∀ m a i j, a + m = 61 → a ≤ n → a ≤ 60 → j ≤ dLn i → dyP tx n m a i j = BIG → a + (dLn i - j) ≤ n ∧ n ≤ 60 ∧ (∀ k, j ≤ k → k < dLn i → 48 ≤ tx (a + (k - j)) ∧ tx (a + (k - j)) ≤ dHi i k) ∧ ∃ N, dOk tx n N (a + (dLn i - j))
  | 0, a, i, j, e, ha, h6, _, _ => by omega
  | m + 1, a, i, j, e, ha, h6, hj, h => by
    have b2 : ∀ x, x ≤ 100 → ¬ x = BIG := fun x hx => big_40 hx
    unfold dyP at h
    by_cases z : n ≤ a ∨ 60 ≤ a
    · rw [if_pos z] at h
      by_cases z1 : 60 < n
      · rw [if_pos z1] at h
        exact absurd h (by decide)
      · rw [if_neg z1] at h
        by_cases z2 : j < dLn i
        · rw [if_pos z2] at h
          exact absurd h (b2 _ (by omega))
        · exact ⟨by omega, by omega, fun k h1 h2 => by omega, 0, by show a + (dLn i - j) = n; omega⟩
    · rw [if_neg z] at h
      by_cases z1 : dLn i ≤ j
      · rw [if_pos z1] at h
        by_cases z2 : dLn (dIx (tx a)) = 0
        · rw [if_pos z2] at h
          exact absurd h (b2 _ (by omega))
        · rw [if_neg z2] at h
          obtain ⟨k1, k2, k3, N, k4⟩ := dyP_ok m (a + 1) (dIx (tx a)) 0 (by omega) (by omega) (by omega) (Nat.zero_le _) h
          have e0 : a + (dLn i - j) = a := by omega
          refine ⟨by omega, k2, fun k h1 h2 => by omega, N + 1, ?_⟩
          rw [e0]
          refine ⟨⟨by omega, by show 0 < dLn (dIx (tx a)); omega, by show a + 1 + dLn (dIx (tx a)) ≤ n; omega, fun j hj => ?_⟩, by simpa using k4⟩
          have := k3 j (Nat.zero_le _) hj
          rw [Nat.sub_zero] at this
          exact this
      · rw [if_neg z1] at h
        by_cases z2 : 48 ≤ tx a ∧ tx a ≤ dHi i j
        · rw [if_pos z2] at h
          obtain ⟨k1, k2, k3, N, k4⟩ := dyP_ok m (a + 1) i (j + 1) (by omega) (by omega) (by omega) (by omega) h
          refine ⟨by omega, k2, fun k h1 h2 => ?_, N, ?_⟩
          · by_cases y : k = j
            · subst y
              rw [Nat.sub_self, Nat.add_zero]
              exact z2
            · have := k3 k (by omega) h2
              rw [show a + 1 + (k - (j + 1)) = a + (k - j) by omega] at this
              exact this
          · rw [show a + (dLn i - j) = a + 1 + (dLn i - (j + 1)) by omega]
            exact k4
        · rw [if_neg z2] at h
          exact absurd h (b2 _ (by omega))
theorem dyF_ok {tx : Nat → Nat} {n : Nat} (h : dyF tx n = BIG) : n ≤ 60 ∧ ∃ N, dOk tx n N 0 := by
  obtain ⟨k1, k2, k3, N, k4⟩ := dyP_ok 61 0 0 0 rfl (Nat.zero_le _) (by decide) (Nat.zero_le _) h
  exact ⟨k2, N, k4⟩
theorem dOk_uniq {tx : Nat → Nat} {n : Nat} : ∀ N M a, dOk tx n N a → dOk tx n M a → N = M
  | 0, 0, _, _, _ => rfl
  | 0, M + 1, a, h1, h2 => by
    have h1' : a = n := h1
    have := h2.1.1
    omega
  | N + 1, 0, a, h1, h2 => by
    have h2' : a = n := h2
    have := h1.1.1
    omega
  | N + 1, M + 1, a, h1, h2 => by rw [dOk_uniq N M _ h1.2 h2.2]
theorem dOk_le {tx : Nat → Nat} {n : Nat} : ∀ N a, dOk tx n N a → a + 2 * N ≤ n
  | 0, a, h => by
    have : a = n := h
    omega
  | N + 1, a, h => by
    have := dOk_le N _ h.2
    have h2 := h.1.2.1
    omega
def dD (tx : Nat → Nat) (a j : Nat) : Nat := tx (a + j) - 48
/-- an act: what it answers, the world then -/
def dAct (C : List Nat) (tx : Nat → Nat) (a : Nat) (τ : ST) : Nat × ST :=
  if tx a = 97 then (arrN τ (10 * dD tx a 1 + dD tx a 2) (dD tx a 3) (10 * dD tx a 4 + dD tx a 5), if arrN τ (10 * dD tx a 1 + dD tx a 2) (dD tx a 3) (10 * dD tx a 4 + dD tx a 5) < 64 then arrS τ (10 * dD tx a 1 + dD tx a 2) (dD tx a 3) (10 * dD tx a 4 + dD tx a 5) else τ)
  else if tx a = 101 then (edN τ (dD tx a 1), edS τ (dD tx a 1))
  else if tx a = 102 then (frkN τ (dD tx a 1), if frkN τ (dD tx a 1) < 6 then frkS τ (dD tx a 1) else τ)
  else if tx a = 114 then (rdN τ (dD tx a 1) (dD tx a 2), rdS τ (dD tx a 1) (dD tx a 2))
  else if tx a = 116 then (tiN τ (dD tx a 1), tiS τ (dD tx a 1))
  else wrA C τ (dD tx a 1) (dD tx a 2) (10 * dD tx a 3 + dD tx a 4)
theorem dD_r {tx : Nat → Nat} {n a j : Nat} (h : dAk tx n a) (hj : j < dL tx a) : dD tx a (j + 1) ≤ dHi (dIx (tx a)) j - 48 ∧ 48 ≤ tx (a + (j + 1)) ∧ tx (a + (j + 1)) ≤ dHi (dIx (tx a)) j ∧ a + (j + 1) < n := by
  have := h.2.2.2 j hj
  rw [show a + 1 + j = a + (j + 1) by omega] at this
  have h3 := h.2.2.1
  unfold dD
  omega
theorem dHi_57 (i j : Nat) : dHi i j ≤ 57 := by
  unfold dHi
  split <;> omega
theorem dL_ltr {tx : Nat → Nat} {a : Nat} (h : 0 < dL tx a) : tx a = 97 ∨ tx a = 101 ∨ tx a = 102 ∨ tx a = 114 ∨ tx a = 116 ∨ tx a = 119 := by
  by_cases z : tx a = 97 ∨ tx a = 101 ∨ tx a = 102 ∨ tx a = 114 ∨ tx a = 116 ∨ tx a = 119
  · exact z
  · have : dIx (tx a) = 0 := by
      unfold dIx
      rw [if_neg (by omega), if_neg (by omega), if_neg (by omega), if_neg (by omega), if_neg (by omega), if_neg (by omega)]
    have e : dL tx a = dLn (dIx (tx a)) := rfl
    rw [e, this] at h
    exact absurd h (by decide)
theorem inv_dAct {C : List Nat} {tx : Nat → Nat} {n a : Nat} {τ : ST} (I : INV τ) (K : dAk tx n a) : INV (dAct C tx a τ).2 ∧ ((dAct C tx a τ).1 < 100 ∨ 4294967290 ≤ (dAct C tx a τ).1 ∧ (dAct C tx a τ).1 < 4294967296) := by
  have R := I.rg
  have dd : ∀ j, dD tx a j < 4294967296 ∨ True := fun _ => Or.inr trivial
  unfold dAct
  by_cases c1 : tx a = 97
  · rw [if_pos c1]
    obtain ⟨f1, f2⟩ := arrN_ok (o := 10 * dD tx a 1 + dD tx a 2) (p := dD tx a 3) (v := 10 * dD tx a 4 + dD tx a 5) R
    generalize 10 * dD tx a 1 + dD tx a 2 = o at *
    generalize dD tx a 3 = p at *
    generalize 10 * dD tx a 4 + dD tx a 5 = v at *
    show INV (if arrN τ o p v < 64 then arrS τ o p v else τ) ∧ (arrN τ o p v < 100 ∨ 4294967290 ≤ arrN τ o p v ∧ arrN τ o p v < 4294967296)
    by_cases z : arrN τ o p v < 64
    · rw [if_pos z]
      exact ⟨inv_arr I (f1.mpr z), Or.inl (by omega)⟩
    · rw [if_neg z]
      exact ⟨I, Or.inr (f2 (fun y => z (f1.mp y)))⟩
  · rw [if_neg c1]
    by_cases c2 : tx a = 101
    · rw [if_pos c2]
      generalize dD tx a 1 = s
      show INV (edS τ s) ∧ (edN τ s < 100 ∨ 4294967290 ≤ edN τ s ∧ edN τ s < 4294967296)
      unfold edS edN
      have el := end_le τ s
      by_cases z : hs τ s = true
      · rw [if_pos z, if_pos z]
        exact ⟨inv_end I (hs_lt z).1, Or.inl (by omega)⟩
      · rw [if_neg z, if_neg z]
        exact ⟨I, Or.inr (by omega)⟩
    · rw [if_neg c2]
      by_cases c3 : tx a = 102
      · rw [if_pos c3]
        generalize dD tx a 1 = s
        obtain ⟨f1, f2, f3⟩ := frkN_ok (s := s) R
        show INV (if frkN τ s < 6 then frkS τ s else τ) ∧ (frkN τ s < 100 ∨ 4294967290 ≤ frkN τ s ∧ frkN τ s < 4294967296)
        by_cases z : frkN τ s < 6
        · rw [if_pos z]
          exact ⟨inv_frk I (f1.mpr z), Or.inl (by omega)⟩
        · rw [if_neg z]
          exact ⟨I, Or.inr (f2 (fun y => z (f1.mp y)))⟩
      · rw [if_neg c3]
        by_cases c4 : tx a = 114
        · rw [if_pos c4]
          have l2 : dL tx a = 2 := by show dLn (dIx (tx a)) = 2; rw [c4]; rfl
          have h2 := (dD_r K (j := 1) (by omega)).1
          have hh := dHi_57 (dIx (tx a)) 1
          have d2 : dD tx a 2 < 4294967296 := by have : dD tx a (1 + 1) ≤ dHi (dIx (tx a)) 1 - 48 := h2; show dD tx a (1 + 1) < _; omega
          exact ⟨inv_rd I d2, rdN_lt R d2⟩
        · rw [if_neg c4]
          by_cases c5 : tx a = 116
          · rw [if_pos c5]
            generalize dD tx a 1 = s
            show INV (tiS τ s) ∧ (tiN τ s < 100 ∨ 4294967290 ≤ tiN τ s ∧ tiN τ s < 4294967296)
            unfold tiS tiN
            have el := tid_le τ s
            by_cases z : hs τ s = true
            · rw [if_pos z, if_pos z]
              exact ⟨inv_tid I z, Or.inl (by omega)⟩
            · rw [if_neg z, if_neg z]
              exact ⟨I, Or.inr (by omega)⟩
          · rw [if_neg c5]
            refine ⟨inv_wrA C I, ?_⟩
            rcases wrA_lt (C := C) R (s := dD tx a 1) (p := dD tx a 2) (v := 10 * dD tx a 3 + dD tx a 4) with z | z
            · exact Or.inl (by omega)
            · exact Or.inr z
def dRun (C : List Nat) (tx : Nat → Nat) : Nat → Nat → ST → Nat → ST × Nat × Bool
  | 0, _, τ, d => (τ, d, false)
  | N + 1, a, τ, d => if (dAct C tx a τ).1 < 2147483648 then dRun C tx N (a + 1 + dL tx a) (dAct C tx a τ).2 (d + 1) else ((dAct C tx a τ).2, d, true)
theorem dRun_i {C : List Nat} {tx : Nat → Nat} {n : Nat} : ∀ N a τ d, dOk tx n N a → INV τ → INV (dRun C tx N a τ d).1 ∧ (dRun C tx N a τ d).2.1 ≤ d + N
  | 0, a, τ, d, _, I => ⟨I, Nat.le_refl _⟩
  | N + 1, a, τ, d, K, I => by
    obtain ⟨i1, i2⟩ := inv_dAct (C := C) I K.1
    unfold dRun
    by_cases z : (dAct C tx a τ).1 < 2147483648
    · rw [if_pos z]
      obtain ⟨i3, i4⟩ := dRun_i N (a + 1 + dL tx a) (dAct C tx a τ).2 (d + 1) K.2 i1
      exact ⟨i3, by omega⟩
    · rw [if_neg z]
      exact ⟨i1, by show d ≤ d + (N + 1); omega⟩
/-- how many acts -/
def dyN (tx : Nat → Nat) (n : Nat) : Nat → Nat → Nat
  | 0, _ => 0
  | m + 1, a => if n ≤ a then 0 else dyN tx n m (a + 1 + dL tx a) + 1
theorem dyN_ok {tx : Nat → Nat} {n : Nat} : ∀ m N a, dOk tx n N a → n < a + m → dyN tx n m a = N
  | 0, N, a, K, h => by
    have := dOk_le N a K
    omega
  | m + 1, 0, a, K, h => by
    have : a = n := K
    unfold dyN
    rw [if_pos (by omega)]
  | m + 1, N + 1, a, K, h => by
    have h1 := K.1.1
    have h2 := K.1.2.1
    unfold dyN
    rw [if_neg (by omega), dyN_ok m N _ K.2 (by omega)]
def dyR (C : List Nat) (tx : Nat → Nat) (n : Nat) (w : ST) : ST × Nat × Bool := dRun C tx (dyN tx n 100 0) 0 w 0
theorem dyR_ok {tx : Nat → Nat} {n : Nat} (h : dyF tx n = BIG) : n ≤ 60 ∧ dOk tx n (dyN tx n 100 0) 0 := by
  obtain ⟨h1, N, K⟩ := dyF_ok h
  refine ⟨h1, ?_⟩
  rw [dyN_ok 100 N 0 K (by omega)]
  exact K
def dyA (C : List Nat) (tx : Nat → Nat) (n : Nat) (w : ST) : Nat := if dyF tx n = BIG then (dyR C tx n w).2.1 else 4294967295 - dyF tx n
def dyK (C : List Nat) (tx : Nat → Nat) (n : Nat) (w : ST) : Bool := decide (dyF tx n = BIG ∧ (0 < (dyR C tx n w).2.1 ∨ tot w 7 < tot (dyR C tx n w).1 7))
def dyW (C : List Nat) (tx : Nat → Nat) (n : Nat) (w : ST) : ST := if dyF tx n = BIG then (dyR C tx n w).1 else w
def dyO (C : List Nat) (tx : Nat → Nat) (n : Nat) (w : ST) (row : List Int64) : List Int64 := if dyF tx n = BIG then [if (dyR C tx n w).2.2 = true then 1 else 0, Int32.toInt64 (J (tot (dyR C tx n w).1 8))] else row
theorem inv_dy {C : List Nat} {tx : Nat → Nat} {n : Nat} {w : ST} (I : INV w) : INV (dyW C tx n w) := by
  unfold dyW
  by_cases z : dyF tx n = BIG
  · rw [if_pos z]
    exact (dRun_i _ 0 w 0 (dyR_ok z).2 I).1
  · rw [if_neg z]
    exact I
section DAY
variable {h g : AH} {mk : Nat} {tx : Nat → Nat} {len : Nat} {w : ST} {un : Nat} {us : Nat → ST} {kp : Nat → Bool} {ks : Nat → ST} {C : List Nat} {ρ : Nat → Nat} {rn : Nat} {row : List Int64} {hq : List (Nat × Nat)} {sq : List (Nat × Nat × Bool)}
theorem c_actD {c : Nat} (hc : c < 256) : fX10_actDigits h (J c) = some (dIx c) := by
  unfold fX10_actDigits dIx
  have k : ∀ x : Nat, x < 256 → (J c = J x ↔ c = x) := fun x hx => J_inj (by omega) (by omega)
  have k1 : J c = 97 ↔ c = 97 := k 97 (by decide)
  have k2 : J c = 101 ↔ c = 101 := k 101 (by decide)
  have k3 : J c = 102 ↔ c = 102 := k 102 (by decide)
  have k4 : J c = 114 ↔ c = 114 := k 114 (by decide)
  have k5 : J c = 116 ↔ c = 116 := k 116 (by decide)
  have k6 : J c = 119 ↔ c = 119 := k 119 (by decide)
  simp only [k1, k2, k3, k4, k5, k6]
  repeat' split
  all_goals rfl
theorem c_dyW (W : CIk h mk tx 0 w un us kp ks C row hq sq) (T : TC h 1 tx len) : ∀ m q a i j, a + m = 61 → a ≤ 60 → m < q → i < 5 → j ≤ 5 → fX10_wrongDaySign_L9 (fun h13 x10 x11 x12 => fX10_wrongDaySign_J88 h13 x10 x11 x12) q h 0 (J len) i (J j) (J a) = some (J (dyP tx len m a i j), h)
  | 0, q, a, i, j, e, h6, _, _, _ => by omega
  | m + 1, q + 1, a, i, j, e, h6, hq', hi, hj => by
    have l80 := (tc_l T).2
    have ln := dLn_5 i
    unfold dyP
    have j88 : fX10_wrongDaySign_J88 h (J len) i (J j) = some (J (if 60 < len then 60 else if j < dLn i then len else BIG), h) := by
      unfold fX10_wrongDaySign_J88
      by_cases z : 60 < len
      · rw [if_neg (fun y => by rw [l_60, J_le (by omega) (by decide)] at y; omega), if_pos z, l_60]
      · rw [if_pos (by rw [l_60, J_le (by omega) (by decide)]; omega), if_neg z, st_len i hi, Option.bind_some]
        by_cases z2 : j < dLn i
        · rw [if_neg (fun y => by rw [J_le (by omega) (by omega)] at y; omega), if_pos z2]
        · rw [if_pos (by rw [J_le (by omega) (by omega)]; omega), if_neg z2]
          rfl
    by_cases z : len ≤ a ∨ 60 ≤ a
    · rw [if_pos z, ← j88, fX10_wrongDaySign_L9]
      by_cases z1 : len ≤ a
      · rw [if_pos (by rw [J_le (by omega) (by omega)]; omega)]
      · rw [if_neg (fun y => by rw [J_le (by omega) (by omega)] at y; omega), if_pos (by rw [l_60, J_le (by decide) (by omega)]; omega)]
    · have al : a < len := by omega
      obtain ⟨e0, hc⟩ := c_sgnAt W T al
      have e1 : J a + 1 = J (a + 1) := by rw [l_1, J_add]
      have ej : J j + 1 = J (j + 1) := by rw [l_1, J_add]
      have ix := dIx_5 (tx a)
      rw [if_neg z, fX10_wrongDaySign_L9, if_neg (fun y => by rw [J_le (by omega) (by omega)] at y; omega), if_neg (fun y => by rw [l_60, J_le (by decide) (by omega)] at y; omega), e0, Option.bind_some, st_len i hi, Option.bind_some]
      by_cases z1 : dLn i ≤ j
      · rw [if_pos (by rw [J_le (by omega) (by omega)]; omega), if_pos z1, c_actD hc, Option.bind_some, st_emp _ ix, Option.bind_some]
        by_cases z2 : dLn (dIx (tx a)) = 0
        · rw [if_pos (decide_eq_true z2), if_pos z2]
        · rw [if_neg (fun y => z2 (of_decide_eq_true y)), if_neg z2]
          simp only [letF, e1]
          exact c_dyW W T m q (a + 1) (dIx (tx a)) 0 (by omega) (by omega) (by omega) ix (by decide)
      · have hh := dHi_57 i j
        rw [if_neg (fun y => by rw [J_le (by omega) (by omega)] at y; omega), if_neg z1]
        by_cases z2 : 48 ≤ tx a
        · rw [if_neg (fun y => by rw [l_48, J_lt (by omega) (by decide)] at y; omega), st_at i hi j (by omega), Option.bind_some]
          by_cases z3 : tx a ≤ dHi i j
          · rw [if_pos (by rw [J_le (by omega) (by omega)]; omega), if_pos ⟨z2, z3⟩]
            simp only [letF, e1, ej]
            exact c_dyW W T m q (a + 1) i (j + 1) (by omega) (by omega) (by omega) hi (by omega)
          · rw [if_neg (fun y => by rw [J_le (by omega) (by omega)] at y; omega), if_neg (fun y => z3 y.2)]
        · rw [if_pos (by rw [l_48, J_lt (by omega) (by decide)]; omega), if_neg (fun y => z2 y.1)]
theorem c_dyF (W : CIk h mk tx 0 w un us kp ks C row hq sq) (T : TC h 1 tx len) : fX10_wrongDaySign h 0 (J len) = some (J (dyF tx len), h) := by
  unfold fX10_wrongDaySign
  rw [if_pos (x_h W.1)]
  exact c_dyW W T 61 FU 0 0 0 rfl (by decide) (FU_gt (by decide)) (by decide) (by decide)
/-- where an act of a day writes, by the class -/
abbrev PD : Nat → Prop := fun k => (2 ≤ k ∧ k < 11) ∨ (123 ≤ k ∧ k < 126)
theorem c_dyAct (W : CIk h mk tx 0 w un us kp ks C row hq sq) (T : TC h 1 tx len) (I : INV w) (gC : GR1 C) {a : Nat} (K : dAk tx len a) : ∃ g, fX10_actAt h 0 (J a) = some (J (dAct C tx a w).1, g) ∧ CIk g mk tx 0 (dAct C tx a w).2 un us kp ks C row hq sq ∧ On PD h g := by
  have R := I.rg
  have l80 := (tc_l T).2
  have k0 := K.1
  have k1 := K.2.1
  obtain ⟨e0, hc⟩ := c_sgnAt W T k0
  have dg : ∀ j, j < dL tx a → fX10_digitAt h 0 (J a + J (j + 1)) = some (J (dD tx a (j + 1))) ∧ dD tx a (j + 1) < 10 := fun j hj => by
    obtain ⟨q1, q2, q3, q4⟩ := dD_r K hj
    have hh := dHi_57 (dIx (tx a)) j
    rw [J_add]
    exact ⟨c_digAt W T q4 q2, by omega⟩
  have nm : ∀ j, j + 1 < dL tx a → fX10_numberAt h 0 (J a + J (j + 1)) = some (J (10 * dD tx a (j + 1) + dD tx a (j + 2))) := fun j hj => by
    obtain ⟨q1, q2, q3, q4⟩ := dD_r K (j := j) (by omega)
    obtain ⟨p1, p2, p3, p4⟩ := dD_r K (j := j + 1) hj
    rw [J_add]
    exact c_numAt W T (i := a + (j + 1)) (by omega) q2 p2
  have ot : ∀ {g1 : AH}, Ot 2 (2 + 9) h g1 → On (fun k => 2 ≤ k ∧ k < 11) h g1 := fun O => O.on (fun k h1 h2 => ⟨h1, h2⟩)
  have pd : ∀ {g1 : AH}, On (fun k => 2 ≤ k ∧ k < 11) h g1 → On PD h g1 := fun O => O.mono (fun k hk => Or.inl hk)
  obtain ⟨c, b, KK⟩ := W.2.2.1.wk
  unfold fX10_actAt dAct
  have d1 : fX10_digitAt h 0 (J a + 1) = some (J (dD tx a 1)) := (dg 0 k1).1
  have l1 := (dg 0 k1).2
  rw [if_pos (x_h W.1), d1, Option.bind_some, e0, Option.bind_some]
  have kk : ∀ x : Nat, x < 256 → (J (tx a) = J x ↔ tx a = x) := fun x hx => J_inj (by omega) (by omega)
  have k97 : J (tx a) = 97 ↔ tx a = 97 := kk 97 (by decide)
  have k101 : J (tx a) = 101 ↔ tx a = 101 := kk 101 (by decide)
  have k102 : J (tx a) = 102 ↔ tx a = 102 := kk 102 (by decide)
  have k114 : J (tx a) = 114 ↔ tx a = 114 := kk 114 (by decide)
  have k116 : J (tx a) = 116 ↔ tx a = 116 := kk 116 (by decide)
  have k119 : J (tx a) = 119 ↔ tx a = 119 := kk 119 (by decide)
  by_cases c1 : tx a = 97
  · have hl : dL tx a = 5 := by show dLn (dIx (tx a)) = 5; rw [c1]; rfl
    rw [if_pos (k97.2 c1), if_pos c1]
    have n1 : fX10_numberAt h 0 (J a + 1) = some (J (10 * dD tx a 1 + dD tx a 2)) := nm 0 (by omega)
    have n3 : fX10_digitAt h 0 (J a + 3) = some (J (dD tx a 3)) := (dg 2 (by omega)).1
    have n4 : fX10_numberAt h 0 (J a + 4) = some (J (10 * dD tx a 4 + dD tx a 5)) := nm 3 (by omega)
    have l2 := (dg 1 (by omega)).2
    have l3 := (dg 2 (by omega)).2
    have l4 := (dg 3 (by omega)).2
    have l5 := (dg 4 (by omega)).2
    rw [x_2 W.1, Option.bind_some, n1, Option.bind_some, n3, Option.bind_some, n4, Option.bind_some]
    have b1 : 10 * dD tx a 1 + dD tx a 2 < 4294967296 := by
      have l1' : dD tx a (0 + 1) < 10 := l1
      have l2' : dD tx a (1 + 1) < 10 := l2
      show 10 * dD tx a (0 + 1) + dD tx a (1 + 1) < _
      omega
    have b2 : dD tx a 3 < 4294967296 := Nat.lt_trans l3 (by decide)
    have b3 : 10 * dD tx a 4 + dD tx a 5 < 4294967296 := by
      have l4' : dD tx a (3 + 1) < 10 := l4
      have l5' : dD tx a (4 + 1) < 10 := l5
      show 10 * dD tx a (3 + 1) + dD tx a (4 + 1) < _
      omega
    obtain ⟨f1, f2⟩ := arrN_ok (o := 10 * dD tx a 1 + dD tx a 2) (p := dD tx a 3) (v := 10 * dD tx a 4 + dD tx a 5) R
    obtain ⟨g2, τ, e2, K2, O2, H2⟩ := c_arrive KK R b1 b2 b3
    have hτ : τ = if arrN w (10 * dD tx a 1 + dD tx a 2) (dD tx a 3) (10 * dD tx a 4 + dD tx a 5) < 64 then arrS w (10 * dD tx a 1 + dD tx a 2) (dD tx a 3) (10 * dD tx a 4 + dD tx a 5) else w := by
      rcases H2 with ⟨q1, q2⟩ | ⟨q1, q2, q3⟩
      · rw [if_pos (f1.mp q1)]; exact q2
      · rw [if_neg (fun z => q1 (f1.mpr z))]; exact q2
    have W2 := W.pw (ot O2) K2.wr
    rw [hτ] at W2
    exact ⟨g2, by rw [e2, Option.bind_some], W2, pd (ot O2)⟩
  · rw [if_neg (fun y => c1 (k97.1 y)), if_neg c1]
    by_cases c2 : tx a = 101
    · rw [if_pos (k101.2 c2), if_pos c2, x_2 W.1, Option.bind_some]
      by_cases z : hs w (dD tx a 1) = true
      · obtain ⟨g2, e2, K2, O2⟩ := c_end KK R z
        have W2 := W.pw (ot O2) K2.wr
        refine ⟨g2, ?_, ?_, pd (ot O2)⟩
        · rw [e2, Option.bind_some]
          unfold edN
          rw [if_pos z]
        · show CIk g2 mk tx 0 (edS w (dD tx a 1)) un us kp ks C row hq sq
          unfold edS
          rw [if_pos z]
          exact W2
      · refine ⟨h, ?_, ?_, On.rf⟩
        · rw [c_end_no W.2.2.1 R (Nat.lt_trans l1 (by decide)) z, Option.bind_some]
          unfold edN
          rw [if_neg z, m1_J]
        · show CIk h mk tx 0 (edS w (dD tx a 1)) un us kp ks C row hq sq
          unfold edS
          rw [if_neg z]
          exact W
    · rw [if_neg (fun y => c2 (k101.1 y)), if_neg c2]
      by_cases c3 : tx a = 102
      · rw [if_pos (k102.2 c3), if_pos c3, x_2 W.1, Option.bind_some]
        obtain ⟨f1, f2, f3⟩ := frkN_ok (s := dD tx a 1) R
        obtain ⟨g2, τ, e2, K2, O2, H2⟩ := c_fork KK R I.gr (s := dD tx a 1) (Nat.lt_trans l1 (by decide))
        have hτ : τ = if frkN w (dD tx a 1) < 6 then frkS w (dD tx a 1) else w := by
          rcases H2 with ⟨q1, q2⟩ | ⟨q1, q2, q3⟩
          · rw [if_pos (f1.mp q1)]; exact q2
          · rw [if_neg (fun z => q1 (f1.mpr z))]; exact q2
        have W2 := W.pw (ot O2) K2.wr
        rw [hτ] at W2
        exact ⟨g2, by rw [e2, Option.bind_some], W2, pd (ot O2)⟩
      · rw [if_neg (fun y => c3 (k102.1 y)), if_neg c3]
        by_cases c4 : tx a = 114
        · have hl : dL tx a = 2 := by show dLn (dIx (tx a)) = 2; rw [c4]; rfl
          have n2 : fX10_digitAt h 0 (J a + 2) = some (J (dD tx a 2)) := (dg 1 (by omega)).1
          have l2 := (dg 1 (by omega)).2
          rw [if_pos (k114.2 c4), if_pos c4, x_2 W.1, Option.bind_some, n2, Option.bind_some]
          obtain ⟨g2, e2, K2, O2⟩ := c_read KK R (s := dD tx a 1) (p := dD tx a 2) (Nat.lt_trans l1 (by decide)) (Nat.lt_trans l2 (by decide))
          exact ⟨g2, by rw [e2, Option.bind_some], W.pw (ot O2) K2.wr, pd (ot O2)⟩
        · rw [if_neg (fun y => c4 (k114.1 y)), if_neg c4]
          by_cases c5 : tx a = 116
          · rw [if_pos (k116.2 c5), if_pos c5, x_2 W.1, Option.bind_some]
            by_cases z : hs w (dD tx a 1) = true
            · obtain ⟨g2, e2, K2, O2⟩ := c_tidy KK R z
              have W2 := W.pw (ot O2) K2.wr
              refine ⟨g2, ?_, ?_, pd (ot O2)⟩
              · rw [e2, Option.bind_some]
                unfold tiN
                rw [if_pos z]
              · show CIk g2 mk tx 0 (tiS w (dD tx a 1)) un us kp ks C row hq sq
                unfold tiS
                rw [if_pos z]
                exact W2
            · refine ⟨h, ?_, ?_, On.rf⟩
              · rw [c_tidy_no W.2.2.1 R (Nat.lt_trans l1 (by decide)) z, Option.bind_some]
                unfold tiN
                rw [if_neg z, m1_J]
              · show CIk h mk tx 0 (tiS w (dD tx a 1)) un us kp ks C row hq sq
                unfold tiS
                rw [if_neg z]
                exact W
          · have c6 : tx a = 119 := by have := dL_ltr k1; omega
            have hl : dL tx a = 4 := by show dLn (dIx (tx a)) = 4; rw [c6]; rfl
            have n2 : fX10_digitAt h 0 (J a + 2) = some (J (dD tx a 2)) := (dg 1 (by omega)).1
            have l2 := (dg 1 (by omega)).2
            have n3 : fX10_numberAt h 0 (J a + 3) = some (J (10 * dD tx a 3 + dD tx a 4)) := nm 2 (by omega)
            have l3 := (dg 2 (by omega)).2
            have l4 := (dg 3 (by omega)).2
            have b3 : 10 * dD tx a 3 + dD tx a 4 < 4294967296 := by
              have l3' : dD tx a (2 + 1) < 10 := l3
              have l4' : dD tx a (3 + 1) < 10 := l4
              show 10 * dD tx a (2 + 1) + dD tx a (3 + 1) < _
              omega
            rw [if_neg (fun y => c5 (k116.1 y)), if_neg c5, if_pos (k119.2 c6), x_2 W.1, Option.bind_some, n2, Option.bind_some, n3, Option.bind_some, x_5 W.1, Option.bind_some]
            obtain ⟨g2, c2', b2', e2, K2, U2, O2⟩ := c_write KK I W.2.2.2.2.2.1 gC (by omega) (s := dD tx a 1) (p := dD tx a 2) (Nat.lt_trans l1 (by decide)) (Nat.lt_trans l2 (by decide)) b3
            exact ⟨g2, by rw [e2, Option.bind_some], W.pwr O2 K2.wr U2, O2.mono (fun k hk => hk)⟩
theorem c_dyL {w0 : ST} {aw : Nat} (gC : GR1 C) : ∀ N q a h τ d, CIk h mk tx 0 τ un us kp ks C row hq sq → TC h 1 tx len → INV τ → WR h (24 + 9 * mk) w0 → dOk tx len N a → N + 1 < q → ∃ h', (∀ K : AH → Nat → Int32 → Int32 → Int32 → Option (Int32 × AH), fX10_day_L48 K q h 0 (J len) (J aw) (J d) 0 (J a) = K h' 0 (J aw) (J (dRun C tx N a τ d).2.1) (if (dRun C tx N a τ d).2.2 = true then 1 else 0)) ∧ CIk h' mk tx 0 (dRun C tx N a τ d).1 un us kp ks C row hq sq ∧ WR h' (24 + 9 * mk) w0 ∧ On PC0 h h'
  | 0, q + 1, a, h, τ, d, W, T, I, R0, K, _ => by
    have l80 := (tc_l T).2
    have ea : a = len := K
    refine ⟨h, fun K' => ?_, W, R0, On.rf⟩
    rw [fX10_day_L48, if_pos (by rw [J_le (by omega) (by omega)]; omega)]
    rfl
  | N + 1, q + 1, a, h, τ, d, W, T, I, R0, K, hq' => by
    have l80 := (tc_l T).2
    have m9 := W.mk9
    have k0 := K.1.1
    have k2 := K.1.2.2.1
    have ln := dLn_5 (dIx (tx a))
    obtain ⟨i1, i2⟩ := inv_dAct (C := C) I K.1
    obtain ⟨g1, e1, W1, O1⟩ := c_dyAct W T I gC K.1
    have T1 := T.on O1 (by omega)
    have R1 := R0.on O1 (fun k h1 h2 => by omega)
    obtain ⟨e0, hc⟩ := c_sgnAt W1 T1 k0
    have nx : J a + (1 + J (dLn (dIx (tx a)))) = J (a + 1 + dL tx a) := by rw [l_1, J_add, J_add, Nat.add_assoc]
    have a0 : J d + 0 = J d := by rw [l_0, J_add]; rfl
    have a1 : J d + 1 = J (d + 1) := by rw [l_1, J_add]
    have j87 : ∀ (K' : AH → Nat → Int32 → Int32 → Int32 → Int32 → Int32 → Option (Int32 × AH)) (s0 s1 v5 : Int32), fX10_day_J87 K' g1 0 (J len) (J aw) v5 (J a) s0 s1 = K' g1 0 (J len) (J aw) (s1 + s0) v5 (J (a + 1 + dL tx a)) := by
      intro K' s0 s1 v5
      unfold fX10_day_J87
      simp only [letF, e0, Option.bind_some, c_actD hc, st_len _ (dIx_5 _), nx]
    have O1' : On PC0 h g1 := O1.mono (fun k hk => by show k < 145; omega)
    have er : dRun C tx (N + 1) a τ d = if (dAct C tx a τ).1 < 2147483648 then dRun C tx N (a + 1 + dL tx a) (dAct C tx a τ).2 (d + 1) else ((dAct C tx a τ).2, d, true) := rfl
    by_cases z : (dAct C tx a τ).1 < 2147483648
    · rw [if_pos z] at er
      obtain ⟨g2, e2, W2, R2, O2⟩ := c_dyL gC (w0 := w0) (aw := aw) N q (a + 1 + dL tx a) g1 (dAct C tx a τ).2 (d + 1) W1 T1 i1 R1 K.2 (by omega)
      rw [er]
      refine ⟨g2, fun K' => ?_, W2, R2, O1'.trans O2⟩
      rw [fX10_day_L48, if_neg (fun y => by rw [J_le (by omega) (by omega)] at y; omega), if_pos rfl, e1, Option.bind_some, if_pos (by rw [l_0, J_le (by decide) (by omega)]; omega)]
      unfold fX10_day_J73
      rw [if_pos rfl, j87, a1]
      exact e2 K'
    · rw [if_neg z] at er
      rw [er]
      refine ⟨g1, fun K' => ?_, W1, R1, O1'⟩
      obtain ⟨q, rfl⟩ : ∃ z, q = z + 1 := ⟨q - 1, by omega⟩
      rw [fX10_day_L48, if_neg (fun y => by rw [J_le (by omega) (by omega)] at y; omega), if_pos rfl, e1, Option.bind_some, if_neg (fun y => by rw [l_0, J_le (by decide) (by omega)] at y; omega)]
      unfold fX10_day_J73
      rw [if_neg (by decide), j87, a0, fX10_day_L48, if_neg (show ¬ (1 : Int32) = 0 by decide)]
      show (if J len ≤ J (a + 1 + dL tx a) then K' g1 0 (J aw) (J d) 1 else K' g1 0 (J aw) (J d) 1) = K' g1 0 (J aw) (J d) (if true = true then 1 else 0)
      rw [if_pos rfl]
      split <;> rfl
theorem xc_day (W : CIk h mk tx len w un us kp ks C row hq sq) (I : INV w) (gC : GR1 C) : ∃ h' mk', fX10_day h 0 = some (J (dyA C tx len w), h') ∧ CIk h' mk' tx 0 (dyW C tx len w) (kN (dyK C tx len w) un) (kS (dyK C tx len w) un us w) kp ks C (dyO C tx len w row) hq sq ∧ On PC0 h h' := by
  have R := I.rg
  obtain ⟨g1, e1, W1, T1, O1⟩ := ci_take W
  have l80 := (tc_l T1).2
  unfold fX10_day
  rw [if_pos (x_h W.1), e1, Option.bind_some, c_dyF W1 T1, Option.bind_some, m1_J]
  have hF : J (dyF tx len) = J 4294967295 ↔ dyF tx len = BIG := by
    rcases dyP_r tx len 61 0 0 0 rfl with z | z
    · have z' : dyF tx len = BIG := z
      rw [z']; exact ⟨fun _ => rfl, fun _ => rfl⟩
    · have z' : dyF tx len ≤ 60 := z
      exact J_inj (by omega) (by decide)
  by_cases hB : dyF tx len = BIG
  · obtain ⟨n60, K⟩ := dyR_ok hB
    have nl := dOk_le _ _ K
    rw [if_pos (hF.2 hB), x_4 W1.1, Option.bind_some, x_2 W1.1, Option.bind_some]
    obtain ⟨g2, e2, W2, R2, O2⟩ := ci_mark W1
    have T2 : TC g2 1 tx len := by
      obtain ⟨ga, ea, Ha, Ra, Oa⟩ := c_mark W1.2.2.2.2.1 W1.2.2.1
      rw [ea] at e2
      cases e2
      have m9 := W1.mk9
      exact T1.on Oa (by omega)
    rw [e2, Option.bind_some, x_2 W2.1, Option.bind_some, c_awaitedTotal W2.2.2.1 R, Option.bind_some]
    obtain ⟨g3, e3, W3, R3, O3⟩ := c_dyL (w0 := w) (aw := tot w 7) gC (dyN tx len 100 0) FU 0 g2 w 0 W2 T2 I R2 K (FU_gt (by omega))
    have ed : dRun C tx (dyN tx len 100 0) 0 w 0 = dyR C tx len w := rfl
    obtain ⟨i3, dl⟩ := dRun_i (C := C) (dyN tx len 100 0) 0 w 0 K I
    rw [ed] at e3 W3 i3 dl
    have t7 := tot_lt R (f := 7)
    have t7' := tot_lt i3.rg (f := 7)
    obtain ⟨g4, mk4, e4, W4, O4⟩ := ci_keepIf W3 (dyK C tx len w) (fun _ => R3)
    obtain ⟨g5, e5, W5, O5⟩ := ci_clr W4
    obtain ⟨g6, e6, W6, O6⟩ := ci_add W5 (by simp) (if (dyR C tx len w).2.2 = true then (1 : Int64) else 0)
    obtain ⟨g7, e7, W7, O7⟩ := ci_add W6 (by simp) (Int32.toInt64 (J (tot (dyR C tx len w).1 8)))
    have eO : dyO C tx len w row = [if (dyR C tx len w).2.2 = true then (1 : Int64) else 0, Int32.toInt64 (J (tot (dyR C tx len w).1 8))] := by unfold dyO; rw [if_pos hB]
    have eW : dyW C tx len w = (dyR C tx len w).1 := by unfold dyW; rw [if_pos hB]
    have eA : dyA C tx len w = (dyR C tx len w).2.1 := by unfold dyA; rw [if_pos hB]
    rw [eO, eW, eA]
    refine ⟨g7, mk4, ?_, W7, (((((O1.trans O2).trans O3).trans O4).trans (lon O5 (fun k hk => by omega))).trans (lon O6 (fun k hk => by omega))).trans (lon O7 (fun k hk => by omega))⟩
    refine Eq.trans (e3 _) ?_
    have j134 : ∀ s0 : Int32, i2z s0 = some (dyK C tx len w) → fX10_day_J134 g3 0 (J (dyR C tx len w).2.1) (if (dyR C tx len w).2.2 = true then 1 else 0) s0 0 = some (J (dyR C tx len w).2.1, g7) := by
      intro s0 hs0
      unfold fX10_day_J134 fX10_day_J158
      rw [hs0, Option.bind_some, e4, Option.bind_some, x_8 W4.1, Option.bind_some, e5, Option.bind_some, x_8 W5.1, Option.bind_some]
      by_cases y : (dyR C tx len w).2.2 = true
      · rw [if_pos y] at e6
        rw [if_pos y, if_neg (by decide), e6, Option.bind_some, x_8 W6.1, Option.bind_some, x_2 W6.1, Option.bind_some, c_frameTotal W6.2.2.1 i3.rg, Option.bind_some, e7, Option.bind_some]
      · rw [if_neg y] at e6
        rw [if_neg y, if_pos rfl, e6, Option.bind_some, x_8 W6.1, Option.bind_some, x_2 W6.1, Option.bind_some, c_frameTotal W6.2.2.1 i3.rg, Option.bind_some, e7, Option.bind_some]
    show fX10_day_J112 g3 0 (J (tot w 7)) (J (dyR C tx len w).2.1) (if (dyR C tx len w).2.2 = true then 1 else 0) = _
    unfold fX10_day_J112
    by_cases z : 0 < (dyR C tx len w).2.1
    · have ek : dyK C tx len w = true := decide_eq_true ⟨hB, Or.inl z⟩
      rw [if_pos (by rw [l_0, J_lt (by decide) (by omega)]; omega)]
      exact j134 1 (by rw [ek]; rfl)
    · rw [if_neg (fun y => by rw [l_0, J_lt (by decide) (by omega)] at y; omega), x_2 W3.1, Option.bind_some, c_awaitedTotal W3.2.2.1 i3.rg, Option.bind_some]
      by_cases y : tot (dyR C tx len w).1 7 ≤ tot w 7
      · have ek : dyK C tx len w = false := decide_eq_false (fun x => x.2.elim z (fun u => by omega))
        rw [if_pos (by rw [J_le (by omega) (by omega)]; omega)]
        exact j134 0 (by rw [ek]; rfl)
      · have ek : dyK C tx len w = true := decide_eq_true ⟨hB, Or.inr (by omega)⟩
        rw [if_neg (fun x => by rw [J_le (by omega) (by omega)] at x; omega)]
        exact j134 1 (by rw [ek]; rfl)
  · have hl : dyF tx len ≤ 60 := (dyP_r tx len 61 0 0 0 rfl).resolve_left hB
    have ek : dyK C tx len w = false := decide_eq_false (fun x => hB x.1)
    have eO : dyO C tx len w row = row := by unfold dyO; rw [if_neg hB]
    have eW : dyW C tx len w = w := by unfold dyW; rw [if_neg hB]
    have eA : dyA C tx len w = 4294967295 - dyF tx len := by unfold dyA; rw [if_neg hB]
    rw [if_neg (fun y => hB (hF.1 y)), J_sub (by omega), ek, eO, eW, eA]
    exact ⟨g1, mk, rfl, W1, O1⟩
end DAY
