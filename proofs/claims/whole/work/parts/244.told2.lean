/-! what is heard, what is seen -/
def hbN (a : Nat) : Nat := if a = 0 then 24 else if a = 1 then 8 else if a = 2 then 10 else if a = 3 then 6 else 0
theorem hbN_le (a : Nat) : hbN a ≤ 24 := by
  unfold hbN
  split
  · omega
  · split
    · omega
    · split
      · omega
      · split <;> omega
abbrev heO (a b : Nat) (hq : List (Nat × Nat)) : Prop := a < 4 ∧ b < hbN a ∧ hq.length < 12
def heA (a b : Nat) (hq : List (Nat × Nat)) : Nat := if heO a b hq then hq.length + 1 else 4294967295
def heQ (a b : Nat) (hq : List (Nat × Nat)) : List (Nat × Nat) := if heO a b hq then hq ++ [(a, b)] else hq
section CE
variable {h g : AH} {mk : Nat} {tx : Nat → Nat} {len : Nat} {w : ST} {un : Nat} {us : Nat → ST} {kp : Nat → Bool} {ks : Nat → ST} {C : List Nat} {ρ : Nat → Nat} {rn : Nat} {row : List Int64} {hq : List (Nat × Nat)} {sq : List (Nat × Nat × Bool)}
theorem hq_app {f1 f2 : Nat → Int32} {a b : Nat} (H : ∀ i q, hq[i]? = some q → f1 i = J q.1 ∧ f2 i = J q.2) : ∀ i q, (hq ++ [(a, b)])[i]? = some q → (fun j => if j = hq.length then J a else f1 j) i = J q.1 ∧ (fun j => if j = hq.length then J b else f2 j) i = J q.2 := by
  intro i q e
  show (if i = hq.length then J a else f1 i) = J q.1 ∧ (if i = hq.length then J b else f2 i) = J q.2
  rcases get_app e with ⟨h1, h2⟩ | ⟨h1, h2⟩
  · rw [if_neg (by omega), if_neg (by omega)]
    exact H i q h2
  · rw [if_pos h1, if_pos h1, ← h2]
    exact ⟨rfl, rfl⟩
theorem xc_heard (W : CIk h mk tx len w un us kp ks C row hq sq) {a b : Nat} (ha : a < 4294967296) (hb : b < 4294967296) : ∃ h' mk', fX10_heard h 0 (J a) (J b) = some (J (heA a b hq), h') ∧ CIk h' mk' tx len w un us kp ks C row (heQ a b hq) sq ∧ On PC0 h h' := by
  have hl := hbN_le a
  obtain ⟨F, f1, f2, f3, x, w1, w2, w3, w4, w5, w6, w7, w8, w9, w10, w11⟩ := W.2.2.2.2.2.2.2.2.2.1
  have en : fX1_numbersOf h (J a) = some (J (hbN a)) := by
    unfold fX1_numbersOf hbN
    simp (disch := omega) only [l_0, l_1, l_2, l_3, J_inj]
    split
    · rfl
    · split
      · rfl
      · split
        · rfl
        · split <;> rfl
  unfold fX10_heard fX1_hear heA heQ
  simp (disch := omega) only [x_h W.1, if_true, x_9 W.1, Option.bind_some, ob_h w1, l_0, J_lt, en]
  by_cases h0 : heO a b hq
  · obtain ⟨p1, p2, p3⟩ := h0
    rw [if_neg (by omega)]
    simp (disch := omega) only [J_le, ob_i w1 (k := 3) (by decide) w5, Option.bind_some, J_lt, l_12]
    rw [if_neg (by omega), if_neg (by omega), if_pos (by omega), if_pos (⟨p1, p2, p3⟩ : heO a b hq), if_pos (⟨p1, p2, p3⟩ : heO a b hq)]
    obtain ⟨g1, e1, c1, O1⟩ := wa_s w7 p3 (by decide) (J a)
    have O1' : On (fun k => 134 ≤ k ∧ k < 138) h g1 := O1.on1 (P := fun k => 134 ≤ k ∧ k < 138) (by omega)
    have M1 := w1.on (O1.on1 (P := fun k => k = 135) rfl) (by decide)
    obtain ⟨g2, e2, c2, O2⟩ := wa_s ((O1.2 _ (by omega)).trans w8) p3 (by decide) (J b)
    have O2' : On (fun k => 134 ≤ k ∧ k < 138) g1 g2 := O2.on1 (P := fun k => 134 ≤ k ∧ k < 138) (by omega)
    have M2 := M1.on (O2.on1 (P := fun k => k = 136) rfl) (by decide)
    obtain ⟨g3, e3, M3, O3⟩ := ob_p M2 (k := 3) (by decide) (.int (J (hq.length + 1)))
    have O3' : On (fun k => 134 ≤ k ∧ k < 138) g2 g3 := O3.on1 (P := fun k => 134 ≤ k ∧ k < 138) (by omega)
    have OO := (O1'.trans O2').trans O3'
    have e1' : J hq.length + 1 = J (hq.length + 1) := by rw [l_1, J_add]
    refine ⟨g3, mk, ?_, W.phear OO ⟨_, _, _, f3, x, M3, by rw [fput_ne (by decide)]; exact w2, by rw [fput_ne (by decide)]; exact w3, by rw [fput_ne (by decide)]; exact w4, by rw [fput_eq, List.length_append]; rfl, by rw [fput_ne (by decide)]; exact w6, (O3.2 _ (by omega)).trans ((O2.2 _ (by omega)).trans c1), (O3.2 _ (by omega)).trans c2, (O3.2 _ (by omega)).trans ((O2.2 _ (by omega)).trans ((O1.2 _ (by omega)).trans w9)), by rw [List.length_append]; exact p3, hq_app w11⟩, lon OO (fun k hk => by omega)⟩
    simp only [ob_r w1 (k := 0) (by decide) w2, ob_i w1 (k := 3) (by decide) w5, Option.bind_some, e1, ob_r M1 (k := 1) (by decide) w3, ob_i M1 (k := 3) (by decide) w5, e2, ob_i M2 (k := 3) (by decide) w5, e1', e3, ob_i M3 (k := 3) (by decide) fput_eq]
  · rw [if_neg h0, if_neg h0]
    refine ⟨h, mk, ?_, W, On.rf⟩
    by_cases q1 : 2147483648 ≤ b
    · rw [if_pos (by omega), m1_J]
      rfl
    · rw [if_neg (by omega)]
      simp (disch := omega) only [J_le]
      by_cases q2 : hbN a ≤ b
      · rw [if_pos (by omega), m1_J]
        rfl
      · rw [if_neg (by omega)]
        have q3 : ¬ hq.length < 12 := fun z => h0 ⟨by
          by_cases z4 : a < 4
          · exact z4
          · exfalso
            have : hbN a = 0 := by unfold hbN; rw [if_neg (by omega), if_neg (by omega), if_neg (by omega), if_neg (by omega)]
            omega, by omega, z⟩
        simp (disch := omega) only [ob_i w1 (k := 3) (by decide) w5, Option.bind_some, J_lt, l_12]
        rw [if_neg (by omega), if_neg (by omega), m1_J]
        rfl
theorem m_highOf {a : Nat} (ha : a < 4) : fX11_highOf h (J a) = some (J (hbN a - 1)) := by
  unfold fX11_highOf hbN
  simp (disch := omega) only [l_0, l_1, l_2, J_inj]
  by_cases h0 : a = 0
  · rw [if_pos h0, if_pos h0]; rfl
  · rw [if_neg h0, if_neg h0]
    by_cases h1 : a = 1
    · rw [if_pos h1, if_pos h1]; rfl
    · rw [if_neg h1, if_neg h1]
      by_cases h2 : a = 2
      · rw [if_pos h2, if_pos h2]; rfl
      · rw [if_neg h2, if_neg h2, if_pos (by omega)]; rfl
theorem xm_heard (W : MIv h tx len w un us kp ks ρ rn row hq sq) {a b : Nat} (ha : a < 4294967296) (hb : b < 4294967296) : ∃ h', fX11_heard h 145 (J a) (J b) = some (J (heA a b hq), h') ∧ MIv h' tx len w un us kp ks ρ rn row (heQ a b hq) sq ∧ On PM0 h h' := by
  have hl := hbN_le a
  obtain ⟨g0, e0, W0, -, O0⟩ := mi_t0 W
  have O0' : On PM0 h g0 := mon O0 (fun k hk => by omega)
  obtain ⟨t0, f1, f2, t1, t2, t3⟩ := W0.2.2.2.2.2.2.2.1
  have i1 : fX11_in g0 (J a) 0 3 = some (decide (a < 4)) := by
    have l3 : (3 : Int32) = J 3 := rfl
    rw [l_0, l3, m_in ha (by decide) (by decide)]
    congr 1
    rw [decide_eq_true (Nat.zero_le a), Bool.true_and, decide_eq_decide]
    omega
  unfold fX11_heard heA heQ
  simp only [y_h W.1, if_true, e0, Option.bind_some, i1, decide_eq_true_eq]
  by_cases h1 : a < 4
  · have i2 : fX11_in g0 (J b) 0 (J (hbN a - 1)) = some (decide (b < hbN a)) := by
      have hp : 0 < hbN a := by
        unfold hbN
        split
        · omega
        · split
          · omega
          · split
            · omega
            · rw [if_pos (by omega)]; omega
      rw [l_0, m_in hb (by decide) (by omega)]
      congr 1
      rw [decide_eq_true (Nat.zero_le b), Bool.true_and, decide_eq_decide]
      omega
    rw [if_pos h1]
    simp only [m_highOf h1, Option.bind_some, i2, decide_eq_true_eq]
    by_cases h2 : b < hbN a
    · rw [if_pos h2]
      simp (disch := omega) only [y_26 W0.1, Option.bind_some, l_12, J_inj]
      by_cases h3 : hq.length < 12
      · rw [if_neg (by omega), if_pos (⟨h1, h2, h3⟩ : heO a b hq), if_pos (⟨h1, h2, h3⟩ : heO a b hq)]
        obtain ⟨g1, e1, c1, O1⟩ := wa_s t1 h3 (by decide) (J a)
        have M1 := W0.1.on (O1.on1 (P := fun k => k = 157) rfl) (by decide)
        obtain ⟨g2, e2, c2, O2⟩ := wa_s ((O1.2 _ (by omega)).trans t2) h3 (by decide) (J b)
        have M2 := M1.on (O2.on1 (P := fun k => k = 158) rfl) (by decide)
        obtain ⟨g3, e3, M3, O3⟩ := y_p26 M2 (hq.length + 1)
        have OO : On (fun k => k = 145 ∨ k = 157 ∨ k = 158) g0 g3 := ((O1.on1 (P := fun k => k = 145 ∨ k = 157 ∨ k = 158) (Or.inr (Or.inl rfl))).trans (O2.on1 (Or.inr (Or.inr rfl)))).trans (O3.mono (fun k hk => Or.inl hk))
        have e1' : J hq.length + 1 = J (hq.length + 1) := by rw [l_1, J_add]
        refine ⟨g3, ?_, W0.phear OO (by rw [List.length_append]; exact M3) ⟨by rw [List.length_append]; exact h3, _, _, (O3.2 _ (by decide)).trans ((O2.2 _ (by omega)).trans c1), (O3.2 _ (by decide)).trans c2, hq_app t3⟩, O0'.trans (mon OO (fun k hk => by omega))⟩
        simp only [y_24 W0.1, y_26 W0.1, Option.bind_some, e1, y_25 M1, y_26 M1, e2, y_26 M2, e1', e3, y_26 M3]
      · rw [if_pos (by omega), if_neg (fun z => h3 z.2.2), if_neg (fun z => h3 z.2.2), m1_J]
        exact ⟨g0, rfl, W0, O0'⟩
    · rw [if_neg h2, if_neg (fun z => h2 z.2.1), if_neg (fun z => h2 z.2.1), m1_J]
      exact ⟨g0, rfl, W0, O0'⟩
  · rw [if_neg h1, if_neg (fun z => h1 z.1), if_neg (fun z => h1 z.1), m1_J]
    exact ⟨g0, rfl, W0, O0'⟩
theorem xc_forget (W : CIk h mk tx len w un us kp ks C row hq sq) : ∃ h' mk', fX10_forget h 0 = some (J hq.length, h') ∧ CIk h' mk' tx len w un us kp ks C row [] sq ∧ On PC0 h h' := by
  obtain ⟨F, f1, f2, f3, x, w1, w2, w3, w4, w5, w6, w7, w8, w9, w10, w11⟩ := W.2.2.2.2.2.2.2.2.2.1
  obtain ⟨g3, e3, M3, O3⟩ := ob_p w1 (k := 3) (by decide) (.int (J 0))
  have O3' : On (fun k => 134 ≤ k ∧ k < 138) h g3 := O3.on1 (P := fun k => 134 ≤ k ∧ k < 138) (by omega)
  refine ⟨g3, mk, ?_, W.phear O3' ⟨_, f1, f2, f3, x, M3, by rw [fput_ne (by decide)]; exact w2, by rw [fput_ne (by decide)]; exact w3, by rw [fput_ne (by decide)]; exact w4, fput_eq, by rw [fput_ne (by decide)]; exact w6, (O3.2 _ (by omega)).trans w7, (O3.2 _ (by omega)).trans w8, (O3.2 _ (by omega)).trans w9, Nat.zero_le _, fun i q e => by simp at e⟩, lon O3' (fun k hk => by omega)⟩
  unfold fX10_forget fX1_empty
  simp only [x_h W.1, if_true, x_9 W.1, Option.bind_some, ob_h w1, ob_i w1 (k := 3) (by decide) w5, l_0, e3]
theorem xm_forget (W : MIv h tx len w un us kp ks ρ rn row hq sq) : ∃ h', fX11_forget h 145 = some (J hq.length, h') ∧ MIv h' tx len w un us kp ks ρ rn row [] sq ∧ On PM0 h h' := by
  obtain ⟨g0, e0, W0, -, O0⟩ := mi_t0 W
  have O0' : On PM0 h g0 := mon O0 (fun k hk => by omega)
  obtain ⟨t0, f1, f2, t1, t2, t3⟩ := W0.2.2.2.2.2.2.2.1
  obtain ⟨g3, e3, M3, O3⟩ := y_p26 W0.1 0
  have OO : On (fun k => k = 145 ∨ k = 157 ∨ k = 158) g0 g3 := O3.mono (fun k hk => Or.inl hk)
  refine ⟨g3, ?_, W0.phear OO M3 ⟨Nat.zero_le _, f1, f2, (O3.2 _ (by decide)).trans t1, (O3.2 _ (by decide)).trans t2, fun i q e => by simp at e⟩, O0'.trans (mon OO (fun k hk => by omega))⟩
  rw [← l_0] at e3
  unfold fX11_forget
  simp only [y_h W.1, if_true, e0, Option.bind_some, y_26 W0.1, e3]
/-! sightings -/
abbrev seO (a b c : Nat) (sq : List (Nat × Nat × Bool)) : Prop := a < 10 ∧ b < 9 ∧ c < 2 ∧ sq.length < 10
def seA (a b c : Nat) (sq : List (Nat × Nat × Bool)) : Nat := if seO a b c sq then sq.length + 1 else 4294967295
def seQ (a b c : Nat) (sq : List (Nat × Nat × Bool)) : List (Nat × Nat × Bool) := if seO a b c sq then sq ++ [(a, b, decide (c = 1))] else sq
theorem b2i_J {c : Nat} (hc : c < 2) : b2i (decide (c = 1)) = J c := by
  have : c = 0 ∨ c = 1 := by omega
  rcases this with rfl | rfl <;> rfl
theorem sq_app {f1 f2 f3 : Nat → Int32} {a b c : Nat} (hc : c < 2) (H : ∀ i q, sq[i]? = some q → f1 i = J q.1 ∧ f2 i = J q.2.1 ∧ f3 i = b2i q.2.2) : ∀ i q, (sq ++ [(a, b, decide (c = 1))])[i]? = some q → (fun j => if j = sq.length then J a else f1 j) i = J q.1 ∧ (fun j => if j = sq.length then J b else f2 j) i = J q.2.1 ∧ (fun j => if j = sq.length then J c else f3 j) i = b2i q.2.2 := by
  intro i q e
  show (if i = sq.length then J a else f1 i) = J q.1 ∧ (if i = sq.length then J b else f2 i) = J q.2.1 ∧ (if i = sq.length then J c else f3 i) = b2i q.2.2
  rcases get_app e with ⟨h1, h2⟩ | ⟨h1, h2⟩
  · rw [if_neg (by omega), if_neg (by omega), if_neg (by omega)]
    exact H i q h2
  · rw [if_pos h1, if_pos h1, if_pos h1, ← h2]
    exact ⟨rfl, rfl, (b2i_J hc).symm⟩
theorem xc_saw (W : CIk h mk tx len w un us kp ks C row hq sq) {a b c : Nat} (ha : a < 4294967296) (hb : b < 4294967296) (hc : c < 4294967296) : ∃ h' mk', fX10_saw h 0 (J a) (J b) (J c) = some (J (seA a b c sq), h') ∧ CIk h' mk' tx len w un us kp ks C row hq (seQ a b c sq) ∧ On PC0 h h' := by
  obtain ⟨F, f1, f2, f3, f4, w1, w2, w3, w4, w5, w6, w7, w8, w9, w10, w11, w12⟩ := W.2.2.2.2.2.2.2.2.2.2.1
  have l9 : (9 : Int32) = J 9 := rfl
  unfold fX10_saw fX8_see seA seQ
  simp only [x_h W.1, if_true, x_10 W.1, Option.bind_some, ob_h w1]
  have n0 : ∀ {x : Nat}, x < 4294967296 → (J x < 0 ↔ 2147483648 ≤ x) := fun hx => by
    rw [l_0, J_lt hx (by decide)]
    omega
  have bad : ¬ seO a b c sq → ∃ h' mk', some (-1, h) = some (J (if seO a b c sq then sq.length + 1 else 4294967295), h') ∧ CIk h' mk' tx len w un us kp ks C row hq (if seO a b c sq then sq ++ [(a, b, decide (c = 1))] else sq) ∧ On PC0 h h' := fun h0 => by
    rw [if_neg h0, if_neg h0, m1_J]
    exact ⟨h, mk, rfl, W, On.rf⟩
  by_cases p1 : a < 10
  · rw [if_neg (fun z => by have := (n0 ha).1 z; omega), if_neg (show ¬ (9 : Int32) < J a from fun z => by rw [l9, J_lt (by decide) (by omega)] at z; omega)]
    by_cases p2 : b < 9
    · rw [if_neg (fun z => by have := (n0 hb).1 z; omega), if_neg (show ¬ (8 : Int32) < J b from fun z => by rw [l_8, J_lt (by decide) (by omega)] at z; omega)]
      by_cases p3 : c < 2
      · rw [if_neg (fun z => by have := (n0 hc).1 z; omega), if_pos (show J c ≤ 1 by rw [l_1, J_le (by omega) (by decide)]; omega)]
        simp only [ob_i w1 (k := 4) (by decide) w6, Option.bind_some]
        rw [if_neg (fun z => by have := (n0 (x := sq.length) (by omega)).1 z; omega)]
        simp (disch := omega) only [J_lt, l_10]
        by_cases p4 : sq.length < 10
        · rw [if_pos (by omega), if_pos (⟨p1, p2, p3, p4⟩ : seO a b c sq), if_pos (⟨p1, p2, p3, p4⟩ : seO a b c sq)]
          obtain ⟨g1, e1, c1, O1⟩ := wa_s w7 p4 (by decide) (J a)
          have O1' : On (fun k => 138 ≤ k ∧ k < 143) h g1 := O1.on1 (P := fun k => 138 ≤ k ∧ k < 143) (by omega)
          have M1 := w1.on (O1.on1 (P := fun k => k = 139) rfl) (by decide)
          obtain ⟨g2, e2, c2, O2⟩ := wa_s ((O1.2 _ (by omega)).trans w8) p4 (by decide) (J b)
          have O2' : On (fun k => 138 ≤ k ∧ k < 143) g1 g2 := O2.on1 (P := fun k => 138 ≤ k ∧ k < 143) (by omega)
          have M2 := M1.on (O2.on1 (P := fun k => k = 140) rfl) (by decide)
          obtain ⟨g3, e3, c3, O3⟩ := wa_t ((O2.2 _ (by omega)).trans ((O1.2 _ (by omega)).trans w9)) p4 (by decide) (x := J c) (by rw [← b2i_J p3]; exact nar_b2i _)
          have O3' : On (fun k => 138 ≤ k ∧ k < 143) g2 g3 := O3.on1 (P := fun k => 138 ≤ k ∧ k < 143) (by omega)
          have M3 := M2.on (O3.on1 (P := fun k => k = 141) rfl) (by decide)
          obtain ⟨g4, e4, M4, O4⟩ := ob_p M3 (k := 4) (by decide) (.int (J (sq.length + 1)))
          have O4' : On (fun k => 138 ≤ k ∧ k < 143) g3 g4 := O4.on1 (P := fun k => 138 ≤ k ∧ k < 143) (by omega)
          have OO := ((O1'.trans O2').trans O3').trans O4'
          have eJ : fX8_see_J87 g2 138 (J c) (J sq.length) 141 = some (J (sq.length + 1), g4) := by
            unfold fX8_see_J87
            simp only [e3, Option.bind_some, ob_i M3 (k := 4) (by decide) w6, l_1, J_add, e4, ob_i M4 (k := 4) (by decide) fput_eq]
          refine ⟨g4, mk, ?_, W.psaw OO ⟨_, _, _, _, f4, M4, by rw [fput_ne (by decide)]; exact w2, by rw [fput_ne (by decide)]; exact w3, by rw [fput_ne (by decide)]; exact w4, by rw [fput_ne (by decide)]; exact w5, by rw [fput_eq, List.length_append]; rfl, (O4.2 _ (by omega)).trans ((O3.2 _ (by omega)).trans ((O2.2 _ (by omega)).trans c1)), (O4.2 _ (by omega)).trans ((O3.2 _ (by omega)).trans c2), (O4.2 _ (by omega)).trans c3, (O4.2 _ (by omega)).trans ((O3.2 _ (by omega)).trans ((O2.2 _ (by omega)).trans ((O1.2 _ (by omega)).trans w10))), by rw [List.length_append]; exact p4, sq_app p3 w12⟩, lon OO (fun k hk => by omega)⟩
          simp (disch := omega) only [ob_r w1 (k := 0) (by decide) w2, ob_i w1 (k := 4) (by decide) w6, Option.bind_some, e1, ob_r M1 (k := 1) (by decide) w3, ob_i M1 (k := 4) (by decide) w6, e2, ob_r M2 (k := 2) (by decide) w4, ob_i M2 (k := 4) (by decide) w6, J_inj]
          by_cases z : c = 1
          · subst z
            rw [← l_1] at eJ
            rw [if_pos (show J 1 = 1 from rfl), eJ]
            rfl
          · have z0 : c = 0 := by omega
            subst z0
            rw [← l_0] at eJ
            rw [if_neg (by decide), eJ]
            rfl
        · rw [if_neg (by omega)]
          exact bad (fun z => p4 z.2.2.2)
      · by_cases q : 2147483648 ≤ c
        · rw [if_pos ((n0 hc).2 q)]
          exact bad (fun z => p3 z.2.2.1)
        · rw [if_neg (fun z => q ((n0 hc).1 z)), if_neg (show ¬ J c ≤ 1 from fun z => by rw [l_1, J_le (by omega) (by decide)] at z; omega)]
          exact bad (fun z => p3 z.2.2.1)
    · by_cases q : 2147483648 ≤ b
      · rw [if_pos ((n0 hb).2 q)]
        exact bad (fun z => p2 z.2.1)
      · rw [if_neg (fun z => q ((n0 hb).1 z)), if_pos (show (8 : Int32) < J b by rw [l_8, J_lt (by decide) (by omega)]; omega)]
        exact bad (fun z => p2 z.2.1)
  · by_cases q : 2147483648 ≤ a
    · rw [if_pos ((n0 ha).2 q)]
      exact bad (fun z => p1 z.1)
    · rw [if_neg (fun z => q ((n0 ha).1 z)), if_pos (show (9 : Int32) < J a by rw [l9, J_lt (by decide) (by omega)]; omega)]
      exact bad (fun z => p1 z.1)
theorem xm_saw (W : MIv h tx len w un us kp ks ρ rn row hq sq) {a b c : Nat} (ha : a < 4294967296) (hb : b < 4294967296) (hc : c < 4294967296) : ∃ h', fX11_saw h 145 (J a) (J b) (J c) = some (J (seA a b c sq), h') ∧ MIv h' tx len w un us kp ks ρ rn row hq (seQ a b c sq) ∧ On PM0 h h' := by
  obtain ⟨g0, e0, W0, -, O0⟩ := mi_t0 W
  have O0' : On PM0 h g0 := mon O0 (fun k hk => by omega)
  obtain ⟨t0, f1, f2, f3, t1, t2, t3, t4⟩ := W0.2.2.2.2.2.2.2.2.1
  have inn : ∀ {x n : Nat}, x < 4294967296 → n < 2147483647 → fX11_in g0 (J x) 0 (J n) = some (decide (x < n + 1)) := by
    intro x n hx hn
    rw [l_0, m_in hx (by decide) (by omega)]
    congr 1
    rw [decide_eq_true (Nat.zero_le x), Bool.true_and, decide_eq_decide]
    omega
  have l9 : (9 : Int32) = J 9 := rfl
  have i1 : fX11_in g0 (J a) 0 9 = some (decide (a < 10)) := inn (n := 9) ha (by decide)
  have i2 : fX11_in g0 (J b) 0 8 = some (decide (b < 9)) := inn (n := 8) hb (by decide)
  have i3 : fX11_in g0 (J c) 0 1 = some (decide (c < 2)) := inn (n := 1) hc (by decide)
  have bad : ¬ seO a b c sq → ∃ h', some (-1, g0) = some (J (if seO a b c sq then sq.length + 1 else 4294967295), h') ∧ MIv h' tx len w un us kp ks ρ rn row hq (if seO a b c sq then sq ++ [(a, b, decide (c = 1))] else sq) ∧ On PM0 h h' := fun h0 => by
    rw [if_neg h0, if_neg h0, m1_J]
    exact ⟨g0, rfl, W0, O0'⟩
  unfold fX11_saw seA seQ
  simp only [y_h W.1, if_true, e0, Option.bind_some, i1, decide_eq_true_eq]
  by_cases p1 : a < 10
  · rw [if_pos p1]
    simp only [i2, Option.bind_some, decide_eq_true_eq]
    by_cases p2 : b < 9
    · rw [if_pos p2]
      simp only [i3, Option.bind_some, decide_eq_true_eq]
      by_cases p3 : c < 2
      · rw [if_pos p3]
        simp (disch := omega) only [y_31 W0.1, Option.bind_some, l_10, J_inj]
        by_cases p4 : sq.length < 10
        · rw [if_neg (by omega), if_pos (⟨p1, p2, p3, p4⟩ : seO a b c sq), if_pos (⟨p1, p2, p3, p4⟩ : seO a b c sq)]
          obtain ⟨g1, e1, c1, O1⟩ := wa_s t1 p4 (by decide) (J a)
          have M1 := W0.1.on (O1.on1 (P := fun k => k = 160) rfl) (by decide)
          obtain ⟨g2, e2, c2, O2⟩ := wa_s ((O1.2 _ (by omega)).trans t2) p4 (by decide) (J b)
          have M2 := M1.on (O2.on1 (P := fun k => k = 161) rfl) (by decide)
          obtain ⟨g3, e3, c3, O3⟩ := wa_s ((O2.2 _ (by omega)).trans ((O1.2 _ (by omega)).trans t3)) p4 (by decide) (J c)
          have M3 := M2.on (O3.on1 (P := fun k => k = 162) rfl) (by decide)
          obtain ⟨g4, e4, M4, O4⟩ := y_p31 M3 (sq.length + 1)
          have OO : On (fun k => k = 145 ∨ k = 160 ∨ k = 161 ∨ k = 162) g0 g4 := (((O1.on1 (P := fun k => k = 145 ∨ k = 160 ∨ k = 161 ∨ k = 162) (by omega)).trans (O2.on1 (by omega))).trans (O3.on1 (by omega))).trans (O4.mono (fun k hk => Or.inl hk))
          have e1' : J sq.length + 1 = J (sq.length + 1) := by rw [l_1, J_add]
          refine ⟨g4, ?_, W0.psaw OO (by rw [List.length_append]; exact M4) ⟨by rw [List.length_append]; exact p4, _, _, _, (O4.2 _ (by decide)).trans ((O3.2 _ (by omega)).trans ((O2.2 _ (by omega)).trans c1)), (O4.2 _ (by decide)).trans ((O3.2 _ (by omega)).trans c2), (O4.2 _ (by decide)).trans c3, sq_app p3 t4⟩, O0'.trans (mon OO (fun k hk => by omega))⟩
          simp only [y_28 W0.1, y_31 W0.1, Option.bind_some, e1, y_29 M1, y_31 M1, e2, y_30 M2, y_31 M2, e3, y_31 M3, e1', e4, y_31 M4]
        · rw [if_pos (by omega)]
          exact bad (fun z => p4 z.2.2.2)
      · rw [if_neg p3]
        exact bad (fun z => p3 z.2.2.1)
    · rw [if_neg p2]
      exact bad (fun z => p2 z.2.1)
  · rw [if_neg p1]
    exact bad (fun z => p1 z.1)
theorem xc_denies (W : CIk h mk tx len w un us kp ks C row hq sq) : ∃ h' mk', fX10_denies h 0 = some (J sq.length, h') ∧ CIk h' mk' tx len w un us kp ks C row hq [] ∧ On PC0 h h' := by
  obtain ⟨F, f1, f2, f3, f4, w1, w2, w3, w4, w5, w6, w7, w8, w9, w10, w11, w12⟩ := W.2.2.2.2.2.2.2.2.2.2.1
  obtain ⟨g3, e3, M3, O3⟩ := ob_p w1 (k := 4) (by decide) (.int (J 0))
  have O3' : On (fun k => 138 ≤ k ∧ k < 143) h g3 := O3.on1 (P := fun k => 138 ≤ k ∧ k < 143) (by omega)
  refine ⟨g3, mk, ?_, W.psaw O3' ⟨_, f1, f2, f3, f4, M3, by rw [fput_ne (by decide)]; exact w2, by rw [fput_ne (by decide)]; exact w3, by rw [fput_ne (by decide)]; exact w4, by rw [fput_ne (by decide)]; exact w5, fput_eq, (O3.2 _ (by omega)).trans w7, (O3.2 _ (by omega)).trans w8, (O3.2 _ (by omega)).trans w9, (O3.2 _ (by omega)).trans w10, Nat.zero_le _, fun i q e => by simp at e⟩, lon O3' (fun k hk => by omega)⟩
  unfold fX10_denies fX8_empty
  simp only [x_h W.1, if_true, x_10 W.1, Option.bind_some, ob_h w1, ob_i w1 (k := 4) (by decide) w6, l_0, e3]
theorem xm_denies (W : MIv h tx len w un us kp ks ρ rn row hq sq) : ∃ h', fX11_denies h 145 = some (J sq.length, h') ∧ MIv h' tx len w un us kp ks ρ rn row hq [] ∧ On PM0 h h' := by
  obtain ⟨g0, e0, W0, -, O0⟩ := mi_t0 W
  have O0' : On PM0 h g0 := mon O0 (fun k hk => by omega)
  obtain ⟨t0, f1, f2, f3, t1, t2, t3, t4⟩ := W0.2.2.2.2.2.2.2.2.1
  obtain ⟨g3, e3, M3, O3⟩ := y_p31 W0.1 0
  have OO : On (fun k => k = 145 ∨ k = 160 ∨ k = 161 ∨ k = 162) g0 g3 := O3.mono (fun k hk => Or.inl hk)
  refine ⟨g3, ?_, W0.psaw OO M3 ⟨Nat.zero_le _, f1, f2, f3, (O3.2 _ (by decide)).trans t1, (O3.2 _ (by decide)).trans t2, (O3.2 _ (by decide)).trans t3, fun i q e => by simp at e⟩, O0'.trans (mon OO (fun k hk => by omega))⟩
  rw [← l_0] at e3
  unfold fX11_denies
  simp only [y_h W.1, if_true, e0, Option.bind_some, y_31 W0.1, e3]
end CE
