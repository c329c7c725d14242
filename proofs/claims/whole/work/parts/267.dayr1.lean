/-! a day told as a text, read by the reference -/
def dyX (tx : Nat → Nat) (a : Nat) : Nat := if tx a = 97 then 10 * dD tx a 1 + dD tx a 2 else dD tx a 1
def dyY (tx : Nat → Nat) (a : Nat) : Nat := if tx a = 97 then dD tx a 3 else dD tx a 2
def dyZ (tx : Nat → Nat) (a : Nat) : Nat := if tx a = 97 then 10 * dD tx a 4 + dD tx a 5 else 10 * dD tx a 3 + dD tx a 4
def ARw (tx : Nat → Nat) (a : Nat) (f : Nat → Int32) (k : Nat) : Prop := f (4 * k) = J (tx a) ∧ f (4 * k + 1) = J (dyX tx a) ∧ (tx a = 97 ∨ tx a = 114 ∨ tx a = 119 → f (4 * k + 2) = J (dyY tx a)) ∧ (tx a = 97 ∨ tx a = 119 → f (4 * k + 3) = J (dyZ tx a))
def pos (tx : Nat → Nat) : Nat → Nat
  | 0 => 0
  | k + 1 => pos tx k + 1 + dL tx (pos tx k)
theorem pos_ok {tx : Nat → Nat} {n : Nat} : ∀ N k, dOk tx n N (pos tx k) → pos tx (k + N) = n
  | 0, k, h => h
  | N + 1, k, h => by
    rw [show k + (N + 1) = (k + 1) + N by omega]
    exact pos_ok N (k + 1) h.2
theorem pos_lt {tx : Nat → Nat} : ∀ d k, pos tx k + d ≤ pos tx (k + d)
  | 0, k => Nat.le_refl _
  | d + 1, k => by
    have h1 := pos_lt (tx := tx) d k
    have h2 : pos tx (k + (d + 1)) = pos tx (k + d) + 1 + dL tx (pos tx (k + d)) := rfl
    omega
theorem pos_inj {tx : Nat → Nat} {a b : Nat} (h : pos tx a = pos tx b) : a = b := by
  by_cases z : a ≤ b
  · have := pos_lt (tx := tx) (b - a) a
    rw [show a + (b - a) = b by omega] at this
    omega
  · have := pos_lt (tx := tx) (a - b) b
    rw [show b + (a - b) = a by omega] at this
    omega
section DYR
variable {tx : Nat → Nat} {n : Nat} {F : Nat → Value} {g : AH} {a w i j q : Nat} {f : Nat → Int32}
/-- reading at a, an act of the kind i, j digits read -/
def RDs (tx : Nat → Nat) (n : Nat) (g : AH) (F : Nat → Value) (a w i j : Nat) : Prop := RS g 145 F 147 tx n 60 a w ∧ ((w = BIG ∧ a ≤ n ∧ a ≤ 60 ∧ dyF tx n = dyP tx n (61 - a) a i j) ∨ (w < BIG ∧ a < 100 ∧ dyF tx n = w))
theorem RDs.on {P : Nat → Prop} {g' : AH} (W : RDs tx n g F a w i j) (O : On P g g') (h1 : ¬ P 145) (h2 : ¬ P 147) : RDs tx n g' F a w i j := ⟨rs_on W.1 O h1 h2, W.2⟩
theorem RDs.r23 (W : RDs tx n g F a w i j) (F23 : F 23 = .ref 156) : gR g 11 145 23 = some 156 := ob_r W.1.2.1 (by decide) (by rw [rs_f W.1 (by decide) (by decide)]; exact F23)
theorem RDs.st (W : RDs tx n g F a w i j) (c : g.1 156 = some (.inl (0, 320, .inl f))) {x : Nat} (hx : x < 320) (v : Int32) : ∃ g', sI g 0 156 (J x) v = some g' ∧ RDs tx n g' F a w i j ∧ g'.1 156 = some (.inl (0, 320, .inl (fun y => if y = x then v else f y))) ∧ On (fun k => k = 145 ∨ k = 156) g g' := by
  obtain ⟨g1, e1, c1, O1⟩ := wa_s c hx (by decide) v
  have O1' : On (fun k => k = 156) g g1 := O1.on1 rfl
  exact ⟨g1, e1, W.on O1' (by decide) (by decide), c1, O1'.mono (fun k hk => Or.inr hk)⟩
theorem dHi_2 (i j : Nat) : dHi i j = 55 ∨ dHi i j = 57 := by
  unfold dHi
  split
  · exact Or.inl rfl
  · exact Or.inr rfl
theorem dyR_one (W : RDs tx n g F a w i j) (hj : j < dLn i) : ∃ g' a' w' v, fX11_oneOf g 145 (J 48) (J (dHi i j - 47)) = some (J v, g') ∧ RDs tx n g' F a' w' i (j + 1) ∧ (w' = BIG → w = BIG ∧ a' = a + 1 ∧ v = tx a - 48) ∧ On (fun k => k = 145) g g' := by
  obtain ⟨R, o⟩ := W
  have hh := dHi_2 i j
  have big : BIG = 4294967295 := rfl
  rcases o with ⟨rfl, h1, h2, e⟩ | ⟨hw, ha, e⟩
  · by_cases z : a < n ∧ a < 60 ∧ 48 ≤ tx a ∧ tx a ≤ dHi i j
    · have hi := hr_in (τ := tx) (len := n) (top := 60) z.1 z.2.1
      obtain ⟨g1, e1, R1, O1⟩ := m_oneOf_y R (fi := 48) (n := dHi i j - 47) (by omega) (by omega) (by rw [hi]; exact z.2.2.1) (by rw [hi]; omega)
      rw [hi] at e1
      refine ⟨g1, a + 1, BIG, tx a - 48, e1, ⟨R1, Or.inl ⟨rfl, by omega, by omega, ?_⟩⟩, fun _ => ⟨rfl, rfl, rfl⟩, O1⟩
      rw [e, show 61 - a = (61 - (a + 1)) + 1 by omega]
      conv => lhs; unfold dyP
      rw [if_neg (by omega), if_neg (by omega), if_pos z.2.2]
    · obtain ⟨g1, e1, R1, O1⟩ := m_oneOf_n R (by omega) (fi := 48) (n := dHi i j - 47) (by omega) (by omega) (fun y => by
        have hin := hrf_lt (τ := tx) (len := n) (top := 60) (i := a) (fun x => by rw [x] at y; omega)
        rw [hr_in hin.1 hin.2] at y
        exact z ⟨hin.1, hin.2, y.1, by omega⟩)
      refine ⟨g1, a, a, 0, e1, ⟨R1, Or.inr ⟨by omega, by omega, ?_⟩⟩, fun x => by omega, O1⟩
      rw [e, show 61 - a = (60 - a) + 1 by omega]
      unfold dyP
      by_cases z1 : n ≤ a ∨ 60 ≤ a
      · rw [if_pos z1]
        by_cases z2 : 60 < n
        · rw [if_pos z2]; omega
        · rw [if_neg z2, if_pos hj]; omega
      · rw [if_neg z1, if_neg (by omega), if_neg (fun y => z ⟨by omega, by omega, y.1, y.2⟩)]
  · exact ⟨g, a, w, 0, m_oneOf_f R hw _ _, ⟨R, Or.inr ⟨hw, ha, e⟩⟩, fun x => absurd x (Nat.ne_of_lt hw), On.rf⟩
theorem dyR_10 (W : RDs tx n g F a w i j) (hj : j < dLn i) (hh : dHi i j = 57) : ∃ g' a' w' v, fX11_oneOf g 145 48 10 = some (J v, g') ∧ RDs tx n g' F a' w' i (j + 1) ∧ (w' = BIG → w = BIG ∧ a' = a + 1 ∧ v = tx a - 48) ∧ On (fun k => k = 145) g g' := by
  obtain ⟨g1, a1, w1, v, e1, W1, b1, O1⟩ := dyR_one W hj
  rw [hh] at e1
  exact ⟨g1, a1, w1, v, e1, W1, b1, O1⟩
theorem dyR_8 (W : RDs tx n g F a w i j) (hj : j < dLn i) (hh : dHi i j = 55) : ∃ g' a' w' v, fX11_oneOf g 145 48 8 = some (J v, g') ∧ RDs tx n g' F a' w' i (j + 1) ∧ (w' = BIG → w = BIG ∧ a' = a + 1 ∧ v = tx a - 48) ∧ On (fun k => k = 145) g g' := by
  obtain ⟨g1, a1, w1, v, e1, W1, b1, O1⟩ := dyR_one W hj
  rw [hh] at e1
  exact ⟨g1, a1, w1, v, e1, W1, b1, O1⟩
theorem dyR_two (W : RDs tx n g F a w i j) (hj : j + 1 < dLn i) (h1 : dHi i j = 57) (h2 : dHi i (j + 1) = 57) : ∃ g' a' w' v, fX11_twoDigits g 145 = some (J v, g') ∧ RDs tx n g' F a' w' i (j + 2) ∧ (w' = BIG → w = BIG ∧ a' = a + 2 ∧ v = 10 * (tx a - 48) + (tx (a + 1) - 48)) ∧ On (fun k => k = 145) g g' := by
  obtain ⟨g1, a1, w1, v1, e1, W1, b1, O1⟩ := dyR_10 W (by omega) h1
  obtain ⟨g2, a2, w2, v2, e2, W2, b2, O2⟩ := dyR_10 W1 hj h2
  refine ⟨g2, a2, w2, 10 * v1 + v2, ?_, W2, fun z => ?_, O1.trans O2⟩
  · unfold fX11_twoDigits
    rw [if_pos (rs_h W.1), e1, Option.bind_some, e2, Option.bind_some, l_10, J_mul, J_add]
  · obtain ⟨c1, c2, c3⟩ := b2 z
    obtain ⟨d1, d2, d3⟩ := b1 c1
    exact ⟨d1, by omega, by rw [c3, d3, d2]⟩
theorem dyR_C (F23 : F 23 = .ref 156) (W : RDs tx n g F a w i j) (c : g.1 156 = some (.inl (0, 320, .inl f))) (hq : q + 3 < 320) (hj : j + 1 < dLn i) (h1 : dHi i j = 57) (h2 : dHi i (j + 1) = 57) : ∃ g' f' a' w', fX11_readAct_J142 g 145 (J q) = some g' ∧ RDs tx n g' F a' w' i (j + 2) ∧ g'.1 156 = some (.inl (0, 320, .inl f')) ∧ (∀ y, y ≠ q + 3 → f' y = f y) ∧ (w' = BIG → w = BIG ∧ a' = a + 2 ∧ f' (q + 3) = J (10 * (tx a - 48) + (tx (a + 1) - 48))) ∧ On (fun k => k = 145 ∨ k = 156) g g' := by
  obtain ⟨g1, a1, w1, v, e1, W1, b1, O1⟩ := dyR_two W hj h1 h2
  obtain ⟨g2, e2, W2, c2, O2⟩ := W1.st ((O1.2 156 (by decide)).trans c) hq (J v)
  refine ⟨g2, _, a1, w1, ?_, W2, c2, fun y hy => if_neg hy, fun z => ?_, (O1.mono (fun k hk => Or.inl hk)).trans O2⟩
  · unfold fX11_readAct_J142
    have l3 : J q + 3 = J (q + 3) := by rw [show (3 : Int32) = J 3 from rfl, J_add]
    rw [W.r23 F23, Option.bind_some, e1, Option.bind_some, l3, e2, Option.bind_some]
  · obtain ⟨d1, d2, d3⟩ := b1 z
    refine ⟨d1, d2, ?_⟩
    show (if q + 3 = q + 3 then J v else f (q + 3)) = _
    rw [if_pos rfl, d3]
theorem dyR_B (F23 : F 23 = .ref 156) (W : RDs tx n g F a w i j) (c : g.1 156 = some (.inl (0, 320, .inl f))) (hq : q + 2 < 320) (hj : j < dLn i) (h1 : dHi i j = 55) (v2 : Int32) : ∃ g' f' a' w', (∀ K : AH → Nat → Int32 → Int32 → Option AH, fX11_readAct_J114 K g 145 (J q) v2 = K g' 145 (J q) v2) ∧ RDs tx n g' F a' w' i (j + 1) ∧ g'.1 156 = some (.inl (0, 320, .inl f')) ∧ (∀ y, y ≠ q + 2 → f' y = f y) ∧ (w' = BIG → w = BIG ∧ a' = a + 1 ∧ f' (q + 2) = J (tx a - 48)) ∧ On (fun k => k = 145 ∨ k = 156) g g' := by
  obtain ⟨g1, a1, w1, v, e1, W1, b1, O1⟩ := dyR_8 W hj h1
  obtain ⟨g2, e2, W2, c2, O2⟩ := W1.st ((O1.2 156 (by decide)).trans c) hq (J v)
  refine ⟨g2, _, a1, w1, fun K => ?_, W2, c2, fun y hy => if_neg hy, fun z => ?_, (O1.mono (fun k hk => Or.inl hk)).trans O2⟩
  · unfold fX11_readAct_J114
    have l2 : J q + 2 = J (q + 2) := by rw [show (2 : Int32) = J 2 from rfl, J_add]
    rw [W.r23 F23, Option.bind_some, e1, Option.bind_some, l2, e2, Option.bind_some]
  · obtain ⟨d1, d2, d3⟩ := b1 z
    refine ⟨d1, d2, ?_⟩
    show (if q + 2 = q + 2 then J v else f (q + 2)) = _
    rw [if_pos rfl, d3]
/-- what is left of an act once its first number is read -/
theorem dyR_95 (F23 : F 23 = .ref 156) (W : RDs tx n g F a w i j) (c : g.1 156 = some (.inl (0, 320, .inl f))) (hq : q + 3 < 320) {t : Nat} (ht : t < 256) (hi : i = dIx t) (ht6 : t = 97 ∨ t = 101 ∨ t = 102 ∨ t = 114 ∨ t = 116 ∨ t = 119) (hj : j = if t = 97 then 2 else 1) (v : Nat) : ∃ g' f' a' w', fX11_readAct_J95 g 145 (J q) (J t) (J v) (J q + 1) 156 = some g' ∧ RDs tx n g' F a' w' i (dLn i) ∧ g'.1 156 = some (.inl (0, 320, .inl f')) ∧ (∀ y, y < q + 1 → f' y = f y) ∧ (w' = BIG → w = BIG ∧ a' = a + (dLn i - j) ∧ f' (q + 1) = J v ∧ (t = 97 ∨ t = 114 ∨ t = 119 → f' (q + 2) = J (tx a - 48)) ∧ (t = 97 ∨ t = 119 → f' (q + 3) = J (10 * (tx (a + 1) - 48) + (tx (a + 2) - 48)))) ∧ On (fun k => k = 145 ∨ k = 156) g g' := by
  have l1 : J q + 1 = J (q + 1) := by rw [l_1, J_add]
  obtain ⟨g1, e1, W1, c1, O1⟩ := W.st c (x := q + 1) (by omega) (J v)
  unfold fX11_readAct_J95
  rw [l1, e1, Option.bind_some]
  have kk : ∀ x : Nat, x < 256 → (J t = J x ↔ t = x) := fun x hx => J_inj (by omega) (by omega)
  have k97 : J t = 97 ↔ t = 97 := kk 97 (by decide)
  have k114 : J t = 114 ↔ t = 114 := kk 114 (by decide)
  have k119 : J t = 119 ↔ t = 119 := kk 119 (by decide)
  by_cases c0 : t = 101 ∨ t = 102 ∨ t = 116
  · have i3 : i = 3 := by rw [hi]; rcases c0 with z | z | z <;> rw [z] <;> rfl
    have ln : dLn i = 1 := by rw [i3]; rfl
    have j1 : j = 1 := by rw [hj, if_neg (by omega)]
    refine ⟨g1, _, a, w, ?_, by rw [ln, ← j1]; exact W1, c1, fun y hy => if_neg (by omega), fun z => ⟨z, by omega, if_pos rfl, fun y => by omega, fun y => by omega⟩, O1⟩
    unfold fX11_readAct_J130
    rw [if_neg (fun y => by have := k114.1 y; omega), if_neg (fun y => by have := k119.1 y; omega), if_neg (fun y => by have := k97.1 y; omega), if_neg (fun y => by have := k119.1 y; omega), if_neg (fun y => by have := k97.1 y; omega)]
  · have h55 : dHi i j = 55 := by
      have : t = 97 ∨ t = 114 ∨ t = 119 := by omega
      rcases this with z | z | z <;> rw [hi, hj, z] <;> rfl
    have hjl : j < dLn i := by
      have : t = 97 ∨ t = 114 ∨ t = 119 := by omega
      rcases this with z | z | z <;> rw [hi, hj, z] <;> decide
    obtain ⟨g2, f2, a2, w2, e2, W2, c2, n2, b2, O2⟩ := dyR_B (q := q) F23 W1 c1 (by omega) hjl h55 (J t)
    have s1 : f2 (q + 1) = J v := by rw [n2 _ (by omega)]; exact if_pos rfl
    have slow : ∀ y, y < q + 1 → f2 y = f y := fun y hy => by rw [n2 _ (by omega)]; exact if_neg (by omega)
    have O12 := O1.trans O2
    by_cases c4 : t = 114
    · have i1 : i = 1 := by rw [hi, c4]; rfl
      have ln : dLn i = 2 := by rw [i1]; rfl
      have j1 : j = 1 := by rw [hj, if_neg (by omega)]
      refine ⟨g2, f2, a2, w2, ?_, by rw [ln]; rw [j1] at W2; exact W2, c2, slow, fun z => ?_, O12⟩
      · rw [if_pos (k114.2 c4), e2]
        unfold fX11_readAct_J130
        rw [if_neg (fun y => by have := k119.1 y; omega), if_neg (fun y => by have := k97.1 y; omega)]
      · obtain ⟨d1, d2, d3⟩ := b2 z
        exact ⟨d1, by omega, s1, fun _ => d3, fun y => by omega⟩
    · rw [if_neg (fun y => c4 (k114.1 y))]
      have hC : j + 1 + 1 < dLn i ∧ dHi i (j + 1) = 57 ∧ dHi i (j + 1 + 1) = 57 ∧ dLn i = j + 3 := by
        have : t = 97 ∨ t = 119 := by omega
        rcases this with z | z <;> rw [hi, hj, z] <;> decide
      obtain ⟨g3, f3, a3, w3, e3, W3, c3, n3, b3, O3⟩ := dyR_C F23 W2 c2 hq hC.1 hC.2.1 hC.2.2.1
      refine ⟨g3, f3, a3, w3, ?_, by rw [hC.2.2.2]; exact W3, c3, fun y hy => (n3 y (by omega)).trans (slow y hy), fun z => ?_, O12.trans O3⟩
      · have e130 : fX11_readAct_J130 g2 145 (J q) (J t) = some g3 := by
          unfold fX11_readAct_J130
          by_cases c9 : t = 119
          · rw [if_pos (k119.2 c9), e3]
          · rw [if_neg (fun y => c9 (k119.1 y)), if_pos (k97.2 (by omega)), e3]
        by_cases c9 : t = 119
        · rw [if_pos (k119.2 c9), e2, e130]
        · rw [if_neg (fun y => c9 (k119.1 y)), if_pos (k97.2 (by omega)), e2, e130]
      · obtain ⟨p1, p2, p3⟩ := b3 z
        obtain ⟨d1, d2, d3⟩ := b2 p1
        refine ⟨d1, by omega, (n3 _ (by omega)).trans s1, fun _ => (n3 _ (by omega)).trans d3, fun _ => ?_⟩
        rw [p3, d2]
/-- an act -/
theorem dyR_act (F23 : F 23 = .ref 156) {k : Nat} (W : RDs tx n g F a BIG i j) (hj : dLn i ≤ j) (han : a < n) (c : g.1 156 = some (.inl (0, 320, .inl f))) (hk : k ≤ 30) (t256 : tx a < 256) : ∃ g' f' a' w', fX11_readAct g 145 (4 * J k) = some g' ∧ RDs tx n g' F a' w' (dIx (tx a)) (dL tx a) ∧ g'.1 156 = some (.inl (0, 320, .inl f')) ∧ (∀ y, y < 4 * k → f' y = f y) ∧ (w' = BIG → a' = a + 1 + dL tx a ∧ 0 < dL tx a ∧ ARw tx a f' k) ∧ On (fun k => k = 145 ∨ k = 156) g g' := by
  have big : BIG = 4294967295 := rfl
  obtain ⟨R, o⟩ := W
  have R0 : RDs tx n g F a BIG i j := ⟨R, o⟩
  obtain ⟨-, h1, h2, e⟩ : BIG = BIG ∧ a ≤ n ∧ a ≤ 60 ∧ dyF tx n = dyP tx n (61 - a) a i j := o.resolve_right (fun y => Nat.lt_irrefl _ y.1)
  have hl := hrf_l R a
  have l4 : (4 : Int32) * J k = J (4 * k) := by rw [show (4 : Int32) = J 4 from rfl, J_mul]
  unfold fX11_readAct
  rw [l4, if_pos (rs_h R), m_here R (by omega), Option.bind_some]
  have kk : ∀ x : Nat, x < 256 → (J (hrf tx n 60 a) = J x ↔ hrf tx n 60 a = x) := fun x hx => J_inj hl (by omega)
  have k97 : J (hrf tx n 60 a) = 97 ↔ hrf tx n 60 a = 97 := kk 97 (by decide)
  have k101 : J (hrf tx n 60 a) = 101 ↔ hrf tx n 60 a = 101 := kk 101 (by decide)
  have k102 : J (hrf tx n 60 a) = 102 ↔ hrf tx n 60 a = 102 := kk 102 (by decide)
  have k114 : J (hrf tx n 60 a) = 114 ↔ hrf tx n 60 a = 114 := kk 114 (by decide)
  have k116 : J (hrf tx n 60 a) = 116 ↔ hrf tx n 60 a = 116 := kk 116 (by decide)
  have k119 : J (hrf tx n 60 a) = 119 ↔ hrf tx n 60 a = 119 := kk 119 (by decide)
  by_cases z : a < 60 ∧ 0 < dL tx a
  · have hi := hr_in (τ := tx) (len := n) (top := 60) han z.1
    rw [hi] at k97 k101 k102 k114 k116 k119
    rw [hi]
    have t6 := dL_ltr z.2
    have j50 : ∃ g' f' a' w', fX11_readAct_J50 g 145 (J (4 * k)) (J (tx a)) = some g' ∧ RDs tx n g' F a' w' (dIx (tx a)) (dL tx a) ∧ g'.1 156 = some (.inl (0, 320, .inl f')) ∧ (∀ y, y < 4 * k → f' y = f y) ∧ (w' = BIG → a' = a + 1 + dL tx a ∧ 0 < dL tx a ∧ ARw tx a f' k) ∧ On (fun k => k = 145 ∨ k = 156) g g' := by
      obtain ⟨g1, e1, R1, O1⟩ := rs_p9 R (a + 1)
      have W1 : RDs tx n g1 F (a + 1) BIG (dIx (tx a)) 0 := by
        refine ⟨R1, Or.inl ⟨rfl, by omega, by omega, ?_⟩⟩
        rw [e, show 61 - a = (61 - (a + 1)) + 1 by omega]
        conv => lhs; unfold dyP
        rw [if_neg (by omega), if_pos hj, if_neg (show ¬ dLn (dIx (tx a)) = 0 by have : 0 < dLn (dIx (tx a)) := z.2; omega)]
      obtain ⟨g2, e2, W2, c2, O2⟩ := W1.st ((O1.2 156 (by decide)).trans c) (x := 4 * k) (by omega) (J (tx a))
      have O12 : On (fun k => k = 145 ∨ k = 156) g g2 := (O1.mono (fun k hk => Or.inl hk)).trans O2
      have l1 : J a + 1 = J (a + 1) := by rw [l_1, J_add]
      unfold fX11_readAct_J50
      rw [rs_9 R, Option.bind_some, l1, e1, Option.bind_some, W1.r23 F23, Option.bind_some, e2, Option.bind_some, W2.r23 F23, Option.bind_some]
      have dl0 : dLn (dIx (tx a)) = dL tx a := rfl
      by_cases c9 : tx a = 97
      · have ln : dLn (dIx (tx a)) = 5 := by rw [c9]; rfl
        obtain ⟨g3, a3, w3, v, e3, W3, b3, O3⟩ := dyR_two W2 (by omega) (by rw [c9]; rfl) (by rw [c9]; rfl)
        obtain ⟨g4, f4, a4, w4, e4, W4, c4, n4, b4, O4⟩ := dyR_95 (q := 4 * k) (t := tx a) F23 W3 ((O3.2 156 (by decide)).trans c2) (by omega) t256 rfl t6 (by rw [if_pos c9]) v
        rw [if_pos (k97.2 c9), e3, Option.bind_some]
        refine ⟨g4, f4, a4, w4, e4, W4, c4, fun y hy => (n4 y (by omega)).trans (if_neg (by omega)), fun zz => ?_, (O12.trans (O3.mono (fun k hk => Or.inl hk))).trans O4⟩
        obtain ⟨p1, p2, p3, p4, p5⟩ := b4 zz
        obtain ⟨d1, d2, d3⟩ := b3 p1
        refine ⟨by omega, z.2, (n4 _ (by omega)).trans (if_pos rfl), ?_, fun y => ?_, fun y => ?_⟩
        · rw [p3, d3]
          unfold dyX dD
          rw [if_pos c9]
        · rw [p4 y, d2]
          unfold dyY dD
          rw [if_pos c9]
        · rw [p5 y, d2]
          unfold dyZ dD
          rw [if_pos c9]
      · obtain ⟨g3, a3, w3, v, e3, W3, b3, O3⟩ := dyR_10 W2 z.2 (by rcases t6 with y | y | y | y | y | y <;> first | exact absurd y c9 | (rw [y]; rfl))
        obtain ⟨g4, f4, a4, w4, e4, W4, c4, n4, b4, O4⟩ := dyR_95 (q := 4 * k) (t := tx a) F23 W3 ((O3.2 156 (by decide)).trans c2) (by omega) t256 rfl t6 (by rw [if_neg c9]) v
        rw [if_neg (fun y => c9 (k97.1 y)), e3, Option.bind_some]
        refine ⟨g4, f4, a4, w4, e4, W4, c4, fun y hy => (n4 y (by omega)).trans (if_neg (by omega)), fun zz => ?_, (O12.trans (O3.mono (fun k hk => Or.inl hk))).trans O4⟩
        obtain ⟨p1, p2, p3, p4, p5⟩ := b4 zz
        obtain ⟨d1, d2, d3⟩ := b3 p1
        refine ⟨by omega, z.2, (n4 _ (by omega)).trans (if_pos rfl), ?_, fun y => ?_, fun y => ?_⟩
        · rw [p3, d3]
          unfold dyX dD
          rw [if_neg c9]
        · rw [p4 y, d2]
          unfold dyY dD
          rw [if_neg c9]
        · rw [p5 y, d2]
          unfold dyZ dD
          rw [if_neg c9]
    rcases t6 with y | y | y | y | y | y
    · rw [if_neg (fun x => by have := k114.1 x; omega), if_neg (fun x => by have := k119.1 x; omega), if_neg (fun x => by have := k102.1 x; omega), if_neg (fun x => by have := k101.1 x; omega), if_neg (fun x => by have := k116.1 x; omega), if_pos (k97.2 y)]
      exact j50
    · rw [if_neg (fun x => by have := k114.1 x; omega), if_neg (fun x => by have := k119.1 x; omega), if_neg (fun x => by have := k102.1 x; omega), if_pos (k101.2 y)]
      exact j50
    · rw [if_neg (fun x => by have := k114.1 x; omega), if_neg (fun x => by have := k119.1 x; omega), if_pos (k102.2 y)]
      exact j50
    · rw [if_pos (k114.2 y)]
      exact j50
    · rw [if_neg (fun x => by have := k114.1 x; omega), if_neg (fun x => by have := k119.1 x; omega), if_neg (fun x => by have := k102.1 x; omega), if_neg (fun x => by have := k101.1 x; omega), if_pos (k116.2 y)]
      exact j50
    · rw [if_neg (fun x => by have := k114.1 x; omega), if_pos (k119.2 y)]
      exact j50
  · have nl : ¬ (hrf tx n 60 a = 97 ∨ hrf tx n 60 a = 101 ∨ hrf tx n 60 a = 102 ∨ hrf tx n 60 a = 114 ∨ hrf tx n 60 a = 116 ∨ hrf tx n 60 a = 119) := by
      intro y
      have hin := hrf_lt (τ := tx) (len := n) (top := 60) (i := a) (by omega)
      rw [hr_in hin.1 hin.2] at y
      refine z ⟨hin.2, ?_⟩
      show 0 < dLn (dIx (tx a))
      rcases y with y | y | y | y | y | y <;> rw [y] <;> decide
    obtain ⟨g1, e1, R1, O1⟩ := m_fault R a
    rw [if_neg (fun x => by have := k114.1 x; omega), if_neg (fun x => by have := k119.1 x; omega), if_neg (fun x => by have := k102.1 x; omega), if_neg (fun x => by have := k101.1 x; omega), if_neg (fun x => by have := k116.1 x; omega), if_neg (fun x => by have := k97.1 x; omega), rs_9 R, Option.bind_some, e1, Option.bind_some]
    refine ⟨g1, f, a, a, rfl, ⟨R1, Or.inr ⟨by omega, by omega, ?_⟩⟩, (O1.2 156 (by decide)).trans c, fun y hy => rfl, fun x => by omega, O1.mono (fun k hk => Or.inl hk)⟩
    rw [e, show 61 - a = (60 - a) + 1 by omega]
    unfold dyP
    by_cases z1 : n ≤ a ∨ 60 ≤ a
    · rw [if_pos z1, if_pos (by omega)]
      omega
    · rw [if_neg z1, if_pos hj, if_pos (show dLn (dIx (tx a)) = 0 by have : ¬ 0 < dLn (dIx (tx a)) := fun y => z ⟨by omega, y⟩; omega)]
theorem ARw.cg {tx : Nat → Nat} {a k : Nat} {f f' : Nat → Int32} (W : ARw tx a f k) (h : ∀ y, y < 4 * k + 4 → f' y = f y) : ARw tx a f' k := by
  obtain ⟨h1, h2, h3, h4⟩ := W
  exact ⟨(h _ (by omega)).trans h1, (h _ (by omega)).trans h2, fun z => (h _ (by omega)).trans (h3 z), fun z => (h _ (by omega)).trans (h4 z)⟩
/-- all acts -/
theorem dyR_L (F23 : F 23 = .ref 156) (hS : ∀ i, i < n → tx i < 256) : ∀ m k q g f i j, 61 ≤ pos tx k + m → m < q → 2 * k ≤ pos tx k → RDs tx n g F (pos tx k) BIG i j → dLn i ≤ j → g.1 156 = some (.inl (0, 320, .inl f)) → (∀ k', k' < k → ARw tx (pos tx k') f k') → ∃ g' f' a' w' kk, (∀ K : AH → Nat → Int32 → Option (Int32 × AH), fX11_day_L13 K q g 145 (J k) = K g' 145 (J kk)) ∧ RS g' 145 F 147 tx n 60 a' w' ∧ g'.1 156 = some (.inl (0, 320, .inl f')) ∧ ((w' = BIG ∧ a' = n ∧ pos tx kk = n ∧ 2 * kk ≤ n ∧ dyF tx n = BIG ∧ ∀ k', k' < kk → ARw tx (pos tx k') f' k') ∨ (w' < BIG ∧ a' < 100 ∧ dyF tx n = w')) ∧ On (fun k => k = 145 ∨ k = 156) g g'
  | 0, k, q, g, f, i, j, h61, _, _, W, _, _, _ => by
    obtain ⟨-, h1, h2, e⟩ : BIG = BIG ∧ pos tx k ≤ n ∧ pos tx k ≤ 60 ∧ dyF tx n = dyP tx n (61 - pos tx k) (pos tx k) i j := W.2.resolve_right (fun y => Nat.lt_irrefl _ y.1)
    omega
  | m + 1, k, q + 1, g, f, i, j, h61, hq', h2k, W, hj, c, K0 => by
    have big : BIG = 4294967295 := rfl
    obtain ⟨-, h1, h2, e⟩ : BIG = BIG ∧ pos tx k ≤ n ∧ pos tx k ≤ 60 ∧ dyF tx n = dyP tx n (61 - pos tx k) (pos tx k) i j := W.2.resolve_right (fun y => Nat.lt_irrefl _ y.1)
    have l := rs_len W.1
    by_cases z : n ≤ pos tx k
    · refine ⟨g, f, pos tx k, BIG, k, fun K => ?_, W.1, c, Or.inl ⟨rfl, by omega, by omega, by omega, ?_, K0⟩, On.rf⟩
      · rw [fX11_day_L13, m_fine W.1 (by decide), Option.bind_some, if_pos (by decide), rs_9 W.1, Option.bind_some, rs_7 W.1, Option.bind_some, if_pos (by rw [J_le (by omega) (by omega)]; omega)]
      · rw [e, show 61 - pos tx k = (60 - pos tx k) + 1 by omega]
        unfold dyP
        rw [if_pos (Or.inl z), if_neg (by omega), if_neg (by omega)]
    · obtain ⟨g1, f1, a1, w1, e1, W1, c1, n1, b1, O1⟩ := dyR_act F23 (k := k) W hj (by omega) c (by omega) (hS _ (by omega))
      have hd : ∀ K : AH → Nat → Int32 → Option (Int32 × AH), fX11_day_L13 K (q + 1) g 145 (J k) = fX11_day_L13 K q g1 145 (J (k + 1)) := by
        intro K
        have l1 : J k + 1 = J (k + 1) := by rw [l_1, J_add]
        rw [fX11_day_L13, m_fine W.1 (by decide), Option.bind_some, if_pos (by decide), rs_9 W.1, Option.bind_some, rs_7 W.1, Option.bind_some, if_neg (fun y => by rw [J_le (by omega) (by omega)] at y; omega), e1, Option.bind_some]
        simp only [letF, l1]
      by_cases z1 : w1 = BIG
      · obtain ⟨d1, d2, d3⟩ := b1 z1
        have ep : pos tx (k + 1) = a1 := d1.symm
        rw [z1, ← ep] at W1
        obtain ⟨g2, f2, a2, w2, kk, e2, R2, c2, out, O2⟩ := dyR_L F23 hS m (k + 1) q g1 f1 _ _ (by omega) (by omega) (by omega) W1 (Nat.le_refl _) c1 (fun k' hk' => by
          by_cases y : k' = k
          · rw [y]; exact d3
          · exact (K0 k' (by omega)).cg (fun x hx => n1 x (by omega)))
        exact ⟨g2, f2, a2, w2, kk, fun K => (hd K).trans (e2 K), R2, c2, out, O1.trans O2⟩
      · obtain ⟨hw, ha, es⟩ := W1.2.resolve_left (fun y => z1 y.1)
        have hw' : w1 < 4294967295 := hw
        refine ⟨g1, f1, a1, w1, k + 1, fun K => ?_, W1.1, c1, Or.inr ⟨hw, ha, es⟩, O1⟩
        obtain ⟨q, rfl⟩ : ∃ x, q = x + 1 := ⟨q - 1, by omega⟩
        rw [hd, fX11_day_L13, m_fine W1.1 (by omega), Option.bind_some, if_neg (by rw [decide_eq_true_eq]; exact z1)]
end DYR
