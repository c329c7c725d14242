/-! pages that no space sees -/
def seB (w : ST) (o p : Nat) : Bool := exB (fun s => decide (fir w s p = o)) 6 0
def hfB (w : ST) (o p : Nat) : Bool := hd w o p && !seB w o p
def hdP (w : ST) (o : Nat) : Nat → Nat × List Int64 → Nat × List Int64
  | 0, st => st
  | k + 1, st => if hfB w o k = true then ((hdP w o k st).1 + 1, if (hdP w o k st).1 = 0 then [Int32.toInt64 (J o), Int32.toInt64 (J k)] else (hdP w o k st).2) else hdP w o k st
def hdO (w : ST) : Nat → Nat × List Int64
  | 0 => (0, [])
  | k + 1 => hdP w k 8 (hdO w k)
def HI (st : Nat × List Int64) : Prop := (st.1 = 0 → st.2 = []) ∧ st.2.length ≤ 2
theorem hdP_i {w : ST} {o : Nat} {st : Nat × List Int64} (H : HI st) : ∀ k, HI (hdP w o k st) ∧ (hdP w o k st).1 ≤ st.1 + k
  | 0 => ⟨H, Nat.le_refl _⟩
  | k + 1 => by
    obtain ⟨⟨h1, h2⟩, h3⟩ := hdP_i H k (w := w) (o := o)
    unfold hdP
    by_cases z : hfB w o k = true
    · rw [if_pos z]
      refine ⟨⟨fun y => absurd y (Nat.succ_ne_zero _), ?_⟩, by show (hdP w o k st).1 + 1 ≤ _; omega⟩
      show (if (hdP w o k st).1 = 0 then [Int32.toInt64 (J o), Int32.toInt64 (J k)] else (hdP w o k st).2).length ≤ 2
      split
      · exact Nat.le_refl _
      · exact h2
    · rw [if_neg z]
      exact ⟨⟨h1, h2⟩, by omega⟩
theorem hdO_i {w : ST} : ∀ k, HI (hdO w k) ∧ (hdO w k).1 ≤ 8 * k
  | 0 => ⟨⟨fun _ => rfl, Nat.zero_le _⟩, Nat.le_refl _⟩
  | k + 1 => by
    obtain ⟨h1, h2⟩ := hdO_i k (w := w)
    obtain ⟨h3, h4⟩ := hdP_i h1 8 (w := w) (o := k)
    exact ⟨h3, by show (hdP w k 8 (hdO w k)).1 ≤ _; omega⟩
theorem c_seen {h : AH} {a : Nat} {σ : ST} (W : WR h a σ) (R : RG σ) {o p : Nat} (ho' : o < 4294967296) (hp' : p < 4294967296) : fX9_isSeen h a (J o) (J p) = some (seB σ o p) := by
  unfold fX9_isSeen
  rw [if_pos (wr_h W), l_0]
  have e : ∀ m q k, k + m = 6 → m < q → fX9_isSeen_L2 h q a (J o) (J p) (J k) = some (exB (fun s => decide (fir σ s p = o)) m k) := by
    intro m
    induction m with
    | zero =>
      intro q k h1 h2
      obtain ⟨q, rfl⟩ : ∃ x, q = x + 1 := ⟨q - 1, by omega⟩
      rw [fX9_isSeen_L2]
      simp (disch := omega) only [l_6, J_le]
      rw [if_pos (by omega)]
      rfl
    | succ m ih =>
      intro q k h1 h2
      obtain ⟨q, rfl⟩ : ∃ x, q = x + 1 := ⟨q - 1, by omega⟩
      have f1 := fir_le (σ := σ) k p
      have ea : fX9_firstHolder h a (J k) (J p) = some (J (fir σ k p)) := c_fh W R (by omega) hp'
      rw [fX9_isSeen_L2]
      have e1 : J k + 1 = J (k + 1) := by rw [l_1, J_add]
      simp (disch := omega) only [l_6, J_le, ea, Option.bind_some, J_inj, letF, e1]
      rw [if_neg (by omega)]
      unfold exB
      by_cases z : fir σ k p = o
      · rw [if_pos z, decide_eq_true z]
        rfl
      · rw [if_neg z, decide_eq_false z, ih q (k + 1) (by omega) (by omega)]
        rfl
  exact e 6 FU 0 rfl (FU_gt (by decide))
section CK
variable {h g : AH} {mk : Nat} {tx : Nat → Nat} {len : Nat} {w : ST} {un : Nat} {us : Nat → ST} {kp : Nat → Bool} {ks : Nat → ST} {C : List Nat} {ρ : Nat → Nat} {rn : Nat} {row : List Int64} {hq : List (Nat × Nat)} {sq : List (Nat × Nat × Bool)}
theorem c_hidP (I : INV w) {o : Nat} (ho' : o < 24) (K : AH → Nat → Int32 → Int32 → Option (Int32 × AH)) {st : Nat × List Int64} (H : HI st) (hst : st.1 ≤ 200) : ∀ m n k h, k + m = 8 → m < n → CIk h mk tx len w un us kp ks C (hdP w o k st).2 hq sq → ∃ h', fX10_hidden_L19 K n h 0 (J (hdP w o k st).1) (J o) (J k) = K h' 0 (J (hdP w o 8 st).1) (J o) ∧ CIk h' mk tx len w un us kp ks C (hdP w o 8 st).2 hq sq ∧ On PC0 h h'
  | 0, n + 1, k, h, e, _, W => by
    have : k = 8 := by omega
    subst this
    refine ⟨h, ?_, W, On.rf⟩
    rw [fX10_hidden_L19]
    simp (disch := omega) only [l_8, J_le]
    rw [if_pos (by omega)]
  | m + 1, n + 1, k, h, e, hn, W => by
    have R := I.rg
    obtain ⟨⟨i1, i2⟩, i3⟩ := hdP_i H k (w := w) (o := o)
    have e1 : J k + 1 = J (k + 1) := by rw [l_1, J_add]
    rw [fX10_hidden_L19]
    simp (disch := omega) only [l_8, J_le, x_2 W.1, Option.bind_some, c_hd W.2.2.1 R, c_seen W.2.2.1 R, letF, e1]
    rw [if_neg (by omega)]
    have no : ¬ hfB w o k = true → ∃ h', fX10_hidden_L19 K n h 0 (J (hdP w o k st).1) (J o) (J (k + 1)) = K h' 0 (J (hdP w o 8 st).1) (J o) ∧ CIk h' mk tx len w un us kp ks C (hdP w o 8 st).2 hq sq ∧ On PC0 h h' := fun z => by
      have es : hdP w o (k + 1) st = hdP w o k st := by
        conv => lhs; unfold hdP
        rw [if_neg z]
      have := c_hidP I ho' K H hst m n (k + 1) h (by omega) (by omega) (by rw [es]; exact W)
      rw [es] at this
      exact this
    by_cases h1 : hd w o k = true
    · rw [if_pos h1]
      by_cases h2 : seB w o k = true
      · rw [if_pos h2]
        exact no (by unfold hfB; rw [h1, h2]; decide)
      · have z : hfB w o k = true := by
          unfold hfB
          rw [h1]
          simpa using h2
        have es : hdP w o (k + 1) st = ((hdP w o k st).1 + 1, if (hdP w o k st).1 = 0 then [Int32.toInt64 (J o), Int32.toInt64 (J k)] else (hdP w o k st).2) := by
          conv => lhs; unfold hdP
          rw [if_pos z]
        rw [if_neg h2]
        have a1 : J (hdP w o k st).1 + 1 = J ((hdP w o k st).1 + 1) := by rw [l_1, J_add]
        unfold fX10_tellFirst
        simp (disch := omega) only [x_h W.1, if_true, l_0, J_inj]
        by_cases z0 : (hdP w o k st).1 = 0
        · rw [if_pos z0]
          rw [i1 z0] at W
          obtain ⟨g2, e2, W2, O2⟩ := ci_add W (by simp) (Int32.toInt64 (J o))
          obtain ⟨g3, e3, W3, O3⟩ := ci_add W2 (by simp) (Int32.toInt64 (J k))
          obtain ⟨g4, e4, W4, O4⟩ := c_hidP I ho' K H hst m n (k + 1) g3 (by omega) (by omega) (by
            rw [es]
            show CIk g3 mk tx len w un us kp ks C (if (hdP w o k st).1 = 0 then [Int32.toInt64 (J o), Int32.toInt64 (J k)] else (hdP w o k st).2) hq sq
            rw [if_pos z0]
            exact W3)
          rw [es] at e4
          refine ⟨g4, ?_, W4, ((lon O2 (fun k hk => by omega)).trans (lon O3 (fun k hk => by omega))).trans O4⟩
          simp only [x_8 W.1, Option.bind_some, e2, x_8 W2.1, e3, a1]
          exact e4
        · rw [if_neg z0]
          obtain ⟨g4, e4, W4, O4⟩ := c_hidP I ho' K H hst m n (k + 1) h (by omega) (by omega) (by
            rw [es]
            show CIk h mk tx len w un us kp ks C (if (hdP w o k st).1 = 0 then [Int32.toInt64 (J o), Int32.toInt64 (J k)] else (hdP w o k st).2) hq sq
            rw [if_neg z0]
            exact W)
          rw [es] at e4
          refine ⟨g4, ?_, W4, O4⟩
          simp only [Option.bind_some, a1]
          exact e4
    · rw [if_neg h1]
      exact no (by unfold hfB; simp [h1])
theorem c_hidO (I : INV w) : ∀ m n k h, k + m = 24 → m < n → CIk h mk tx len w un us kp ks C (hdO w k).2 hq sq → ∃ h', fX10_hidden_L11 n h 0 (J (hdO w k).1) (J k) = some (J (hdO w 24).1, h') ∧ CIk h' mk tx len w un us kp ks C (hdO w 24).2 hq sq ∧ On PC0 h h'
  | 0, n + 1, k, h, e, _, W => by
    have : k = 24 := by omega
    subst this
    refine ⟨h, ?_, W, On.rf⟩
    rw [fX10_hidden_L11]
    simp (disch := omega) only [l_24, J_le]
    rw [if_pos (by omega)]
  | m + 1, n + 1, k, h, e, hn, W => by
    obtain ⟨i1, i2⟩ := hdO_i k (w := w)
    have e1 : J k + 1 = J (k + 1) := by rw [l_1, J_add]
    obtain ⟨g1, e2, W1, O1⟩ := c_hidP I (o := k) (by omega) (fun h13 x10 x11 x12 => letF (x12 + 1 : Int32) fun x14 => fX10_hidden_L11 n h13 x10 x11 x14) i1 (by omega) 8 FU 0 h rfl (FU_gt (by decide)) W
    obtain ⟨g2, e3, W2, O2⟩ := c_hidO I m n (k + 1) g1 (by omega) (by omega) W1
    refine ⟨g2, ?_, W2, O1.trans O2⟩
    rw [fX10_hidden_L11]
    simp (disch := omega) only [l_24, J_le]
    rw [if_neg (by omega)]
    refine Eq.trans e2 ?_
    simp only [letF, e1]
    exact e3
theorem xc_hidden (W : CIk h mk tx len w un us kp ks C row hq sq) (I : INV w) : ∃ h' mk', fX10_hidden h 0 = some (J (hdO w 24).1, h') ∧ CIk h' mk' tx len w un us kp ks C (hdO w 24).2 hq sq ∧ On PC0 h h' := by
  obtain ⟨g1, e1, W1, O1⟩ := ci_clr W
  obtain ⟨g2, e2, W2, O2⟩ := c_hidO I 24 FU 0 g1 rfl (FU_gt (by decide)) W1
  refine ⟨g2, mk, ?_, W2, (lon O1 (fun k hk => by omega)).trans O2⟩
  unfold fX10_hidden
  rw [if_pos (x_h W.1), x_8 W.1, Option.bind_some, e1, Option.bind_some]
  exact e2
def hvB (w : ST) (o p : Nat) : Nat → Bool := fun s => hs w s && decide (fir w s p = o)
theorem bts0 {f : Nat → Bool} {n : Nat} : bts f n = 0 ↔ ∀ i, i < n → ¬ f i = true := by
  constructor
  · intro e i hi z
    have := bts_tb f i n
    rw [e, Nat.zero_testBit, decide_eq_true hi, z] at this
    cases this
  · intro e
    apply Nat.eq_of_testBit_eq
    intro i
    rw [bts_tb, Nat.zero_testBit]
    by_cases hi : i < n
    · have := e i hi
      rw [decide_eq_true hi, Bool.true_and]
      simpa using this
    · rw [decide_eq_false hi, Bool.false_and]
theorem hv_se {o p : Nat} (R : RG w) (ho' : o < 24) : bts (hvB w o p) 6 = 0 ↔ ¬ seB w o p = true := by
  rw [bts0]
  unfold seB
  rw [exB_iff]
  constructor
  · intro e ⟨i, h1, h2, h3⟩
    have h3' := of_decide_eq_true h3
    refine e i (by omega) ?_
    unfold hvB
    by_cases z : hs w i = true
    · rw [z, h3]; rfl
    · have := fir_no p z R
      omega
  · intro e i hi z
    unfold hvB at z
    exact e ⟨i, by omega, by omega, (Bool.and_eq_true_iff.mp z).2⟩
theorem y_havers (W : MIv h tx len w un us kp ks ρ rn row hq sq) (I : INV w) {o p : Nat} (ho' : o < 24) (hp : p < 8) : fX11_havers h 145 (J o) (J p) = some (J (bts (hvB w o p) 6)) := by
  have R := I.rg
  have G := I.gr
  unfold fX11_havers
  rw [if_pos (y_h W.1), l_0]
  have e := loop_rec (fun q k c => fX11_havers_L5 h q 145 (J o) (J p) (J c) (J k)) 6 (bts (hvB w o p)) (some (J (bts (hvB w o p) 6))) (fun q k hk => by
    have f1 := fir_le (σ := w) k p
    have n1 := nn_lt f1
    try dsimp only
    rw [fX11_havers_L5]
    simp (disch := omega) only [l_6, J_le, y_0 W.1, m_hs W.2.2.1 R, Option.bind_some]
    rw [if_neg (by omega)]
    unfold fX11_havers_J47
    have e1 : J k + 1 = J (k + 1) := by rw [l_1, J_add]
    simp only [letF]
    rw [e1]
    conv => rhs; unfold bts
    unfold hvB
    by_cases h1 : hs w k = true
    · rw [if_pos h1]
      simp (disch := omega) only [m_frameOf W.2.2.1 R G hk hp, Option.bind_some, J_inj, nn_eq ho' f1]
      by_cases h2 : fir w k p = o
      · rw [if_pos h2, if_pos (by rw [h1, decide_eq_true h2]; rfl), J_bset _ (by omega)]
      · rw [if_neg h2, if_neg (by rw [decide_eq_false h2, Bool.and_false]; decide), l_0, J_or0]
    · rw [if_neg h1, if_neg (fun z => h1 (Bool.and_eq_true_iff.mp z).1), l_0, J_or0]) (fun q => by
    try dsimp only
    rw [fX11_havers_L5]
    simp (disch := omega) only [l_6, J_le]
    rw [if_pos (by omega)]) 6 FU 0 rfl (FU_gt (by decide))
  exact e
theorem y_hidP (I : INV w) {o : Nat} (ho' : o < 24) (K : AH → Nat → Int32 → Int32 → Option (Int32 × AH)) {st : Nat × List Int64} (H : HI st) (hst : st.1 ≤ 200) : ∀ m n k h, k + m = 8 → m < n → MIv h tx len w un us kp ks ρ rn (hdP w o k st).2 hq sq → ∃ h', fX11_hidden_L22 K n h 145 (J (hdP w o k st).1) (J o) (J k) = K h' 145 (J (hdP w o 8 st).1) (J o) ∧ MIv h' tx len w un us kp ks ρ rn (hdP w o 8 st).2 hq sq ∧ On PM0 h h'
  | 0, n + 1, k, h, e, _, W => by
    have : k = 8 := by omega
    subst this
    refine ⟨h, ?_, W, On.rf⟩
    rw [fX11_hidden_L22]
    simp (disch := omega) only [l_8, J_le]
    rw [if_pos (by omega)]
  | m + 1, n + 1, k, h, e, hn, W => by
    have R := I.rg
    obtain ⟨⟨i1, i2⟩, i3⟩ := hdP_i H k (w := w) (o := o)
    have e1 : J k + 1 = J (k + 1) := by rw [l_1, J_add]
    have hb := bts_lt (hvB w o k) 6
    have hv0 : J (bts (hvB w o k) 6) = 0 ↔ ¬ seB w o k = true := by
      rw [l_0, J_inj (by omega) (by decide), hv_se R ho']
    have ehd : hd w o k = (w 8 o).testBit k := by
      unfold hd
      rw [decide_eq_true ho', decide_eq_true (show k < 8 by omega)]
      rfl
    rw [fX11_hidden_L22]
    simp (disch := omega) only [l_8, J_le, y_0 W.1, Option.bind_some, m_hd W.2.2.1 R, y_havers W I, letF, e1, hv0]
    rw [if_neg (by omega), ← ehd]
    have no : ¬ hfB w o k = true → ∃ h', fX11_hidden_L22 K n h 145 (J (hdP w o k st).1) (J o) (J (k + 1)) = K h' 145 (J (hdP w o 8 st).1) (J o) ∧ MIv h' tx len w un us kp ks ρ rn (hdP w o 8 st).2 hq sq ∧ On PM0 h h' := fun z => by
      have es : hdP w o (k + 1) st = hdP w o k st := by
        conv => lhs; unfold hdP
        rw [if_neg z]
      have := y_hidP I ho' K H hst m n (k + 1) h (by omega) (by omega) (by rw [es]; exact W)
      rw [es] at this
      exact this
    by_cases h1 : hd w o k = true
    · rw [if_pos h1]
      by_cases h2 : seB w o k = true
      · rw [if_neg (fun y => y h2)]
        exact no (by unfold hfB; rw [h1, h2]; decide)
      · have z : hfB w o k = true := by
          unfold hfB
          rw [h1]
          simpa using h2
        have es : hdP w o (k + 1) st = ((hdP w o k st).1 + 1, if (hdP w o k st).1 = 0 then [Int32.toInt64 (J o), Int32.toInt64 (J k)] else (hdP w o k st).2) := by
          conv => lhs; unfold hdP
          rw [if_pos z]
        rw [if_pos h2]
        have a1 : J (hdP w o k st).1 + 1 = J ((hdP w o k st).1 + 1) := by rw [l_1, J_add]
        have c0 : J (hdP w o k st).1 = 0 ↔ (hdP w o k st).1 = 0 := by rw [l_0]; exact J_inj (by omega) (by decide)
        simp only [c0]
        by_cases z0 : (hdP w o k st).1 = 0
        · rw [if_pos z0]
          rw [i1 z0] at W
          obtain ⟨g2, e2, W2, O2⟩ := mi_tell W (by simp) (Int32.toInt64 (J o))
          obtain ⟨g3, e3, W3, O3⟩ := mi_tell W2 (by simp) (Int32.toInt64 (J k))
          obtain ⟨g4, e4, W4, O4⟩ := y_hidP I ho' K H hst m n (k + 1) g3 (by omega) (by omega) (by
            rw [es]
            show MIv g3 tx len w un us kp ks ρ rn (if (hdP w o k st).1 = 0 then [Int32.toInt64 (J o), Int32.toInt64 (J k)] else (hdP w o k st).2) hq sq
            rw [if_pos z0]
            exact W3)
          rw [es] at e4
          refine ⟨g4, ?_, W4, ((mon O2 (fun k hk => by omega)).trans (mon O3 (fun k hk => by omega))).trans O4⟩
          rw [e2, Option.bind_some, e3, Option.bind_some, a1]
          exact e4
        · rw [if_neg z0]
          obtain ⟨g4, e4, W4, O4⟩ := y_hidP I ho' K H hst m n (k + 1) h (by omega) (by omega) (by
            rw [es]
            show MIv h tx len w un us kp ks ρ rn (if (hdP w o k st).1 = 0 then [Int32.toInt64 (J o), Int32.toInt64 (J k)] else (hdP w o k st).2) hq sq
            rw [if_neg z0]
            exact W)
          rw [es] at e4
          refine ⟨g4, ?_, W4, O4⟩
          rw [a1]
          exact e4
    · rw [if_neg h1]
      exact no (by unfold hfB; simp [h1])
theorem y_hidO (I : INV w) : ∀ m n k h, k + m = 24 → m < n → MIv h tx len w un us kp ks ρ rn (hdO w k).2 hq sq → ∃ h', fX11_hidden_L14 n h 145 (J (hdO w k).1) (J k) = some (J (hdO w 24).1, h') ∧ MIv h' tx len w un us kp ks ρ rn (hdO w 24).2 hq sq ∧ On PM0 h h'
  | 0, n + 1, k, h, e, _, W => by
    have : k = 24 := by omega
    subst this
    refine ⟨h, ?_, W, On.rf⟩
    rw [fX11_hidden_L14]
    simp (disch := omega) only [l_24, J_le]
    rw [if_pos (by omega)]
  | m + 1, n + 1, k, h, e, hn, W => by
    obtain ⟨i1, i2⟩ := hdO_i k (w := w)
    have e1 : J k + 1 = J (k + 1) := by rw [l_1, J_add]
    obtain ⟨g1, e2, W1, O1⟩ := y_hidP I (o := k) (by omega) (fun h15 x12 x13 x14 => letF (x14 + 1 : Int32) fun x16 => fX11_hidden_L14 n h15 x12 x13 x16) i1 (by omega) 8 FU 0 h rfl (FU_gt (by decide)) W
    obtain ⟨g2, e3, W2, O2⟩ := y_hidO I m n (k + 1) g1 (by omega) (by omega) W1
    refine ⟨g2, ?_, W2, O1.trans O2⟩
    rw [fX11_hidden_L14]
    simp (disch := omega) only [l_24, J_le]
    rw [if_neg (by omega)]
    refine Eq.trans e2 ?_
    simp only [letF, e1]
    exact e3
theorem xm_hidden (W : MIv h tx len w un us kp ks ρ rn row hq sq) (I : INV w) : ∃ h', fX11_hidden h 145 = some (J (hdO w 24).1, h') ∧ MIv h' tx len w un us kp ks ρ rn (hdO w 24).2 hq sq ∧ On PM0 h h' := by
  obtain ⟨g0, e0, W0, -, O0⟩ := mi_t0 W
  obtain ⟨g1, e1, W1, O1⟩ := mi_clr W0
  obtain ⟨g2, e2, W2, O2⟩ := y_hidO I 24 FU 0 g1 rfl (FU_gt (by decide)) W1
  refine ⟨g2, ?_, W2, ((mon O0 (fun k hk => by omega)).trans (mon O1 (fun k hk => by omega))).trans O2⟩
  unfold fX11_hidden
  rw [if_pos (y_h W.1), e0, Option.bind_some, e1, Option.bind_some]
  exact e2
end CK
