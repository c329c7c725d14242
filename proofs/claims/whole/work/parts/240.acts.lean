/-! calls that act on the world -/
abbrev PC0 : Nat → Prop := fun k => k < 145
abbrev PM0 : Nat → Prop := fun k => 145 ≤ k ∧ k < 166
def kN (b : Bool) (un : Nat) : Nat := if b = true then uN un else un
def kS (b : Bool) (un : Nat) (us : Nat → ST) (σ : ST) : Nat → ST := if b = true then uS un us σ else us
section CA
variable {h g : AH} {mk : Nat} {tx : Nat → Nat} {len : Nat} {w : ST} {un : Nat} {us : Nat → ST} {kp : Nat → Bool} {ks : Nat → ST} {C : List Nat} {ρ : Nat → Nat} {rn : Nat} {row : List Int64} {hq : List (Nat × Nat)} {sq : List (Nat × Nat × Bool)}
theorem ci_mark (W : CIk h mk tx len w un us kp ks C row hq sq) : ∃ g, fX2_mark h 20 2 = some g ∧ CIk g mk tx len w un us kp ks C row hq sq ∧ WR g (24 + 9 * mk) w ∧ On PC0 h g := by
  obtain ⟨w1, w2, w3, w4, w5, w6, w7, w8, w9, w10, w11, w12⟩ := W
  have m9 : mk < 9 := by
    obtain ⟨F, fm, fs, fb, y1, y2, y3, y4, y5, y6, y7, -⟩ := w5
    exact y7
  obtain ⟨g, e, H, R, O⟩ := c_mark w5 w3
  refine ⟨g, e, ⟨w1.on O (by omega), w2.on O (by omega), w3.on O (fun k h1 h2 => by omega), w4.on O (fun k h1 h2 => by omega), H, w6.on O (by omega) (by omega) (by omega), w7.on O (by omega) (by omega) (by omega), w8.on O (by omega) (by omega) (by omega), w9.on O (by omega) (by omega), w10.on O (fun k h1 h2 => by omega), w11.on O (fun k h1 h2 => by omega), w12.on O (by omega) (by omega)⟩, R, O.mono (fun k hk => by show k < 145; omega)⟩
theorem CIk.mk9 (W : CIk h mk tx len w un us kp ks C row hq sq) : mk < 9 := by
  obtain ⟨w1, w2, w3, w4, w5, -⟩ := W
  obtain ⟨F, fm, fs, fb, y1, y2, y3, y4, y5, y6, y7, -⟩ := w5
  exact y7
theorem CIk.pw {w' : ST} (W : CIk h mk tx len w un us kp ks C row hq sq) (O : On (fun k => 2 ≤ k ∧ k < 11) h g) (R : WR g 2 w') : CIk g mk tx len w' un us kp ks C row hq sq := by
  obtain ⟨w1, w2, w3, w4, w5, w6, w7, w8, w9, w10, w11, w12⟩ := W
  exact ⟨w1.on O (by omega), w2.on O (by omega), R, w4.on O (fun k h1 h2 => by omega), w5.on O (fun k h1 h2 => by omega), w6.on O (by omega) (by omega) (by omega), w7.on O (by omega) (by omega) (by omega), w8.on O (by omega) (by omega) (by omega), w9.on O (by omega) (by omega), w10.on O (fun k h1 h2 => by omega), w11.on O (fun k h1 h2 => by omega), w12.on O (by omega) (by omega)⟩
/-- a world and the rule's stack -/
theorem CIk.pwr {w' : ST} (W : CIk h mk tx len w un us kp ks C row hq sq) (O : On (PW 2 123) h g) (R : WR g 2 w') (U : RU g 123 C) : CIk g mk tx len w' un us kp ks C row hq sq := by
  obtain ⟨w1, w2, w3, w4, w5, w6, w7, w8, w9, w10, w11, w12⟩ := W
  exact ⟨w1.on O (by omega), w2.on O (by omega), R, w4.on O (fun k h1 h2 => by omega), w5.on O (fun k h1 h2 => by omega), U, w7.on O (by omega) (by omega) (by omega), w8.on O (by omega) (by omega) (by omega), w9.on O (by omega) (by omega), w10.on O (fun k h1 h2 => by omega), w11.on O (fun k h1 h2 => by omega), w12.on O (by omega) (by omega)⟩
theorem CIk.prow {row' : List Int64} (W : CIk h mk tx len w un us kp ks C row hq sq) (O : On (fun k => k = 132 ∨ k = 133) h g) (R : CRow g row') : CIk g mk tx len w un us kp ks C row' hq sq := by
  obtain ⟨w1, w2, w3, w4, w5, w6, w7, w8, w9, w10, w11, w12⟩ := W
  exact ⟨w1.on O (by omega), w2.on O (by omega), w3.on O (fun k h1 h2 => by omega), w4.on O (fun k h1 h2 => by omega), w5.on O (fun k h1 h2 => by omega), w6.on O (by omega) (by omega) (by omega), w7.on O (by omega) (by omega) (by omega), w8.on O (by omega) (by omega) (by omega), R, w10.on O (fun k h1 h2 => by omega), w11.on O (fun k h1 h2 => by omega), w12.on O (by omega) (by omega)⟩
theorem ci_clr (W : CIk h mk tx len w un us kp ks C row hq sq) : ∃ g, fX5_clear h 132 = some g ∧ CIk g mk tx len w un us kp ks C [] hq sq ∧ On (fun k => k = 132 ∨ k = 133) h g := by
  obtain ⟨g, e, R, O⟩ := c_clr W.2.2.2.2.2.2.2.2.1
  have O' : On (fun k => k = 132 ∨ k = 133) h g := O.mono (fun k hk => Or.inl hk)
  exact ⟨g, e, W.prow O' R, O'⟩
theorem ci_add (W : CIk h mk tx len w un us kp ks C row hq sq) (hr : row.length < 24) (x : Int64) : ∃ g, fX5_add h 132 x = some g ∧ CIk g mk tx len w un us kp ks C (row ++ [x]) hq sq ∧ On (fun k => k = 132 ∨ k = 133) h g := by
  obtain ⟨g, e, R, O⟩ := c_add W.2.2.2.2.2.2.2.2.1 hr x
  exact ⟨g, e, W.prow O R, O⟩
theorem ci_keepIf {σ : ST} (W : CIk h mk tx len w un us kp ks C row hq sq) (b : Bool) (R : b = true → WR h (24 + 9 * mk) σ) : ∃ g mk', fX10_keepIfDone h 0 b = some g ∧ CIk g mk' tx len w (kN b un) (kS b un us σ) kp ks C row hq sq ∧ On PC0 h g := by
  have W0 := W
  obtain ⟨w1, w2, w3, w4, w5, w6, w7, w8, w9, w10, w11, w12⟩ := W
  unfold fX10_keepIfDone kN kS
  simp only [x_h w1, if_true]
  cases b
  · simp only [if_neg (show ¬ false = true by decide)]
    exact ⟨h, mk, rfl, W0, On.rf⟩
  · simp only [if_true]
    obtain ⟨g, e, H, O⟩ := c_keep w5 (R rfl)
    refine ⟨g, (mk + 1) % 9, ?_, ⟨w1.on O (by omega), w2.on O (by omega), w3.on O (fun k h1 h2 => by omega), w4.on O (fun k h1 h2 => by omega), H, w6.on O (by omega) (by omega) (by omega), w7.on O (by omega) (by omega) (by omega), w8.on O (by omega) (by omega) (by omega), w9.on O (by omega) (by omega), w10.on O (fun k h1 h2 => by omega), w11.on O (fun k h1 h2 => by omega), w12.on O (by omega) (by omega)⟩, O.mono (fun k hk => by show k < 145; omega)⟩
    simp only [x_4 w1, Option.bind_some, e]
theorem mi_t0 (W : MIv h tx len w un us kp ks ρ rn row hq sq) : ∃ g, pF h 11 145 5 (.int 0) = some g ∧ MIv g tx len w un us kp ks ρ rn row hq sq ∧ gI g 11 145 5 = some 0 ∧ On (fun k => k = 145) h g := by
  obtain ⟨w1, w2, w3, w4, w5, w6, w7, w8, w9, w10⟩ := W
  obtain ⟨g, e, M, F5, O⟩ := y_p w1 (k := 5) (Or.inl rfl) (.int 0)
  refine ⟨g, e, ⟨M, w2.on O (by omega), w3.on O (by omega), w4.on O (by omega), w5.on O (by omega) (by omega), w6.on O (by omega), w7.on O (by omega), w8.on O (by omega) (by omega), w9.on O (by omega) (by omega) (by omega), w10.on O (fun k hk => by omega)⟩, ?_, O⟩
  unfold gI
  rw [F5]
theorem MIv.pw {w' : ST} (W : MIv h tx len w un us kp ks ρ rn row hq sq) (O : On (fun k => k = 146) h g) (R : RA g 146 w') : MIv g tx len w' un us kp ks ρ rn row hq sq := by
  obtain ⟨w1, w2, w3, w4, w5, w6, w7, w8, w9, w10⟩ := W
  exact ⟨w1.on O (by omega), w2.on O (by omega), R, w4.on O (by omega), w5.on O (by omega) (by omega), w6.on O (by omega), w7.on O (by omega), w8.on O (by omega) (by omega), w9.on O (by omega) (by omega) (by omega), w10.on O (fun k hk => by omega)⟩
/-- a world, and fields that are no one's -/
theorem MIv.pwo {w' : ST} (W : MIv h tx len w un us kp ks ρ rn row hq sq) (O : On (fun k => k = 146 ∨ k = 145) h g) (M : MO g len row.length un rn hq.length sq.length) (R : RA g 146 w') : MIv g tx len w' un us kp ks ρ rn row hq sq := by
  obtain ⟨w1, w2, w3, w4, w5, w6, w7, w8, w9, w10⟩ := W
  exact ⟨M, w2.on O (by omega), R, w4.on O (by omega), w5.on O (by omega) (by omega), w6.on O (by omega), w7.on O (by omega), w8.on O (by omega) (by omega), w9.on O (by omega) (by omega) (by omega), w10.on O (fun k hk => by omega)⟩
theorem mi_rem (W : MIv h tx len w un us kp ks ρ rn row hq sq) : ∃ g, fX11_remember h 145 146 = some g ∧ MIv g tx len w (uN un) (uS un us w) kp ks ρ rn row hq sq ∧ On (fun k => k = 145 ∨ k = 153) h g := by
  obtain ⟨w1, w2, w3, w4, w5, w6, w7, w8, w9, w10⟩ := W
  obtain ⟨g, e, M, U, O⟩ := m_remember w1 w4 w3 ⟨by decide, by decide⟩
  exact ⟨g, e, ⟨M, w2.on O (by omega), w3.on O (by omega), U, w5.on O (by omega) (by omega), w6.on O (by omega), w7.on O (by omega), w8.on O (by omega) (by omega), w9.on O (by omega) (by omega) (by omega), w10.on O (fun k hk => by omega)⟩, O⟩
theorem mi_clr (W : MIv h tx len w un us kp ks ρ rn row hq sq) : ∃ g, pF h 11 145 4 (.int 0) = some g ∧ MIv g tx len w un us kp ks ρ rn [] hq sq ∧ On (fun k => k = 145) h g := by
  obtain ⟨w1, w2, w3, w4, w5, w6, w7, w8, w9, w10⟩ := W
  obtain ⟨g, e, M, O⟩ := y_p4 w1 0
  obtain ⟨r0, f, r1, r2⟩ := w7
  exact ⟨g, e, ⟨M, w2.on O (by omega), w3.on O (by omega), w4.on O (by omega), w5.on O (by omega) (by omega), w6.on O (by omega), ⟨Nat.zero_le _, f, (O.2 _ (by decide)).trans r1, fun i x hx => by simp at hx⟩, w8.on O (by omega) (by omega), w9.on O (by omega) (by omega) (by omega), w10.on O (fun k hk => by omega)⟩, O⟩
theorem mi_tell (W : MIv h tx len w un us kp ks ρ rn row hq sq) (hr : row.length < 24) (x : Int64) : ∃ g, fX11_tell h 145 x = some g ∧ MIv g tx len w un us kp ks ρ rn (row ++ [x]) hq sq ∧ On (fun k => k = 145 ∨ k = 148) h g := by
  obtain ⟨w1, w2, w3, w4, w5, w6, w7, w8, w9, w10⟩ := W
  obtain ⟨g, e, M, R, O⟩ := m_tell w1 w7 hr x
  exact ⟨g, e, ⟨M, w2.on O (by omega), w3.on O (by omega), w4.on O (by omega), w5.on O (by omega) (by omega), w6.on O (by omega), R, w8.on O (by omega) (by omega), w9.on O (by omega) (by omega) (by omega), w10.on O (fun k hk => by omega)⟩, O⟩
theorem wr_mark {σ : ST} {P : Nat → Prop} (R : WR h (24 + 9 * mk) σ) (hm : mk < 9) (O : On P h g) (hP : ∀ k, 24 ≤ k → k < 105 → ¬ P k) : WR g (24 + 9 * mk) σ := R.on O (fun k h1 h2 => hP k (by omega) (by omega))
theorem i2z_0 : i2z 0 = some false := rfl
theorem i2z_1 : i2z 1 = some true := rfl
/-! 12 -/
theorem frkN_ok {s : Nat} (R : RG w) : (frkOk w s ↔ frkN w s < 6) ∧ (¬ frkOk w s → 4294967290 ≤ frkN w s ∧ frkN w s < 4294967296) ∧ (frkOk w s → frkN w s = frS w) := by
  unfold frkOk frkN
  by_cases h0 : hs w s = true
  · rw [if_pos h0]
    by_cases h1 : frS w < 6
    · rw [if_pos h1]
      by_cases h2 : ¬ pgr w (w 0 s) = 0 ∧ ¬ frO w < 24
      · rw [if_pos h2]
        refine ⟨⟨fun z => (z.2.2.elim (fun y => absurd y h2.1) (fun y => absurd y h2.2)), fun z => by omega⟩, fun _ => by omega, fun z => (z.2.2.elim (fun y => absurd y h2.1) (fun y => absurd y h2.2))⟩
      · rw [if_neg h2]
        have : pgr w (w 0 s) = 0 ∨ frO w < 24 := by
          by_cases y : pgr w (w 0 s) = 0
          · exact Or.inl y
          · exact Or.inr (Classical.byContradiction fun x => h2 ⟨y, x⟩)
        exact ⟨⟨fun _ => h1, fun _ => ⟨h0, h1, this⟩⟩, fun z => absurd ⟨h0, h1, this⟩ z, fun _ => rfl⟩
    · rw [if_neg h1]
      exact ⟨⟨fun z => absurd z.2.1 h1, fun z => by omega⟩, fun _ => by omega, fun z => absurd z.2.1 h1⟩
  · rw [if_neg h0]
    exact ⟨⟨fun z => absurd z.1 h0, fun z => by omega⟩, fun _ => by omega, fun z => absurd z.1 h0⟩
theorem xc_forks (W : CIk h mk tx len w un us kp ks C row hq sq) (I : INV w) {s : Nat} (hs' : s < 4294967296) : ∃ h' mk', fX10_forks h 0 (J s) = some (J (frkN w s), h') ∧ CIk h' mk' tx len (if frkN w s < 6 then frkS w s else w) (kN (decide (frkN w s < 6)) un) (kS (decide (frkN w s < 6)) un us w) kp ks C row hq sq ∧ On PC0 h h' := by
  obtain ⟨f1, f2, f3⟩ := frkN_ok (s := s) I.rg
  obtain ⟨g1, e1, W1, R1, O1⟩ := ci_mark W
  obtain ⟨c, b, K1⟩ := W1.2.2.1.wk
  obtain ⟨g2, τ, e2, K2, O2, H2⟩ := c_fork K1 I.rg I.gr hs'
  have O2' : On (fun k => 2 ≤ k ∧ k < 11) g1 g2 := O2.on (fun k h1 h2 => ⟨h1, h2⟩)
  have hτ : τ = if frkN w s < 6 then frkS w s else w := by
    rcases H2 with ⟨k1, k2⟩ | ⟨k1, k2, k3⟩
    · rw [if_pos (f1.mp k1)]; exact k2
    · rw [if_neg (fun z => k1 (f1.mpr z))]; exact k2
  have W2 := W1.pw O2' K2.wr
  rw [hτ] at W2
  have R2 := wr_mark R1 W1.mk9 O2' (fun k h1 h2 => by omega)
  obtain ⟨g3, mk3, e3, W3, O3⟩ := ci_keepIf W2 (decide (frkN w s < 6)) (fun _ => R2)
  refine ⟨g3, mk3, ?_, W3, (O1.trans (O2'.mono (fun k hk => by show k < 145; omega))).trans O3⟩
  unfold fX10_forks fX10_forks_J30
  simp only [x_h W.1, if_true, x_4 W.1, x_2 W.1, x_2 W1.1, Option.bind_some, e1, e2]
  by_cases hk : frkN w s < 6
  · rw [decide_eq_true hk] at e3
    simp (disch := omega) only [l_0, J_lt]
    rw [if_neg (by omega), i2z_1]
    simp only [Option.bind_some, e3]
  · have := f2 (fun z => hk (f1.mp z))
    rw [decide_eq_false hk] at e3
    simp (disch := omega) only [l_0, J_lt]
    rw [if_pos (by omega), show i2z (J 0) = some false from rfl]
    simp only [Option.bind_some, e3]
theorem xm_forks (W : MIv h tx len w un us kp ks ρ rn row hq sq) (I : INV w) {s : Nat} (hs' : s < 4294967296) : ∃ h', fX11_forks h 145 (J s) = some (J (frkN w s), h') ∧ MIv h' tx len (if frkN w s < 6 then frkS w s else w) (kN (decide (frkN w s < 6)) un) (kS (decide (frkN w s < 6)) un us w) kp ks ρ rn row hq sq ∧ On PM0 h h' := by
  obtain ⟨f1, f2, f3⟩ := frkN_ok (s := s) I.rg
  obtain ⟨g1, e1, W1, -, O1⟩ := mi_t0 W
  have O1' : On PM0 h g1 := O1.mono (fun k hk => by show 145 ≤ k ∧ k < 166; omega)
  unfold fX11_forks
  simp only [y_h W.1, if_true, e1, y_0 W1.1, Option.bind_some, m_refK W1.2.2.1 I.rg I.gr hs']
  by_cases hk : frkOk w s
  · have hk6 := f1.mp hk
    obtain ⟨k1, k2, k3⟩ := hk
    have en0 : (if hs w s = true then (if frS w < 6 then (if ¬ pgr w (w 0 s) = 0 ∧ ¬ frO w < 24 then 4294967290 else 0) else 4294967294) else 4294967295) = 0 := by
      rw [if_pos k1, if_pos k2, if_neg (fun z => k3.elim z.1 z.2)]
    rw [en0]
    simp only [if_pos hk6, decide_eq_true hk6]
    obtain ⟨g2, e2, W2, O2⟩ := mi_rem W1
    obtain ⟨g3, e3, R3, O3⟩ := m_fork W2.2.2.1 I ⟨k1, k2, k3⟩
    have O3' : On (fun k => k = 146) g2 g3 := O3.on1 rfl
    refine ⟨g3, ?_, W2.pw O3' R3, (O1'.trans (O2.mono (fun k hk => by show 145 ≤ k ∧ k < 166; omega))).trans (O3'.mono (fun k hk => by show 145 ≤ k ∧ k < 166; omega))⟩
    rw [if_pos (show (0 : Int32) ≤ J 0 by decide)]
    simp only [e2, y_0 W2.1, Option.bind_some, e3]
    rw [f3 ⟨k1, k2, k3⟩]
  · have hk6 : ¬ frkN w s < 6 := fun z => hk (f1.mpr z)
    have fb := f2 hk
    have en : (if hs w s = true then (if frS w < 6 then (if ¬ pgr w (w 0 s) = 0 ∧ ¬ frO w < 24 then 4294967290 else 0) else 4294967294) else 4294967295) = frkN w s := by
      unfold frkN
      by_cases h0 : hs w s = true
      · rw [if_pos h0, if_pos h0]
        by_cases h1 : frS w < 6
        · rw [if_pos h1, if_pos h1]
          by_cases h2 : ¬ pgr w (w 0 s) = 0 ∧ ¬ frO w < 24
          · rw [if_pos h2, if_pos h2]
          · exfalso
            refine hk ⟨h0, h1, ?_⟩
            by_cases y : pgr w (w 0 s) = 0
            · exact Or.inl y
            · exact Or.inr (Classical.byContradiction fun x => h2 ⟨y, x⟩)
        · rw [if_neg h1, if_neg h1]
      · rw [if_neg h0, if_neg h0]
    rw [en]
    simp only [if_neg hk6, decide_eq_false hk6]
    simp (disch := omega) only [l_0, J_le]
    rw [if_neg (by omega)]
    exact ⟨g1, rfl, W1, O1'⟩
/-! 13 -/
theorem rel_le : ∀ k (σ : ST) a, (relS k σ a).1 ≤ k
  | 0, _, _ => Nat.le_refl _
  | k + 1, σ, a => by
    unfold relS
    split
    · have := rel_le k (remS σ a 24) (σ 4 a)
      show (relS k _ _).1 + 1 ≤ k + 1
      omega
    · exact Nat.zero_le _
theorem end_le (σ : ST) (s : Nat) : (endS σ s).1 ≤ 24 := rel_le 24 _ _
def edN (w : ST) (s : Nat) : Nat := if hs w s = true then (endS w s).1 else 4294967295
def edS (w : ST) (s : Nat) : ST := if hs w s = true then (endS w s).2 else w
theorem xc_ends (W : CIk h mk tx len w un us kp ks C row hq sq) (I : INV w) {s : Nat} (hs' : s < 4294967296) : ∃ h' mk', fX10_ends h 0 (J s) = some (J (edN w s), h') ∧ CIk h' mk' tx len (edS w s) (kN (hs w s) un) (kS (hs w s) un us w) kp ks C row hq sq ∧ On PC0 h h' := by
  obtain ⟨g1, e1, W1, R1, O1⟩ := ci_mark W
  unfold fX10_ends fX10_ends_J30
  simp only [x_h W.1, if_true, x_4 W.1, x_2 W.1, x_2 W1.1, Option.bind_some, e1]
  by_cases h0 : hs w s = true
  · obtain ⟨c, b, K1⟩ := W1.2.2.1.wk
    obtain ⟨g2, e2, K2, O2⟩ := c_end K1 I.rg h0
    have O2' : On (fun k => 2 ≤ k ∧ k < 11) g1 g2 := O2.on (fun k h1 h2 => ⟨h1, h2⟩)
    have W2 := W1.pw O2' K2.wr
    have R2 := wr_mark R1 W1.mk9 O2' (fun k h1 h2 => by omega)
    obtain ⟨g3, mk3, e3, W3, O3⟩ := ci_keepIf W2 true (fun _ => R2)
    have el := end_le w s
    unfold edN edS
    rw [h0, if_pos rfl, if_pos rfl]
    refine ⟨g3, mk3, ?_, W3, (O1.trans (O2'.mono (fun k hk => by show k < 145; omega))).trans O3⟩
    simp (disch := omega) only [e2, Option.bind_some, l_0, J_lt]
    rw [if_neg (by omega), i2z_1]
    simp only [Option.bind_some, e3]
  · obtain ⟨g3, mk3, e3, W3, O3⟩ := ci_keepIf (σ := w) W1 false (fun z => by cases z)
    have h0' : hs w s = false := by simpa using h0
    unfold edN edS
    rw [h0', if_neg (by decide), if_neg (by decide)]
    refine ⟨g3, mk3, ?_, W3, O1.trans O3⟩
    simp (disch := omega) only [c_end_no W1.2.2.1 I.rg hs' h0, Option.bind_some]
    rw [if_pos (by decide), i2z_0]
    simp only [Option.bind_some, e3]
    rfl
theorem xm_ends (W : MIv h tx len w un us kp ks ρ rn row hq sq) (I : INV w) {s : Nat} (hs' : s < 4294967296) : ∃ h', fX11_ends h 145 (J s) = some (J (edN w s), h') ∧ MIv h' tx len (edS w s) (kN (hs w s) un) (kS (hs w s) un us w) kp ks ρ rn row hq sq ∧ On PM0 h h' := by
  obtain ⟨g1, e1, W1, -, O1⟩ := mi_t0 W
  have O1' : On PM0 h g1 := O1.mono (fun k hk => by show 145 ≤ k ∧ k < 166; omega)
  unfold fX11_ends
  simp only [y_h W.1, if_true, e1, y_0 W1.1, Option.bind_some, m_hs W1.2.2.1 I.rg hs']
  unfold edN edS
  by_cases h0 : hs w s = true
  · obtain ⟨g2, e2, W2, O2⟩ := mi_rem W1
    obtain ⟨g3, e3, R3, O3⟩ := m_end W2.2.2.1 I (hs_lt h0).1
    have O3' : On (fun k => k = 146) g2 g3 := O3.on1 rfl
    rw [h0, if_pos rfl, if_pos rfl, if_pos rfl]
    refine ⟨g3, ?_, W2.pw O3' R3, (O1'.trans (O2.mono (fun k hk => by show 145 ≤ k ∧ k < 166; omega))).trans (O3'.mono (fun k hk => by show 145 ≤ k ∧ k < 166; omega))⟩
    simp only [e2, y_0 W2.1, Option.bind_some, e3]
  · have h0' : hs w s = false := by simpa using h0
    rw [h0', if_neg (by decide), if_neg (by decide), if_neg (by decide), m1_J]
    exact ⟨g1, rfl, W1, O1'⟩
/-! 14 -/
theorem arrN_ok {o p v : Nat} (R : RG w) : (arrOk w o p v ↔ arrN w o p v < 64) ∧ (¬ arrOk w o p v → 4294967290 ≤ arrN w o p v ∧ arrN w o p v < 4294967296) := by
  unfold arrOk arrN
  have b1 : bc (bclr (w 7 o) p) ≤ 24 := bc_le _
  by_cases h0 : ho w o = true ∧ p < 8 ∧ v < 100
  · rw [if_pos h0]
    by_cases h1 : (w 7 o).testBit p = true
    · rw [if_pos h1]
      by_cases h2 : tot w 8 < 64
      · rw [if_pos h2]
        exact ⟨⟨fun _ => by omega, fun _ => ⟨h0, h1, h2⟩⟩, fun z => absurd ⟨h0, h1, h2⟩ z⟩
      · rw [if_neg h2]
        exact ⟨⟨fun z => absurd z.2.2 h2, fun z => by omega⟩, fun _ => by omega⟩
    · rw [if_neg h1]
      exact ⟨⟨fun z => absurd z.2.1 h1, fun z => by omega⟩, fun _ => by omega⟩
  · rw [if_neg h0]
    exact ⟨⟨fun z => absurd z.1 h0, fun z => by omega⟩, fun _ => by omega⟩
theorem xc_arrives (W : CIk h mk tx len w un us kp ks C row hq sq) (I : INV w) {o p v : Nat} (ho' : o < 4294967296) (hp' : p < 4294967296) (hv' : v < 4294967296) : ∃ h' mk', fX10_arrives h 0 (J o) (J p) (J v) = some (J (arrN w o p v), h') ∧ CIk h' mk' tx len (if arrN w o p v < 64 then arrS w o p v else w) (kN (decide (arrN w o p v < 64)) un) (kS (decide (arrN w o p v < 64)) un us w) kp ks C row hq sq ∧ On PC0 h h' := by
  obtain ⟨f1, f2⟩ := arrN_ok (o := o) (p := p) (v := v) I.rg
  obtain ⟨g1, e1, W1, R1, O1⟩ := ci_mark W
  obtain ⟨c, b, K1⟩ := W1.2.2.1.wk
  obtain ⟨g2, τ, e2, K2, O2, H2⟩ := c_arrive K1 I.rg ho' hp' hv'
  have O2' : On (fun k => 2 ≤ k ∧ k < 11) g1 g2 := O2.on (fun k h1 h2 => ⟨h1, h2⟩)
  have hτ : τ = if arrN w o p v < 64 then arrS w o p v else w := by
    rcases H2 with ⟨k1, k2⟩ | ⟨k1, k2, k3⟩
    · rw [if_pos (f1.mp k1)]; exact k2
    · rw [if_neg (fun z => k1 (f1.mpr z))]; exact k2
  have W2 := W1.pw O2' K2.wr
  rw [hτ] at W2
  have R2 := wr_mark R1 W1.mk9 O2' (fun k h1 h2 => by omega)
  obtain ⟨g3, mk3, e3, W3, O3⟩ := ci_keepIf W2 (decide (arrN w o p v < 64)) (fun _ => R2)
  refine ⟨g3, mk3, ?_, W3, (O1.trans (O2'.mono (fun k hk => by show k < 145; omega))).trans O3⟩
  unfold fX10_arrives fX10_arrives_J34
  simp only [x_h W.1, if_true, x_4 W.1, x_2 W.1, x_2 W1.1, Option.bind_some, e1, e2]
  by_cases hk : arrN w o p v < 64
  · rw [decide_eq_true hk] at e3
    simp (disch := omega) only [l_0, J_lt]
    rw [if_neg (by omega), i2z_1]
    simp only [Option.bind_some, e3]
  · have := f2 (fun z => hk (f1.mp z))
    rw [decide_eq_false hk] at e3
    simp (disch := omega) only [l_0, J_lt]
    rw [if_pos (by omega), show i2z (J 0) = some false from rfl]
    simp only [Option.bind_some, e3]
theorem y_isObject (W : MIv h tx len w un us kp ks ρ rn row hq sq) (R : RG w) {o : Nat} (ho' : o < 4294967296) : fX11_isObject h 145 (J o) = some (ho w o) := by
  unfold fX11_isObject ho
  simp (disch := omega) only [y_h W.1, if_true, l_0, l_23, m_in, Option.bind_some]
  by_cases h1 : o < 24
  · rw [decide_eq_true (show 0 ≤ o by omega), decide_eq_true (show o ≤ 23 by omega), decide_eq_true h1]
    simp only [Bool.and_self, if_true, y_0 W.1, Option.bind_some, m_there W.2.2.1 R h1, Bool.true_and]
    cases decide (w 2 o < 4) <;> rfl
  · rw [decide_eq_false (show ¬ o ≤ 23 by omega), decide_eq_false h1, Bool.and_false, if_neg (by decide)]
    rfl
theorem xm_arrives (W : MIv h tx len w un us kp ks ρ rn row hq sq) (I : INV w) {o p v : Nat} (ho' : o < 4294967296) (hp' : p < 4294967296) (hv' : v < 4294967296) : ∃ h', fX11_arrives h 145 (J o) (J p) (J v) = some (J (arrN w o p v), h') ∧ MIv h' tx len (if arrN w o p v < 64 then arrS w o p v else w) (kN (decide (arrN w o p v < 64)) un) (kS (decide (arrN w o p v < 64)) un us w) kp ks ρ rn row hq sq ∧ On PM0 h h' := by
  obtain ⟨f1, f2⟩ := arrN_ok (o := o) (p := p) (v := v) I.rg
  have R := I.rg
  have tt := I.frm
  obtain ⟨g1, e1, W1, -, O1⟩ := mi_t0 W
  have O1' : On PM0 h g1 := O1.mono (fun k hk => by show 145 ≤ k ∧ k < 166; omega)
  have ref : fX11_refusesArrival g1 145 (J o) (J p) (J v) = some (J (if arrN w o p v < 64 then 0 else arrN w o p v)) := by
    unfold fX11_refusesArrival arrN
    have b1 : bc (bclr (w 7 o) p) ≤ 24 := bc_le _
    simp (disch := omega) only [y_h W1.1, if_true, y_isObject W1 R ho', m_isPage, m_in, l_0, l_99, Option.bind_some, decide_eq_true_eq, Bool.and_eq_true]
    by_cases h0 : ho w o = true
    · obtain ⟨o1, o2⟩ := ho_lt h0
      have r1 := R.2.2.1 o o1
      rw [if_pos h0]
      by_cases h1 : p < 8
      · rw [if_pos h1]
        by_cases h2 : v < 100
        · rw [if_pos (by omega)]
          simp (disch := omega) only [y_0 W1.1, l_288, J_add, ra_aw W1.2.2.1, Option.bind_some, m_has]
          simp only [if_pos (show ho w o = true ∧ p < 8 ∧ v < 100 from ⟨h0, h1, h2⟩)]
          by_cases h3 : (w 7 o).testBit p = true
          · simp only [if_pos h3]
            simp (disch := omega) only [m_frames W1.2.2.1 R, Option.bind_some, l_64, J_inj]
            by_cases h4 : tot w 8 = 64
            · rw [if_pos h4]
              simp only [if_neg (show ¬ tot w 8 < 64 by omega)]
              rw [if_neg (by decide), neg_l5]
            · rw [if_neg h4]
              simp only [if_pos (show tot w 8 < 64 by omega)]
              rw [if_pos (by omega)]
          · simp only [if_neg h3]
            rw [if_neg (by decide), neg_l2]
        · rw [if_neg (by omega)]
          simp only [if_neg (show ¬ (ho w o = true ∧ p < 8 ∧ v < 100) from fun z => h2 z.2.2)]
          rw [if_neg (by decide), m1_J]
      · rw [if_neg h1]
        simp only [if_neg (show ¬ (ho w o = true ∧ p < 8 ∧ v < 100) from fun z => h1 z.2.1)]
        rw [if_neg (by decide), m1_J]
    · rw [if_neg h0]
      simp only [if_neg (show ¬ (ho w o = true ∧ p < 8 ∧ v < 100) from fun z => h0 z.1)]
      rw [if_neg (by decide), m1_J]
  unfold fX11_arrives
  simp only [y_h W.1, if_true, e1, ref, Option.bind_some]
  by_cases hk : arrN w o p v < 64
  · simp only [if_pos hk, decide_eq_true hk]
    have ok := f1.mpr hk
    obtain ⟨⟨h0, h1, h2⟩, h3, h4⟩ := ok
    obtain ⟨o1, o2⟩ := ho_lt h0
    have r1 := R.2.2.1 o o1
    obtain ⟨g2, e2, W2, O2⟩ := mi_rem W1
    obtain ⟨g3, e3, R3, O3⟩ := rw_pg W2.2.2.1 o1 h1 v
    have O3' : On (fun k => k = 146) g2 g3 := O3.on1 rfl
    have M3 := W2.1.on O3' (by decide)
    have a7 : holdS w o p v 7 o = w 7 o := hold_f (by decide) (by decide)
    obtain ⟨g4, e4, R4, O4⟩ := rw_aw R3 o1 (bclr (w 7 o) p)
    have O4' : On (fun k => k = 146) g3 g4 := O4.on1 rfl
    have M4 := M3.on O4' (by decide)
    have R5 : RA g4 146 (arrS w o p v) := R4.cg (by
      unfold arrS holdS
      refine ⟨?_, ⟨?_, ?_⟩, ?_, ?_, ?_, ?_, ?_, ?_, ?_⟩ <;> (try intro k) <;> simp [put])
    have x3 : aI g3 0 146 (J (288 + o)) = some (J (w 7 o)) := by rw [ra_aw R3 o1, a7]
    have x4 : aI g4 0 146 (J (288 + o)) = some (J (bclr (w 7 o) p)) := by rw [ra_aw R4 o1, put_eq]
    have bl := bclr_lt (n := 8) (p := p) r1.2.2.2.2.1
    refine ⟨g4, ?_, W2.pw (O3'.trans O4') R5, (O1'.trans (O2.mono (fun k hk => by show 145 ≤ k ∧ k < 166; omega))).trans ((O3'.trans O4').mono (fun k hk => by show 145 ≤ k ∧ k < 166; omega))⟩
    rw [if_pos (show (0 : Int32) ≤ J 0 by decide)]
    unfold fX11_goArrive
    simp (disch := omega) only [y_0 W1.1, e2, Option.bind_some, y_h W2.1, if_true, y_0 W2.1, l_8, J_mul, J_add, e3, y_0 M3, l_288, x3, J_bclr, e4, y_0 M4, x4, bc_J]
    unfold arrN
    rw [if_pos ⟨h0, h1, h2⟩, if_pos h3, if_pos h4]
  · have := f2 (fun z => hk (f1.mp z))
    simp only [if_neg hk, decide_eq_false hk]
    simp (disch := omega) only [l_0, J_le]
    rw [if_neg (by omega)]
    exact ⟨g1, rfl, W1, O1'⟩
end CA
