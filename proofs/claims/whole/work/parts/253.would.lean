/-! what tidying would do, what ends would free -/
def wdR (w : ST) (s : Nat) (row : List Int64) : List Int64 := if hs w s = true then tiR w s ++ [Int32.toInt64 (J (tot (tidS w s).1 8))] else row
def frE (w : ST) (B : Nat) : Nat → ST
  | 0 => w
  | k + 1 => if B.testBit k = true then (endS (frE w B k) k).2 else frE w B k
section FE
variable {σ : ST}
theorem rem_0k {a x k : Nat} : remS σ a x 0 k = σ 0 k := by simp [remS, put, pasS]
theorem rel_0k : ∀ n {σ : ST} {a k : Nat}, (relS n σ a).2 0 k = σ 0 k
  | 0, _, _, _ => rfl
  | n + 1, σ, a, k => by
    unfold relS
    split
    · exact (rel_0k n).trans rem_0k
    · rfl
theorem end_0 {s k : Nat} (hk : k ≠ s) : (endS σ s).2 0 k = σ 0 k := by
  unfold endS
  rw [rel_0k]
  simp [put, hk]
theorem hs_end {s k : Nat} (hk : k ≠ s) : hs (endS σ s).2 k = hs σ k := by
  unfold hs
  rw [end_0 hk]
theorem frE_hs {w : ST} {B : Nat} : ∀ k j, k ≤ j → hs (frE w B k) j = hs w j
  | 0, _, _ => rfl
  | k + 1, j, h => by
    have ih := frE_hs (w := w) (B := B) k j (by omega)
    unfold frE
    split
    · rw [hs_end (by omega), ih]
    · exact ih
theorem frE_inv {w : ST} {B : Nat} (I : INV w) : ∀ k, k ≤ 6 → INV (frE w B k)
  | 0, _ => I
  | k + 1, h => by
    have ih := frE_inv (B := B) I k (by omega)
    unfold frE
    split
    · exact inv_end ih (by omega)
    · exact ih
theorem sab_tb {w : ST} {o k : Nat} (h : (sab w o).testBit k = true) : hs w k = true := by
  unfold sab at h
  rw [bts_tb] at h
  simp only [Bool.and_eq_true, decide_eq_true_eq] at h
  exact h.2.1
end FE
def fsA (w : ST) (o : Nat) : Nat := if ho w o = true then bc (sab w o) else 4294967295
def fsR (w : ST) (o : Nat) (row : List Int64) : List Int64 := if ho w o = true then [Int32.toInt64 (J (tot (frE w (sab w o) 6) 8))] else row
section TT
variable {h g : AH} {mk : Nat} {tx : Nat → Nat} {len : Nat} {w : ST} {un : Nat} {us : Nat → ST} {kp : Nat → Bool} {ks : Nat → ST} {C : List Nat} {ρ : Nat → Nat} {rn : Nat} {row : List Int64} {hq : List (Nat × Nat)} {sq : List (Nat × Nat × Bool)}
theorem On.t11 {h g : AH} (O : Ot 11 (11 + 9) h g) : On (fun k => 11 ≤ k ∧ k < 20) h g := O.on (fun k h1 h2 => ⟨h1, h2⟩)
theorem xc_would (W : CIk h mk tx len w un us kp ks C row hq sq) (I : INV w) {s : Nat} (hs' : s < 4294967296) : ∃ h' mk', fX10_would h 0 (J s) = some (J (tiN w s), h') ∧ CIk h' mk' tx len w un us kp ks C (wdR w s row) hq sq ∧ On PC0 h h' := by
  obtain ⟨g1, e1, W1, R1, O1⟩ := ci_try W
  unfold fX10_would wdR tiN
  simp only [x_h W.1, if_true, x_3 W.1, x_2 W.1, Option.bind_some, e1, x_3 W1.1]
  by_cases h0 : hs w s = true
  · obtain ⟨c, b, K1⟩ := R1.wk
    obtain ⟨g2, e2, K2, O2⟩ := c_tidy K1 I.rg h0
    have O2' := On.t11 O2
    have W2 := W1.p11 O2' K2.wr.c1
    obtain ⟨g3, e3, W3, O3⟩ := c_tellTid W2 K2 (inv_tid I h0).rg (Or.inr rfl) hs'
    have K3 := K2.on O3 (fun k h1 h2 => by omega)
    obtain ⟨g4, e4, W4, O4⟩ := ci_add W3 (by simp) (Int32.toInt64 (J (tot (tidS w s).1 8)))
    have tl := tid_le w s
    simp only [if_pos h0]
    refine ⟨g4, mk, ?_, W4, (((lon O1 (fun k hk => by omega)).trans (lon O2' (fun k hk => by omega))).trans (lon O3 (fun k hk => by omega))).trans (lon O4 (fun k hk => by omega))⟩
    simp (disch := omega) only [e2, Option.bind_some, l_0, J_lt]
    rw [if_neg (by omega)]
    simp (disch := omega) only [x_3 W2.1, e3, x_8 W3.1, x_3 W3.1, c_frameTotal K3.wr (inv_tid I h0).rg, e4, Option.bind_some]
  · simp only [if_neg h0]
    refine ⟨g1, mk, ?_, W1, lon O1 (fun k hk => by omega)⟩
    simp only [c_tidy_no R1 I.rg hs' h0, Option.bind_some]
    rw [if_pos (by decide)]
    rfl
theorem xm_would (W : MIv h tx len w un us kp ks ρ rn row hq sq) (I : INV w) {s : Nat} (hs' : s < 4294967296) : ∃ h', fX11_would h 145 (J s) = some (J (tiN w s), h') ∧ MIv h' tx len w un us kp ks ρ rn (wdR w s row) hq sq ∧ On PM0 h h' := by
  obtain ⟨g0, e0, W0, -, O0⟩ := mi_t0 W
  have O0' : On PM0 h g0 := mon O0 (fun k hk => by omega)
  unfold fX11_would wdR tiN
  simp only [y_h W.1, if_true, e0, y_0 W0.1, Option.bind_some, m_hs W0.2.2.1 I.rg hs']
  by_cases h0 : hs w s = true
  · obtain ⟨s1, s2⟩ := hs_lt h0
    have I3 := inv_tid I h0
    obtain ⟨g1, e1, W1, R1, O1⟩ := mi_try W0
    obtain ⟨g3, e3, W3, R3, a21, a22, O3⟩ := mi_tidT W1 R1 I h0
    obtain ⟨g4, e4, W4, q4, O4⟩ := mi_clr2 W3
    have R4 := R3.on O4 (by decide)
    obtain ⟨g5, e5, W5, q5, O5⟩ := mi_tell2 W4 (by simp) (Int32.toInt64 (J (tidS w s).2.1))
    have R5 := R4.on O5 (by decide)
    obtain ⟨g6, e6, W6, q6, O6⟩ := mi_tell2 W5 (by simp) (Int32.toInt64 (J (tidS w s).2.2))
    have R6 := R5.on O6 (by decide)
    obtain ⟨g7, e7, W7, q7, O7⟩ := mi_tell2 W6 (by simp) (Int32.toInt64 (J (dep (tidS w s).1 24 (tp (tidS w s).1 s))))
    have R7 := R6.on O7 (by decide)
    obtain ⟨g8, e8, W8, q8, O8⟩ := mi_tell2 W7 (by simp) (Int32.toInt64 (J (tot (tidS w s).1 8)))
    have b4 := (q4 21 (by decide)).trans a21
    have b5 := (q5 22 (by decide)).trans ((q4 22 (by decide)).trans a22)
    have c8 := (q8 21 (by decide)).trans ((q7 21 (by decide)).trans ((q6 21 (by decide)).trans ((q5 21 (by decide)).trans b4)))
    have d8 := (q8 22 (by decide)).trans ((q7 22 (by decide)).trans ((q6 22 (by decide)).trans b5))
    simp only [if_pos h0]
    refine ⟨g8, ?_, W8, (((((((O0'.trans (mon O1 (fun k hk => by omega))).trans (mon O3 (fun k hk => by omega))).trans (mon O4 (fun k hk => by omega))).trans (mon O5 (fun k hk => by omega))).trans (mon O6 (fun k hk => by omega))).trans (mon O7 (fun k hk => by omega))).trans (mon O8 (fun k hk => by omega)))⟩
    rw [y_20 W0.1, Option.bind_some, e1, Option.bind_some, y_20 W1.1, Option.bind_some, e3, Option.bind_some, e4, Option.bind_some, b4, Option.bind_some, e5, Option.bind_some, b5, Option.bind_some, e6, Option.bind_some, y_20 W6.1, Option.bind_some, m_len R6 I3.rg I3.gr s1, Option.bind_some, e7, Option.bind_some, y_20 W7.1, Option.bind_some, m_frames R7 I3.rg, Option.bind_some, e8, Option.bind_some, c8, Option.bind_some, d8, Option.bind_some, J_add]
  · simp only [if_neg h0]
    rw [m1_J]
    exact ⟨g0, rfl, W0, O0'⟩
theorem c_freeL {o : Nat} (I : INV w) (K : AH → Nat → Int32 → Option (Int32 × AH)) : ∀ m n k h, CIk h mk tx len w un us kp ks C row hq sq → WR h 11 (frE w (sab w o) k) → k + m = 6 → m < n → ∃ h', fX10_frees_L35 K n h 0 (J (sab w o)) (J k) = K h' 0 (J (sab w o)) ∧ CIk h' mk tx len w un us kp ks C row hq sq ∧ WR h' 11 (frE w (sab w o) 6) ∧ On PC0 h h'
  | 0, n + 1, k, h, W, R1, e, _ => by
    have : k = 6 := by omega
    subst this
    refine ⟨h, ?_, W, R1, On.rf⟩
    rw [fX10_frees_L35]
    simp (disch := omega) only [l_6, J_le]
    rw [if_pos (by omega)]
  | m + 1, n + 1, k, h, W, R1, e, hn => by
    have sl := sab_lt w o
    have e1 : J k + 1 = J (k + 1) := by rw [l_1, J_add]
    have Ik := frE_inv (B := sab w o) I k (by omega)
    rw [fX10_frees_L35]
    simp (disch := omega) only [l_6, J_le, c_isIn, Option.bind_some, letF, e1, x_3 W.1]
    rw [if_neg (by omega)]
    by_cases z : (sab w o).testBit k = true
    · have hk := sab_tb z
      rw [← frE_hs (B := sab w o) k k (Nat.le_refl _)] at hk
      obtain ⟨c, b, K1⟩ := R1.wk
      obtain ⟨g2, e2, K2, O2⟩ := c_end K1 Ik.rg hk
      have O2' := On.t11 O2
      have es : frE w (sab w o) (k + 1) = (endS (frE w (sab w o) k) k).2 := by
        conv => lhs; unfold frE
        rw [if_pos z]
      obtain ⟨g3, e3, W3, R3, O3⟩ := c_freeL I K m n (k + 1) g2 (W.p11 O2' K2.wr.c1) (by rw [es]; exact K2.wr) (by omega) (by omega)
      refine ⟨g3, ?_, W3, R3, (lon O2' (fun k hk => by omega)).trans O3⟩
      rw [if_pos z]
      simp only [e2, Option.bind_some]
      exact e3
    · have es : frE w (sab w o) (k + 1) = frE w (sab w o) k := by
        conv => lhs; unfold frE
        rw [if_neg z]
      obtain ⟨g3, e3, W3, R3, O3⟩ := c_freeL I K m n (k + 1) h W (by rw [es]; exact R1) (by omega) (by omega)
      refine ⟨g3, ?_, W3, R3, O3⟩
      rw [if_neg z]
      exact e3
theorem xc_frees (W : CIk h mk tx len w un us kp ks C row hq sq) (I : INV w) {o : Nat} (ho' : o < 4294967296) : ∃ h' mk', fX10_frees h 0 (J o) = some (J (fsA w o), h') ∧ CIk h' mk' tx len w un us kp ks C (fsR w o row) hq sq ∧ On PC0 h h' := by
  have sl := sab_lt w o
  unfold fX10_frees fsA fsR
  simp (disch := omega) only [x_h W.1, if_true, x_2 W.1, x_3 W.1, Option.bind_some, c_ho W.2.2.1 I.rg, c_sab W.2.2.1 I.rg]
  by_cases h0 : ho w o = true
  · simp only [if_pos h0]
    obtain ⟨g1, e1, W1, R1, O1⟩ := ci_try W
    rw [e1, Option.bind_some, l_0]
    obtain ⟨g2, e2, W2, R2, O2⟩ := c_freeL (o := o) I (fun h15 x13 x14 =>
          (gR h15 10 x13 8).bind fun x16 =>
          (fX5_clear h15 x16).bind fun q17 =>
          (gR q17 10 x13 8).bind fun x18 =>
          (gR q17 10 x13 3).bind fun x19 =>
          (fX9_frameTotal q17 x19).bind fun q20 =>
          (fX5_add q17 x18 (Int32.toInt64 q20)).bind fun q21 =>
          (fJ6_bitCount_0f7a4 q21 x14).bind fun q22 =>
          some ((q22, q21))) 6 FU 0 g1 W1 R1 rfl (FU_gt (by decide))
    have I6 := frE_inv (B := sab w o) I 6 (by omega)
    obtain ⟨g3, e3, W3, O3⟩ := ci_clr W2
    have R3 := R2.on O3 (fun k h1 h2 => by omega)
    obtain ⟨g4, e4, W4, O4⟩ := ci_add W3 (by simp) (Int32.toInt64 (J (tot (frE w (sab w o) 6) 8)))
    refine ⟨g4, mk, ?_, W4, (((lon O1 (fun k hk => by omega)).trans O2).trans (lon O3 (fun k hk => by omega))).trans (lon O4 (fun k hk => by omega))⟩
    rw [e2]
    have b1 : fJ6_bitCount_0f7a4 g4 (J (sab w o)) = some (J (bc (sab w o))) := bc_J (show sab w o < 16777216 by omega)
    simp only [x_8 W2.1, Option.bind_some, e3, x_8 W3.1, x_3 W3.1, c_frameTotal R3 I6.rg, e4, b1]
  · simp only [if_neg h0]
    rw [m1_J]
    exact ⟨h, mk, rfl, W, On.rf⟩
theorem y_freeL {o : Nat} (I : INV w) (K : AH → Nat → Int32 → Option (Int32 × AH)) : ∀ m n k h, MIv h tx len w un us kp ks ρ rn row hq sq → RA h 155 (frE w (sab w o) k) → k + m = 6 → m < n → ∃ h', fX11_frees_L35 K n h 145 (J (sab w o)) (J k) = K h' 145 (J (sab w o)) ∧ MIv h' tx len w un us kp ks ρ rn row hq sq ∧ RA h' 155 (frE w (sab w o) 6) ∧ On PM0 h h'
  | 0, n + 1, k, h, W, R1, e, _ => by
    have : k = 6 := by omega
    subst this
    refine ⟨h, ?_, W, R1, On.rf⟩
    rw [fX11_frees_L35]
    simp (disch := omega) only [l_6, J_le]
    rw [if_pos (by omega)]
  | m + 1, n + 1, k, h, W, R1, e, hn => by
    have sl := sab_lt w o
    have e1 : J k + 1 = J (k + 1) := by rw [l_1, J_add]
    have Ik := frE_inv (B := sab w o) I k (by omega)
    rw [fX11_frees_L35]
    simp (disch := omega) only [l_6, J_le, m_has, Option.bind_some, letF, e1, y_20 W.1]
    rw [if_neg (by omega)]
    by_cases z : (sab w o).testBit k = true
    · obtain ⟨g2, e2, R2, O2⟩ := m_end R1 Ik (show k < 6 by omega)
      have O2' : On (fun k => k = 155) h g2 := O2.on1 rfl
      have es : frE w (sab w o) (k + 1) = (endS (frE w (sab w o) k) k).2 := by
        conv => lhs; unfold frE
        rw [if_pos z]
      obtain ⟨g3, e3, W3, R3, O3⟩ := y_freeL I K m n (k + 1) g2 (W.p155 O2' R2.cel) (by rw [es]; exact R2) (by omega) (by omega)
      refine ⟨g3, ?_, W3, R3, (mon O2' (fun k hk => by omega)).trans O3⟩
      rw [if_pos z]
      simp only [e2, Option.bind_some]
      exact e3
    · have es : frE w (sab w o) (k + 1) = frE w (sab w o) k := by
        conv => lhs; unfold frE
        rw [if_neg z]
      obtain ⟨g3, e3, W3, R3, O3⟩ := y_freeL I K m n (k + 1) h W (by rw [es]; exact R1) (by omega) (by omega)
      refine ⟨g3, ?_, W3, R3, O3⟩
      rw [if_neg z]
      exact e3
theorem xm_frees (W : MIv h tx len w un us kp ks ρ rn row hq sq) (I : INV w) {o : Nat} (ho' : o < 4294967296) : ∃ h', fX11_frees h 145 (J o) = some (J (fsA w o), h') ∧ MIv h' tx len w un us kp ks ρ rn (fsR w o row) hq sq ∧ On PM0 h h' := by
  have sl := sab_lt w o
  obtain ⟨g0, e0, W0, -, O0⟩ := mi_t0 W
  have O0' : On PM0 h g0 := mon O0 (fun k hk => by omega)
  unfold fX11_frees fsA fsR
  simp only [y_h W.1, if_true, e0, Option.bind_some, y_isObject W0 I.rg ho']
  by_cases h0 : ho w o = true
  · obtain ⟨o1, o2⟩ := ho_lt h0
    simp only [if_pos h0]
    obtain ⟨g1, e1, W1, R1, O1⟩ := mi_try W0
    rw [y_sab W0 I o1, Option.bind_some, y_0 W0.1, Option.bind_some, y_20 W0.1, Option.bind_some, e1, Option.bind_some, l_0]
    obtain ⟨g2, e2, W2, R2, O2⟩ := y_freeL (o := o) I (fun h14 x12 x13 =>
          (pF h14 11 x12 4 (.int (J 0))).bind fun h15 =>
          (gR h15 11 x12 20).bind fun x16 =>
          (fX11_framesOf h15 x16).bind fun q17 =>
          (fX11_tell h15 x12 (Int32.toInt64 q17)).bind fun q18 =>
          (fJ6_bitCount_0f7a4 q18 x13).bind fun q19 =>
          some ((q19, q18))) 6 FU 0 g1 W1 R1 rfl (FU_gt (by decide))
    have I6 := frE_inv (B := sab w o) I 6 (by omega)
    obtain ⟨g3, e3, W3, O3⟩ := mi_clr W2
    have R3 := R2.on O3 (by decide)
    obtain ⟨g4, e4, W4, O4⟩ := mi_tell W3 (by simp) (Int32.toInt64 (J (tot (frE w (sab w o) 6) 8)))
    refine ⟨g4, ?_, W4, (((O0'.trans (mon O1 (fun k hk => by omega))).trans O2).trans (mon O3 (fun k hk => by omega))).trans (mon O4 (fun k hk => by omega))⟩
    rw [e2]
    have b1 : fJ6_bitCount_0f7a4 g4 (J (sab w o)) = some (J (bc (sab w o))) := bc_J (show sab w o < 16777216 by omega)
    rw [← l_0, e3, Option.bind_some, y_20 W3.1, Option.bind_some, m_frames R3 I6.rg, Option.bind_some, e4, Option.bind_some, b1, Option.bind_some]
  · simp only [if_neg h0]
    rw [m1_J]
    exact ⟨g0, rfl, W0, O0'⟩
end TT
