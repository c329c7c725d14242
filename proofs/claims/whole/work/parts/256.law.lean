/-! another rule tried -/
def lwS (C : List Nat) (w : ST) : Nat → ST
  | 0 => w
  | k + 1 => (wrA C (wrA C (lwS C w k) k 0 7).2 k 1 7).2
theorem lwS_inv {C : List Nat} {w : ST} (I : INV w) : ∀ k, INV (lwS C w k)
  | 0 => I
  | k + 1 => inv_wrA C (inv_wrA C (lwS_inv I k))
theorem lwS_hs {C : List Nat} {w : ST} {t : Nat} (I : INV w) : ∀ k, hs (lwS C w k) t = hs w t
  | 0 => rfl
  | k + 1 => by
    have ih := lwS_hs (C := C) (t := t) I k
    have Ik := lwS_inv (C := C) I k
    rw [← ih]
    show hs (wrA C (wrA C (lwS C w k) k 0 7).2 k 1 7).2 t = _
    rw [hs_wrA (inv_wrA C Ik), hs_wrA Ik]
theorem wrA_out {C : List Nat} {σ : ST} {s p v : Nat} (h : ¬ hs σ s = true) : (wrA C σ s p v).2 = σ := by
  unfold wrA
  rw [if_neg (fun z => h z.2.1)]
def laA (C : List Nat) (w : ST) (tx : Nat → Nat) (len : Nat) : Int32 := if (rin tx len).1 = BIG then J (tot (lwS (rin tx len).2 w 6) 8) - J (tot (lwS C w 6) 8) else (-10000) - J (rin tx len).1
def laR (C : List Nat) (w : ST) (tx : Nat → Nat) (len : Nat) (row : List Int64) : List Int64 := if (rin tx len).1 = BIG then [Int32.toInt64 (J (tot (lwS (rin tx len).2 w 6) 8)), Int32.toInt64 (J (tot (lwS C w 6) 8)), Int32.toInt64 (J (bc (lwS (rin tx len).2 w 6 1 2))), Int32.toInt64 (J (bc (lwS C w 6 1 2)))] else row
section LW
variable {h g : AH} {mk : Nat} {tx : Nat → Nat} {len : Nat} {w : ST} {un : Nat} {us : Nat → ST} {kp : Nat → Bool} {ks : Nat → ST} {C : List Nat} {ρ : Nat → Nat} {rn : Nat} {row : List Int64} {hq : List (Nat × Nat)} {sq : List (Nat × Nat × Bool)}
theorem CIk.p11d (W : CIk h mk tx len w un us kp ks C row hq sq) (O : On (PW 11 126) h g) (R : WC1 g 11) (U : RUw g 126) : CIk g mk tx len w un us kp ks C row hq sq := by
  obtain ⟨w1, w2, w3, w4, w5, w6, w7, w8, w9, w10, w11, w12⟩ := W
  exact ⟨w1.on O (by omega), w2.on O (by omega), w3.on O (fun k h1 h2 => by omega), R, w5.on O (fun k h1 h2 => by omega), w6.on O (by omega) (by omega) (by omega), U, w8.on O (by omega) (by omega) (by omega), w9.on O (by omega) (by omega), w10.on O (fun k h1 h2 => by omega), w11.on O (fun k h1 h2 => by omega), w12.on O (by omega) (by omega)⟩
theorem ci_tryWr {C' : List Nat} {r : Nat} {τ : ST} (hr : (r = 123 ∧ C' = C) ∨ r = 126) (W : CIk h mk tx len w un us kp ks C row hq sq) (U : RU h r C') (T : WR h 11 τ) (I : INV τ) (gC : GR1 C') {s p v : Nat} (hs' : s < 4294967296) (hp' : p < 4294967296) (hv' : v < 4294967296) : ∃ g, fX9_writePage h 11 (J s) (J p) (J v) r = some (J (wrA C' τ s p v).1, g) ∧ CIk g mk tx len w un us kp ks C row hq sq ∧ WR g 11 (wrA C' τ s p v).2 ∧ RU g r C' ∧ On PC0 h g := by
  obtain ⟨c, b, K⟩ := T.wk
  obtain ⟨g, c2, b2, e, K2, U2, O⟩ := c_write K I U gC (by omega) hs' hp' hv'
  have O2 : On PC0 h g := O.mono (fun k hk => by show k < 145; omega)
  rcases hr with ⟨rfl, rfl⟩ | rfl
  · exact ⟨g, e, W.p11u O K2.wr.c1 U2, K2.wr, U2, O2⟩
  · exact ⟨g, e, W.p11d O K2.wr.c1 U2.w, K2.wr, U2, O2⟩
theorem c_tryL {C' : List Nat} {r : Nat} (hr : (r = 123 ∧ C' = C) ∨ r = 126) (I : INV w) (gC : GR1 C') : ∀ m q k h, CIk h mk tx len w un us kp ks C row hq sq → RU h r C' → WR h 11 (lwS C' w k) → k + m = 6 → m < q → ∃ h', fX10_tryRule_L13 q h 0 r (J k) = some h' ∧ CIk h' mk tx len w un us kp ks C row hq sq ∧ RU h' r C' ∧ WR h' 11 (lwS C' w 6) ∧ On PC0 h h'
  | 0, q + 1, k, h, W, U, R1, e, _ => by
    have : k = 6 := by omega
    subst this
    refine ⟨h, ?_, W, U, R1, On.rf⟩
    rw [fX10_tryRule_L13]
    simp (disch := omega) only [l_6, J_le]
    rw [if_pos (by omega)]
  | m + 1, q + 1, k, h, W, U, R1, e, hn => by
    have Ik := lwS_inv (C := C') I k
    obtain ⟨g1, e1, W1, T1, U1, O1⟩ := ci_tryWr hr W U R1 Ik gC (s := k) (p := 0) (v := 7) (by omega) (by omega) (by omega)
    obtain ⟨g2, e2, W2, T2, U2, O2⟩ := ci_tryWr hr W1 U1 T1 (inv_wrA C' Ik) gC (s := k) (p := 1) (v := 7) (by omega) (by omega) (by omega)
    obtain ⟨g3, e3, W3, U3, T3, O3⟩ := c_tryL hr I gC m q (k + 1) g2 W2 U2 T2 (by omega) (by omega)
    refine ⟨g3, ?_, W3, U3, T3, (O1.trans O2).trans O3⟩
    have ei : J k + 1 = J (k + 1) := by rw [l_1, J_add]
    have e1' : fX9_writePage h 11 (J k) 0 7 r = some (J (wrA C' (lwS C' w k) k 0 7).1, g1) := e1
    have e2' : fX9_writePage g1 11 (J k) 1 7 r = some (J (wrA C' (wrA C' (lwS C' w k) k 0 7).2 k 1 7).1, g2) := e2
    rw [fX10_tryRule_L13]
    simp (disch := omega) only [l_6, J_le]
    rw [if_neg (by omega)]
    simp only [x_3 W.1, Option.bind_some, e1', x_3 W1.1, e2', letF, ei]
    exact e3
theorem ci_tryRule {C' : List Nat} {r : Nat} (hr : (r = 123 ∧ C' = C) ∨ r = 126) (W : CIk h mk tx len w un us kp ks C row hq sq) (U : RU h r C') (I : INV w) (gC : GR1 C') : ∃ h', fX10_tryRule h 0 r = some h' ∧ CIk h' mk tx len w un us kp ks C row hq sq ∧ RU h' r C' ∧ WR h' 11 (lwS C' w 6) ∧ On PC0 h h' := by
  obtain ⟨g1, e1, W1, R1, O1⟩ := ci_try W
  have hr2 : r = 123 ∨ r = 126 := hr.elim (fun z => Or.inl z.1) Or.inr
  have U1 := U.on O1 (by omega) (by omega) (by omega)
  obtain ⟨g2, e2, W2, U2, R2, O2⟩ := c_tryL hr I gC 6 FU 0 g1 W1 U1 R1 rfl (FU_gt (by decide))
  refine ⟨g2, ?_, W2, U2, R2, (lon O1 (fun k hk => by omega)).trans O2⟩
  unfold fX10_tryRule
  simp only [x_h W.1, if_true, x_3 W.1, x_2 W.1, Option.bind_some, e1]
  exact e2
theorem xc_law (W : CIk h mk tx len w un us kp ks C row hq sq) (I : INV w) (gC : GR1 C) : ∃ h' mk', fX10_law h 0 = some (laA C w tx len, h') ∧ CIk h' mk' tx 0 w un us kp ks C (laR C w tx len row) hq sq ∧ On PC0 h h' := by
  have rl := rin_l (tx := tx) (len := len)
  obtain ⟨g1, e1, W1, T1, O1⟩ := ci_take W
  obtain ⟨g2, e2, W2, V2, O2⟩ := ci_draft W1 T1
  obtain ⟨f, t1, t2, t3⟩ := W.2.1
  unfold fX10_law laA laR
  simp only [x_h W.1, if_true, x_7 W.1, x_0 W.1, Option.bind_some, e1, x_6 W1.1, e2, x_6 W2.1, m1_J]
  have hz : J (rin tx len).1 = J 4294967295 ↔ (rin tx len).1 = BIG := J_inj rl (by decide)
  by_cases z : (rin tx len).1 = BIG
  · have gD : GR1 (rin tx len).2 := rlr_good (rin_rlr (fun i hi => (t3 i hi).2) z)
    simp only [if_pos z]
    rw [if_pos (hz.mpr z)]
    obtain ⟨g3, e3, W3, U3, R3, O3⟩ := ci_tryRule (Or.inr rfl) W2 (V2 z) I gD
    obtain ⟨g4, e4, W4, U4, R4, O4⟩ := ci_tryRule (Or.inl ⟨rfl, rfl⟩) W3 W3.2.2.2.2.2.1 I gC
    have Ia := lwS_inv (C := (rin tx len).2) I 6
    have Ib := lwS_inv (C := C) I 6
    obtain ⟨g5, e5, W5, O5⟩ := ci_clr W4
    have R5 := R4.on O5 (fun k h1 h2 => by omega)
    obtain ⟨g6, e6, W6, O6⟩ := ci_add W5 (by simp) (Int32.toInt64 (J (tot (lwS (rin tx len).2 w 6) 8)))
    have R6 := R5.on O6 (fun k h1 h2 => by omega)
    obtain ⟨g7, e7, W7, O7⟩ := ci_add W6 (by simp) (Int32.toInt64 (J (tot (lwS C w 6) 8)))
    have R7 := R6.on O7 (fun k h1 h2 => by omega)
    obtain ⟨g8, e8, W8, O8⟩ := ci_add W7 (by simp) (Int32.toInt64 (J (bc (lwS (rin tx len).2 w 6 1 2))))
    have R8 := R7.on O8 (fun k h1 h2 => by omega)
    obtain ⟨g9, e9, W9, O9⟩ := ci_add W8 (by simp) (Int32.toInt64 (J (bc (lwS C w 6 1 2))))
    have R9 := R8.on O9 (fun k h1 h2 => by omega)
    refine ⟨g9, mk, ?_, W9, (((((((O1.trans O2).trans O3).trans O4).trans (lon O5 (fun k hk => by omega))).trans (lon O6 (fun k hk => by omega))).trans (lon O7 (fun k hk => by omega))).trans (lon O8 (fun k hk => by omega))).trans (lon O9 (fun k hk => by omega))⟩
    simp only [e3, Option.bind_some, x_3 W3.1, c_frameTotal R3 Ia.rg, c_objectTotal R3 Ia.rg, x_5 W3.1, e4, x_8 W4.1, e5, x_8 W5.1, e6, x_8 W6.1, x_3 W6.1, c_frameTotal R6 Ib.rg, e7, x_8 W7.1, e8, x_8 W8.1, x_3 W8.1, c_objectTotal R8 Ib.rg, e9, x_3 W9.1, c_frameTotal R9 Ib.rg]
  · simp only [if_neg z]
    rw [if_neg (fun y => z (hz.mp y))]
    exact ⟨g2, mk, rfl, W2, O1.trans O2⟩
end LW
/-! by the reference -/
section LR
variable {h : AH} {F : Nat → Value} {P n : Nat} {ρ : Nat → Nat} {C : List Nat} {w : ST}
theorem y_layL (hP : P = 150 ∨ P = 151) (L : RLR C ρ n) (I : INV w) : ∀ m q k h F, RCX h 145 F P 152 n ρ → F 20 = .ref 155 → RA h 155 (lwS C w k) → k + m = 6 → m < q → ∃ h' F', fX11_layWritten_L22 q h 145 (J (w 1 1)) (J k) = some h' ∧ RA h' 155 (lwS C w 6) ∧ RCX h' 145 F' P 152 n ρ ∧ (∀ k, ¬ WF k → F' k = F k) ∧ On (fun k => k = 145 ∨ k = 155 ∨ k = 152) h h'
  | 0, q + 1, k, h, F, X, f20, R, e, _ => by
    have : k = 6 := by omega
    subst this
    refine ⟨h, F, ?_, R, X, fun _ _ => rfl, On.rf⟩
    rw [fX11_layWritten_L22]
    simp (disch := omega) only [l_6, J_le]
    rw [if_pos (by omega)]
  | m + 1, q + 1, k, h, F, X, f20, R, e, hn => by
    have Ik := lwS_inv (C := C) I k
    have r1 := I.rg.2.1.2.1
    have ei : J k + 1 = J (k + 1) := by rw [l_1, J_add]
    have hb : (w 1 1).testBit k = hs w k := by
      rw [I.rg.2.2.2.2.1 k (by omega)]
      unfold hs
      rw [decide_eq_true (show k < 6 by omega), Bool.true_and]
    rw [fX11_layWritten_L22]
    simp (disch := omega) only [l_6, J_le, m_has, Option.bind_some, letF, ei, hb]
    rw [if_neg (by omega)]
    by_cases z : hs w k = true
    · have hk : hs (lwS C w k) k = true := by rw [lwS_hs I]; exact z
      obtain ⟨g1, F1, e1, R1, X1, f1, O1⟩ := m_tryWrite (m := 145) (A := 155) (P := P) (Q := 152) (by decide) (by omega) (by decide) (by decide) (by omega) (by omega) X L R Ik hk (show 0 < 8 by decide) (show 7 < 100 by decide)
      have hk1 : hs (wrA C (lwS C w k) k 0 7).2 k = true := by rw [hs_wrA Ik]; exact hk
      obtain ⟨g2, F2, e2, R2, X2, f2, O2⟩ := m_tryWrite (m := 145) (A := 155) (P := P) (Q := 152) (by decide) (by omega) (by decide) (by decide) (by omega) (by omega) X1 L R1 (inv_wrA C Ik) hk1 (show 1 < 8 by decide) (show 7 < 100 by decide)
      have w20 : ¬ WF 20 := by unfold WF; omega
      have q1 : F1 20 = .ref 155 := (f1 20 w20).trans f20
      have q2 : F2 20 = .ref 155 := (f2 20 w20).trans q1
      obtain ⟨g3, F3, e3, R3, X3, f3, O3⟩ := y_layL hP L I m q (k + 1) g2 F2 X2 q2 R2 (by omega) (by omega)
      refine ⟨g3, F3, ?_, R3, X3, fun j hj => (f3 j hj).trans ((f2 j hj).trans (f1 j hj)), (O1.trans O2).trans O3⟩
      have e1' : fX11_tryWrite h 145 155 (J k) 0 7 = some (decide (wrN (lwS C w k) k 0 = 0), g1) := e1
      have e2' : fX11_tryWrite g1 145 155 (J k) 1 7 = some (decide (wrN (wrA C (lwS C w k) k 0 7).2 k 1 = 0), g2) := e2
      rw [if_pos z]
      simp only [ob_r X.1 (k := 20) (by decide) f20, Option.bind_some, e1', ob_r X1.1 (k := 20) (by decide) q1, e2']
      exact e3
    · have hk : ¬ hs (lwS C w k) k = true := by rw [lwS_hs I]; exact z
      have es : lwS C w (k + 1) = lwS C w k := by
        show (wrA C (wrA C (lwS C w k) k 0 7).2 k 1 7).2 = _
        rw [wrA_out (C := C) (p := 0) (v := 7) hk, wrA_out hk]
      obtain ⟨g3, F3, e3, R3, X3, f3, O3⟩ := y_layL hP L I m q (k + 1) h F X f20 (by rw [es]; exact R) (by omega) (by omega)
      refine ⟨g3, F3, ?_, R3, X3, f3, O3⟩
      rw [if_neg z]
      exact e3
theorem y_layW (hP : P = 150 ∨ P = 151) (L : RLR C ρ n) (I : INV w) (X : RCX h 145 F P 152 n ρ) (f0 : F 0 = .ref 146) (f20 : F 20 = .ref 155) (R : RA h 146 w) (c : cel h 0 155 325) : ∃ h' F', fX11_layWritten h 145 = some h' ∧ RA h' 155 (lwS C w 6) ∧ RCX h' 145 F' P 152 n ρ ∧ (∀ k, ¬ WF k → F' k = F k) ∧ On (fun k => k = 145 ∨ k = 155 ∨ k = 152) h h' := by
  obtain ⟨a, ca, sa⟩ := R
  obtain ⟨b, cb⟩ := c
  have R : RA h 146 w := ⟨a, ca, sa⟩
  obtain ⟨g, e, c', O⟩ := m_lay (A := 146) (B := 155) (k := 0) (by decide) ca (show 0 + 325 ≤ 325 by decide) (by decide) cb
  have O' : On (fun k => k = 145 ∨ k = 155 ∨ k = 152) h g := O.on1 (Or.inr (Or.inl rfl))
  have O1 : On (fun k => k = 155) h g := O.on1 rfl
  have R1 : RA g 155 (lwS C w 0) := ⟨_, c', sa.cg fun k hk => by rw [if_pos ⟨Nat.zero_le k, by omega⟩, Nat.sub_zero]⟩
  obtain ⟨x1, x2, x3, x4, x5, x6⟩ := X
  obtain ⟨y, hy⟩ := x6
  have X1 : RCX g 145 F P 152 n ρ := ⟨x1.on O1 (by omega), x2, x3, x4, x5.on O1 (by omega), y, (O1.2 152 (by omega)).trans hy⟩
  obtain ⟨g2, F2, e2, R2, X2, f2, O2⟩ := y_layL hP L I 6 FU 0 g F X1 f20 R1 rfl (FU_gt (by decide))
  refine ⟨g2, F2, ?_, R2, X2, f2, O'.trans O2⟩
  have e' : fX11_lay h 146 155 0 = some g := e
  unfold fX11_layWritten
  simp only [ob_h x1, if_true, ob_r x1 (k := 0) (by decide) f0, ob_r x1 (k := 20) (by decide) f20, Option.bind_some, m_spaces R I.rg, e']
  exact e2
theorem y_lawL {f : Nat → Int32} {tx : Nat → Nat} {len : Nat} {x2 x3 x5 : Int32} {x4 : Nat} (T : TXT f tx len) (h40 : len ≤ 40) : ∀ m q i g a, i + m = len → m < q → OBJ 11 36 g 145 F → F 12 = .ref 151 → F 1 = .ref 147 → g.1 147 = some (.inl (3, 80, .inl f)) → g.1 151 = some (.inl (3, 40, .inl a)) → TXT a tx i → ∃ h' a', (∀ K : AH → Nat → Int32 → Int32 → Nat → Int32 → Option (Int32 × AH), fX11_law_L77 K q g 145 (J len) x2 x3 x4 x5 (J i) = K h' 145 x2 x3 x4 x5) ∧ h'.1 151 = some (.inl (3, 40, .inl a')) ∧ TXT a' tx len ∧ On (fun k => k = 151) g h'
  | 0, q + 1, i, g, a, e, _, M, f12, f1, c1, c2, Ta => by
    have : i = len := by omega
    subst this
    refine ⟨g, a, fun K => ?_, c2, Ta, On.rf⟩
    rw [fX11_law_L77]
    simp (disch := omega) only [J_le]
    rw [if_pos (by omega)]
  | m + 1, q + 1, i, g, a, e, hm, M, f12, f1, c1, c2, Ta => by
    obtain ⟨g1, a1, r1, e1, c3, T1, O1⟩ := bt_step c1 T (by omega) c2 (show i < len by omega) (by omega) Ta
    have O1' : On (fun k => k = 151) g g1 := O1.on1 rfl
    obtain ⟨g2, a2, e2, c4, T2, O2⟩ := y_lawL T h40 m q (i + 1) g1 a1 (by omega) (by omega) (M.on O1' (by decide)) f12 f1 ((O1.2 _ (by decide)).trans c1) c3 T1
    refine ⟨g2, a2, fun K => ?_, c4, T2, O1'.trans O2⟩
    rw [fX11_law_L77]
    have ei : J i + 1 = J (i + 1) := by rw [l_1, J_add]
    simp (disch := omega) only [J_le, ob_r M (k := 12) (by decide) f12, ob_r M (k := 1) (by decide) f1, Option.bind_some, r1, e1, letF, ei]
    rw [if_neg (by omega)]
    exact e2 K
end LR
section LX
variable {h g : AH} {mk : Nat} {tx : Nat → Nat} {len : Nat} {w : ST} {un : Nat} {us : Nat → ST} {kp : Nat → Bool} {ks : Nat → ST} {C : List Nat} {ρ : Nat → Nat} {rn : Nat} {row : List Int64} {hq : List (Nat × Nat)} {sq : List (Nat × Nat × Bool)}
theorem MIv.plw (W : MIv h tx len w un us kp ks ρ rn row hq sq) (O : On (fun k => k = 145 ∨ k = 151 ∨ k = 152 ∨ k = 155) h g) (M : MO g len row.length un rn hq.length sq.length) (c1 : cel g 3 151 40) (c2 : cel g 0 152 7) (c3 : cel g 0 155 325) : MIv g tx len w un us kp ks ρ rn row hq sq := by
  obtain ⟨w1, w2, w3, w4, w5, w6, w7, w8, w9, w10⟩ := W
  obtain ⟨y1, y2, y3, y4, y5, y6, y7, y8⟩ := w10
  exact ⟨M, w2.on O (by omega), w3.on O (by omega), w4.on O (by omega), w5.on O (by omega) (by omega), w6.on O (by omega), w7.on O (by omega), w8.on O (by omega) (by omega), w9.on O (by omega) (by omega) (by omega), ⟨y1.on O (by omega), c1, c2, y4.on O (by omega), c3, y6.on O (by omega), y7.on O (by omega), y8.on O (by omega)⟩⟩
theorem xm_law (W : MIv h tx len w un us kp ks ρ rn row hq sq) (I : INV w) (L : RLR C ρ rn) : ∃ h', fX11_law h 145 = some (laA C w tx len, h') ∧ MIv h' tx 0 w un us kp ks ρ rn (laR C w tx len row) hq sq ∧ On PM0 h h' := by
  obtain ⟨g0, e0, W0, -, O0⟩ := mi_t0 W
  obtain ⟨g1, e1, W1, f10, O1⟩ := mi_readRule W0
  have O01 : On PM0 h g1 := (mon O0 (fun k hk => by omega)).trans (mon O1 (fun k hk => by omega))
  obtain ⟨t0, f, t1, t2⟩ := W0.2.1
  unfold fX11_law laA laR
  simp only [y_h W.1, if_true, e0, y_2 W0.1, Option.bind_some, e1, f10, decide_eq_true_eq]
  by_cases z : (rin tx len).1 = BIG
  · have ht : ∀ i, i < len → tx i < 256 := fun i hi => (t2 i hi).1
    have h40 := rin_40 ht z
    have LD := rin_rlr ht z
    have Ia := lwS_inv (C := (rin tx len).2) I 6
    have Ib := lwS_inv (C := C) I 6
    simp only [if_pos z]
    obtain ⟨F, X, mf⟩ := mi_rcx W1
    have c155 : cel g1 0 155 325 := W1.2.2.2.2.2.2.2.2.2.2.2.2.2.1
    obtain ⟨g2, F2, e2, R2, X2, f2, O2⟩ := y_layW (Or.inl rfl) L I X (mf.1 0 _ rfl) (mf.1 20 _ rfl) W1.2.2.1 c155
    have nw : ∀ {k}, k = 0 ∨ k = 1 ∨ k = 12 ∨ k = 13 ∨ k = 14 ∨ k = 16 ∨ k = 20 → ¬ WF k := fun hk y => by unfold WF at y; omega
    have q12 : F2 12 = .ref 150 := (f2 12 (nw (by omega))).trans (mf.1 12 _ rfl)
    have q13 : F2 13 = .ref 151 := (f2 13 (nw (by omega))).trans (mf.1 13 _ rfl)
    have q14 : F2 14 = .int (J rn) := (f2 14 (nw (by omega))).trans mf.2.2.2.1
    have q16 : F2 16 = .ref 152 := (f2 16 (nw (by omega))).trans (mf.1 16 _ rfl)
    have q20 : F2 20 = .ref 155 := (f2 20 (nw (by omega))).trans (mf.1 20 _ rfl)
    have q0 : F2 0 = .ref 146 := (f2 0 (nw (by omega))).trans (mf.1 0 _ rfl)
    have q1 : F2 1 = .ref 147 := (f2 1 (nw (by omega))).trans (mf.1 1 _ rfl)
    obtain ⟨g3, e3, M3, O3⟩ := ob_p X2.1 (k := 12) (by decide) (.ref 151)
    obtain ⟨g4, e4, M4, O4⟩ := ob_p M3 (k := 14) (by decide) (.int (J len))
    have O24 : On (fun k => k = 145) g2 g4 := (O3.on1 (P := fun k => k = 145) rfl).trans (O4.on1 rfl)
    obtain ⟨p151, c151⟩ := W1.2.2.2.2.2.2.2.2.2.2.1
    have c4 : g4.1 151 = some (.inl (3, 40, .inl p151)) := (O24.2 151 (by decide)).trans ((O2.2 151 (by decide)).trans c151)
    have t4 : g4.1 147 = some (.inl (3, 80, .inl f)) := (O24.2 147 (by decide)).trans ((O2.2 147 (by decide)).trans ((O1.2 147 (by decide)).trans t1))
    have r12 : fput (fput F2 12 (.ref 151)) 14 (.int (J len)) 12 = .ref 151 := by rw [fput_ne (by decide), fput_eq]
    have r1 : fput (fput F2 12 (.ref 151)) 14 (.int (J len)) 1 = .ref 147 := by rw [fput_ne (by decide), fput_ne (by decide)]; exact q1
    have r0 : fput (fput F2 12 (.ref 151)) 14 (.int (J len)) 0 = .ref 146 := by rw [fput_ne (by decide), fput_ne (by decide)]; exact q0
    have r16 : fput (fput F2 12 (.ref 151)) 14 (.int (J len)) 16 = .ref 152 := by rw [fput_ne (by decide), fput_ne (by decide)]; exact q16
    have r20 : fput (fput F2 12 (.ref 151)) 14 (.int (J len)) 20 = .ref 155 := by rw [fput_ne (by decide), fput_ne (by decide)]; exact q20
    have r14 : fput (fput F2 12 (.ref 151)) 14 (.int (J len)) 14 = .int (J len) := fput_eq
    obtain ⟨g5, a5, e5, c5, T5, O5⟩ := y_lawL (x2 := J (tot (lwS C w 6) 8)) (x3 := J (bc (lwS C w 6 1 2))) (x5 := J rn) (x4 := 150) t2 h40 len FU 0 g4 p151 (by omega) (FU_gt (by omega)) M4 r12 r1 t4 c4 (fun i hi => absurd hi (Nat.not_lt_zero i))
    obtain ⟨y152, hy⟩ := X2.2.2.2.2.2
    have X5 : RCX g5 145 (fput (fput F2 12 (.ref 151)) 14 (.int (J len))) 151 152 len tx := ⟨M4.on O5 (by decide), r12, r14, r16, ⟨40, a5, c5, h40, by decide, T5⟩, y152, (O5.2 152 (by decide)).trans ((O24.2 152 (by decide)).trans hy)⟩
    have R5 : RA g5 146 w := ((W1.2.2.1.on O2 (by decide)).on O24 (by decide)).on O5 (by decide)
    have c5' : cel g5 0 155 325 := (R2.cel.on O24 (by decide)).on O5 (by decide)
    obtain ⟨g6, F6, e6, R6, X6, f6, O6⟩ := y_layW (Or.inr rfl) LD I X5 r0 r20 R5 c5'
    obtain ⟨g7, e7, M7, O7⟩ := ob_p X6.1 (k := 12) (by decide) (.ref 150)
    obtain ⟨g8, e8, M8, O8⟩ := ob_p M7 (k := 14) (by decide) (.int (J rn))
    have O68 : On (fun k => k = 145) g6 g8 := (O7.on1 (P := fun k => k = 145) rfl).trans (O8.on1 rfl)
    have F8 : ∀ k, ¬ NF k → fput (fput F6 12 (.ref 150)) 14 (.int (J rn)) k = F k := by
      intro k hk
      by_cases k14 : k = 14
      · subst k14
        rw [fput_eq]
        exact mf.2.2.2.1.symm
      · rw [fput_ne k14]
        by_cases k12 : k = 12
        · subst k12
          rw [fput_eq]
          exact (mf.1 12 _ rfl).symm
        · have hw : ¬ WF k := fun y => hk (wf_nf y)
          rw [fput_ne k12, f6 k hw, fput_ne k14, fput_ne k12, f2 k hw]
    have OO : On (fun k => k = 145 ∨ k = 151 ∨ k = 152 ∨ k = 155) g1 g8 := ((((O2.mono (fun k hk => by omega)).trans (O24.mono (fun k hk => Or.inl hk))).trans (O5.mono (fun k hk => Or.inr (Or.inl hk)))).trans (O6.mono (fun k hk => by omega))).trans (O68.mono (fun k hk => Or.inl hk))
    obtain ⟨z152, hz⟩ := X6.2.2.2.2.2
    have R8 := R6.on O68 (by decide)
    have W8 := W1.plw OO ⟨_, M8, mf.cg F8⟩ ⟨a5, (O68.2 151 (by decide)).trans ((O6.2 151 (by decide)).trans c5)⟩ ⟨z152, (O68.2 152 (by decide)).trans hz⟩ R8.cel
    obtain ⟨g9, e9, W9, O9⟩ := mi_clr W8
    have R9 := R8.on O9 (by decide)
    obtain ⟨g10, e10, W10, O10⟩ := mi_tell W9 (by simp) (Int32.toInt64 (J (tot (lwS (rin tx len).2 w 6) 8)))
    have R10 := R9.on O10 (by decide)
    obtain ⟨g11, e11, W11, O11⟩ := mi_tell W10 (by simp) (Int32.toInt64 (J (tot (lwS C w 6) 8)))
    have R11 := R10.on O11 (by decide)
    obtain ⟨g12, e12, W12, O12⟩ := mi_tell W11 (by simp) (Int32.toInt64 (J (bc (lwS (rin tx len).2 w 6 1 2))))
    have R12 := R11.on O12 (by decide)
    obtain ⟨g13, e13, W13, O13⟩ := mi_tell W12 (by simp) (Int32.toInt64 (J (bc (lwS C w 6 1 2))))
    have R13 := R12.on O13 (by decide)
    refine ⟨g13, ?_, W13, ((((((O01.trans (mon OO (fun k hk => by omega))).trans (mon O9 (fun k hk => by omega))).trans (mon O10 (fun k hk => by omega))).trans (mon O11 (fun k hk => by omega))).trans (mon O12 (fun k hk => by omega))).trans (mon O13 (fun k hk => by omega)))⟩
    have e5' : ∀ K : AH → Nat → Int32 → Int32 → Nat → Int32 → Option (Int32 × AH), fX11_law_L77 K FU g4 145 (J len) (J (tot (lwS C w 6) 8)) (J (bc (lwS C w 6 1 2))) 150 (J rn) 0 = K g5 145 (J (tot (lwS C w 6) 8)) (J (bc (lwS C w 6 1 2))) 150 (J rn) := fun K => e5 K
    have b1 : fJ6_bitCount_0f7a4 g2 (J (lwS C w 6 1 2)) = some (J (bc (lwS C w 6 1 2))) := bc_J Ib.rg.2.1.2.2.1
    have b2 : fJ6_bitCount_0f7a4 g11 (J (lwS (rin tx len).2 w 6 1 2)) = some (J (bc (lwS (rin tx len).2 w 6 1 2))) := bc_J Ia.rg.2.1.2.2.1
    have x20 := ob_r X2.1 (k := 20) (by decide) q20
    rw [e2, Option.bind_some, x20, Option.bind_some, m_frames R2 Ib.rg, Option.bind_some, Option.bind_some, m_objects R2 Ib.rg, Option.bind_some, b1, Option.bind_some, ob_r X2.1 (k := 12) (by decide) q12, Option.bind_some, ob_i X2.1 (k := 14) (by decide) q14, Option.bind_some, ob_r X2.1 (k := 13) (by decide) q13, Option.bind_some, e3, Option.bind_some, e4, Option.bind_some, e5', e6, Option.bind_some, e7, Option.bind_some, e8, Option.bind_some, e9, Option.bind_some, y_20 W9.1, Option.bind_some, m_frames R9 Ia.rg, Option.bind_some, e10, Option.bind_some, e11, Option.bind_some, y_20 W11.1, Option.bind_some, m_objects R11 Ia.rg, Option.bind_some, b2, Option.bind_some, e12, Option.bind_some, e13, Option.bind_some, y_20 W13.1, Option.bind_some, m_frames R13 Ia.rg, Option.bind_some]
  · simp only [if_neg z]
    exact ⟨g1, rfl, W1, O01⟩
end LX
