/-! what is asked of the objects -/
theorem cnt_z : ∀ n, cnt (fun _ => false) n = 0
  | 0 => rfl
  | n + 1 => by rw [cnt_no (by simp), cnt_z n]
theorem bc_6 {n : Nat} (hn : n < 64) : bc n = cnt (fun i => n.testBit i) 6 := by
  unfold bc
  have := cnt_add (fun i => n.testBit i) 6 18
  rw [this, cnt_congr (f := fun i => n.testBit (6 + i)) (g := fun _ => false) (fun i hi => Nat.testBit_lt_two_pow (Nat.lt_of_lt_of_le hn (show 2 ^ 6 ≤ 2 ^ (6 + i) from Nat.pow_le_pow_right (by decide) (by omega)))), cnt_z, Nat.add_zero]
def ctA (w : ST) (len un rl hl sl n : Nat) : Nat := if n = 0 then w 1 1 else if n = 1 then w 1 2 else if n = 2 then tot w 8 else if n = 3 then w 1 3 else if n = 4 then bc (w 1 0) else if n = 5 then tot w 7 else if n = 6 then hl else if n = 7 then sl else if n = 8 then un else if n = 9 then rl else if n = 10 then len else 4294967295
section CG
variable {h g : AH} {mk : Nat} {tx : Nat → Nat} {len : Nat} {w : ST} {un : Nat} {us : Nat → ST} {kp : Nat → Bool} {ks : Nat → ST} {C : List Nat} {ρ : Nat → Nat} {rn : Nat} {row : List Int64} {hq : List (Nat × Nat)} {sq : List (Nat × Nat × Bool)}
theorem xc_count (W : CIk h mk tx len w un us kp ks C row hq sq) (I : INV w) {n : Nat} (hn : n < 4294967296) : fX10_count h 0 (J n) = some (J (ctA w len un row.length hq.length sq.length n)) := by
  have R := I.rg
  have l9 : (9 : Int32) = J 9 := rfl
  have t1 : fX1_total h 134 = some (J hq.length) := by
    obtain ⟨F, f1, f2, f3, x, w1, w2, w3, w4, w5, w6⟩ := W.2.2.2.2.2.2.2.2.2.1
    unfold fX1_total
    simp only [ob_h w1, if_true, ob_i w1 (k := 3) (by decide) w5, Option.bind_some]
  have t2 : fX8_total h 138 = some (J sq.length) := by
    obtain ⟨F, f1, f2, f3, f4, w1, w2, w3, w4, w5, w6, w7⟩ := W.2.2.2.2.2.2.2.2.2.2.1
    unfold fX8_total
    simp only [ob_h w1, if_true, ob_i w1 (k := 4) (by decide) w6, Option.bind_some]
  have t3 : fX2_total h 20 = some (J un) := by
    obtain ⟨F, fm, fs, fb, w1, w2, w3, w4, w5, w6, w7⟩ := W.2.2.2.2.1
    unfold fX2_total
    simp only [ob_h w1, if_true, ob_i w1 (k := 4) (by decide) w6, Option.bind_some]
  have t4 : fX5_total h 132 = some (J row.length) := by
    obtain ⟨F, f, w1, w2, w3, w4⟩ := W.2.2.2.2.2.2.2.2.1
    unfold fX5_total
    simp only [ob_h w1, if_true, ob_i w1 (k := 1) (by decide) w3, Option.bind_some]
  unfold fX10_count ctA
  simp only [x_h W.1, if_true, x_2 W.1, x_9 W.1, x_10 W.1, x_4 W.1, x_8 W.1, Option.bind_some, c_spaceSet W.2.2.1, c_objectSet W.2.2.1, c_frameTotal W.2.2.1 R, c_writeTotal W.2.2.1, c_sharingTotal W.2.2.1 R, c_awaitedTotal W.2.2.1 R, t1, t2, t3, t4, x_1 W.1]
  have nj : ∀ {x : Nat}, x < 100 → (J n = J x ↔ n = x) := fun hx => J_inj hn (by omega)
  simp only [l_0, l_1, l_2, l_3, l_4, l_5, l_6, l_7, l_8, l9, l_10, nj (x := 0) (by decide), nj (x := 1) (by decide), nj (x := 2) (by decide), nj (x := 3) (by decide), nj (x := 4) (by decide), nj (x := 5) (by decide), nj (x := 6) (by decide), nj (x := 7) (by decide), nj (x := 8) (by decide), nj (x := 9) (by decide), nj (x := 10) (by decide)]
  rw [neg_l1]
  repeat' split
  all_goals rfl
theorem m_sumI (W : MIv h tx len w un us kp ks ρ rn row hq sq) (I : INV w) : fX11_sumOf h 145 318 6 false = some (J (bc (w 1 0))) := by
  have R := I.rg
  unfold fX11_sumOf
  rw [if_pos (y_h W.1), l_0]
  have e := loop_rec (fun q k c => fX11_sumOf_L6 h q 145 318 6 false (J c) (J k)) 6 (sm (fun s => if (w 1 0).testBit s = true then 1 else 0)) (some (J (bc (w 1 0)))) (fun q k hk => by
    try dsimp only
    rw [fX11_sumOf_L6]
    simp (disch := omega) only [l_6, J_le, y_0 W.1, l_318, J_add, ra_sr W.2.2.1, Option.bind_some]
    rw [if_neg (by omega), if_neg (by decide)]
    unfold fX11_sumOf_J42
    have e1 : J k + 1 = J (k + 1) := by rw [l_1, J_add]
    simp only [letF, e1, J_add]
    rfl) (fun q => by
    try dsimp only
    rw [fX11_sumOf_L6]
    simp (disch := omega) only [l_6, J_le]
    rw [if_pos (by omega), bc_6 R.2.1.1, cnt_sm]) 6 FU 0 rfl (FU_gt (by decide))
  exact e
theorem m_sumB (W : MIv h tx len w un us kp ks ρ rn row hq sq) (I : INV w) : fX11_sumOf h 145 288 24 true = some (J (tot w 7)) := by
  have R := I.rg
  unfold fX11_sumOf
  rw [if_pos (y_h W.1), l_0]
  have e := loop_rec (fun q k c => fX11_sumOf_L6 h q 145 288 24 true (J c) (J k)) 24 (sm (fun o => bc (w 7 o))) (some (J (tot w 7))) (fun q k hk => by
    have r7 := (R.2.2.1 k hk).2.2.2.2.1
    try dsimp only
    rw [fX11_sumOf_L6]
    simp (disch := omega) only [l_24, J_le, y_0 W.1, l_288, J_add, ra_aw W.2.2.1, Option.bind_some, if_true, bc_J]
    rw [if_neg (by omega)]
    unfold fX11_sumOf_J42
    have e1 : J k + 1 = J (k + 1) := by rw [l_1, J_add]
    simp only [letF, e1, J_add]
    rfl) (fun q => by
    try dsimp only
    rw [fX11_sumOf_L6]
    simp (disch := omega) only [l_24, J_le]
    rw [if_pos (by omega)]
    rfl) 24 FU 0 rfl (FU_gt (by decide))
  exact e
theorem xm_count (W : MIv h tx len w un us kp ks ρ rn row hq sq) (I : INV w) {n : Nat} (hn : n < 4294967296) : ∃ h', fX11_count h 145 (J n) = some (J (ctA w len un row.length hq.length sq.length n), h') ∧ MIv h' tx len w un us kp ks ρ rn row hq sq ∧ On PM0 h h' := by
  obtain ⟨g0, e0, W0, -, O0⟩ := mi_t0 W
  have R := I.rg
  have l9 : (9 : Int32) = J 9 := rfl
  refine ⟨g0, ?_, W0, mon O0 (fun k hk => by omega)⟩
  have wr := ra_wr W0.2.2.1
  rw [← l_324] at wr
  unfold fX11_count ctA
  simp only [y_h W.1, if_true, e0, y_0 W0.1, Option.bind_some, m_spaces W0.2.2.1 R, m_objects W0.2.2.1 R, m_frames W0.2.2.1 R, wr, m_sumI W0 I, m_sumB W0 I, y_26 W0.1, y_31 W0.1, y_18 W0.1, y_4 W0.1, y_2 W0.1]
  have nj : ∀ {x : Nat}, x < 100 → (J n = J x ↔ n = x) := fun hx => J_inj hn (by omega)
  simp only [l_0, l_1, l_2, l_3, l_4, l_5, l_6, l_7, l_8, l9, l_10, nj (x := 0) (by decide), nj (x := 1) (by decide), nj (x := 2) (by decide), nj (x := 3) (by decide), nj (x := 4) (by decide), nj (x := 5) (by decide), nj (x := 6) (by decide), nj (x := 7) (by decide), nj (x := 8) (by decide), nj (x := 9) (by decide), nj (x := 10) (by decide)]
  rw [neg_l1]
  repeat' split
  all_goals rfl
/-! a number of the row -/
theorem xc_row {n : Nat} {x : Int64} (W : CIk h mk tx len w un us kp ks C row hq sq) (hn : n < 4294967296) (hx : row[n]? = some x) : fX10_row h 0 (J n) = some (x, h) := by
  obtain ⟨F, f, w1, w2, w3, w4, w5, w6⟩ := W.2.2.2.2.2.2.2.2.1
  have hl : n < row.length := by
    by_cases z : n < row.length
    · exact z
    · rw [List.getElem?_eq_none (by omega)] at hx; cases hx
  have aL133 : aL h 1 133 = some (J 24) := aL_at w4
  have hh : fX5_has h 132 (J n) = some true := by
    unfold fX5_has
    rw [if_pos (ob_h w1), if_neg (fun z => by have := (J_neg0 hn).1 z; omega), ob_i w1 (k := 1) (by decide) w3, Option.bind_some, if_neg (fun z => by rw [J_le (by omega) hn] at z; omega), ob_r w1 (k := 0) (by decide) w2, Option.bind_some, aL133, Option.bind_some, if_neg (fun z => by rw [J_le (by omega) hn] at z; omega)]
  unfold fX10_row fX5_number
  simp only [x_h W.1, if_true, x_8 W.1, Option.bind_some, hh, ob_h w1, ob_r w1 (k := 0) (by decide) w2, aJ_at w4 (show n < 24 by omega) (by decide), w6 n x hx]
theorem xc_row_no {n : Nat} (W : CIk h mk tx len w un us kp ks C row hq sq) (hn : n < 4294967296) (hx : row[n]? = none) : fX10_row h 0 (J n) = none ∧ fX10_row_t h 0 (J n) = some h := by
  obtain ⟨F, f, w1, w2, w3, w4, w5, w6⟩ := W.2.2.2.2.2.2.2.2.1
  have hl : row.length ≤ n := List.getElem?_eq_none_iff.mp hx
  have hh : fX5_has h 132 (J n) = some false := by
    unfold fX5_has
    rw [if_pos (ob_h w1)]
    by_cases q : 2147483648 ≤ n
    · rw [if_pos ((J_neg0 hn).2 q)]
    · rw [if_neg (fun z => q ((J_neg0 hn).1 z)), ob_i w1 (k := 1) (by decide) w3, Option.bind_some, if_pos (by rw [J_le (by omega) hn]; omega)]
  unfold fX10_row fX10_row_t
  simp only [x_h W.1, if_true, x_8 W.1, Option.bind_some, hh]
  exact ⟨rfl, rfl⟩
theorem mi_lost (W : MIv h tx len w un us kp ks ρ rn row hq sq) : ∃ g, fX11_lost h 145 = some (0, g) ∧ MIv g tx len w un us kp ks ρ rn row hq sq ∧ gI g 11 145 5 = some 1 ∧ On (fun k => k = 145) h g := by
  have hh := y_h W.1
  obtain ⟨w1, w2, w3, w4, w5, w6, w7, w8, w9, w10⟩ := W
  obtain ⟨g, e, M, F5, O⟩ := y_p w1 (k := 5) (Or.inl rfl) (.int 1)
  refine ⟨g, ?_, ⟨M, w2.on O (by omega), w3.on O (by omega), w4.on O (by omega), w5.on O (by omega) (by omega), w6.on O (by omega), w7.on O (by omega), w8.on O (by omega) (by omega), w9.on O (by omega) (by omega) (by omega), w10.on O (fun k hk => by omega)⟩, ?_, O⟩
  · unfold fX11_lost
    rw [if_pos hh, e, Option.bind_some]
  · unfold gI
    rw [F5]
theorem m_inl {a n : Nat} (ha : a < 4294967296) (hn : n < 2147483647) : fX11_in h (J a) 0 (J n - 1) = some (decide (a < n)) := by
  by_cases z : n = 0
  · subst z
    have e : J 0 - 1 = -1 := by decide
    rw [e]
    unfold fX11_in
    rw [decide_eq_false (Nat.not_lt_zero a)]
    by_cases q : 2147483648 ≤ a
    · rw [if_pos ((J_neg0 ha).2 q)]
    · rw [if_neg (fun z => q ((J_neg0 ha).1 z))]
      have lt : (-1 : Int32) < J a := by
        rw [m1_J, J_lt (by decide) (by omega)]
        omega
      rw [if_pos lt]
  · have e : J n - 1 = J (n - 1) := by rw [l_1, J_sub (by omega)]
    rw [e, l_0, m_in ha (by decide) (by omega)]
    congr 1
    rw [decide_eq_true (Nat.zero_le a), Bool.true_and, decide_eq_decide]
    omega
theorem xm_row {n : Nat} {x : Int64} (W : MIv h tx len w un us kp ks ρ rn row hq sq) (hn : n < 4294967296) (hx : row[n]? = some x) : ∃ h', fX11_row h 145 (J n) = some (x, h') ∧ gI h' 11 145 5 = some 0 ∧ MIv h' tx len w un us kp ks ρ rn row hq sq ∧ On PM0 h h' := by
  obtain ⟨g0, e0, W0, F5, O0⟩ := mi_t0 W
  have hl : n < row.length := by
    by_cases z : n < row.length
    · exact z
    · rw [List.getElem?_eq_none (by omega)] at hx; cases hx
  obtain ⟨r0, f, r1, r2⟩ := W0.2.2.2.2.2.2.1
  refine ⟨g0, ?_, F5, W0, mon O0 (fun k hk => by omega)⟩
  unfold fX11_row
  simp only [y_h W.1, if_true, e0, y_4 W0.1, Option.bind_some, m_inl (h := g0) hn (show row.length < 2147483647 by omega), decide_eq_true hl, y_3 W0.1, aJ_at r1 (show n < 24 by omega) (by decide), r2 n x hx]
theorem xm_row_no {n : Nat} (W : MIv h tx len w un us kp ks ρ rn row hq sq) (hn : n < 4294967296) (hx : row[n]? = none) : ∃ x h', fX11_row h 145 (J n) = some (x, h') ∧ gI h' 11 145 5 = some 1 ∧ MIv h' tx len w un us kp ks ρ rn row hq sq ∧ On PM0 h h' := by
  obtain ⟨g0, e0, W0, F5, O0⟩ := mi_t0 W
  obtain ⟨g1, e1, W1, F51, O1⟩ := mi_lost W0
  have hl : row.length ≤ n := List.getElem?_eq_none_iff.mp hx
  have r0 := W0.2.2.2.2.2.2.1.1
  refine ⟨Int32.toInt64 0, g1, ?_, F51, W1, (mon O0 (fun k hk => by omega)).trans (mon O1 (fun k hk => by omega))⟩
  unfold fX11_row
  simp only [y_h W.1, if_true, e0, y_4 W0.1, Option.bind_some, m_inl (h := g0) hn (show row.length < 2147483647 by omega), decide_eq_false (show ¬ n < row.length by omega), e1]
  rfl
/-! a space's numbers -/
theorem CIk.pru (W : CIk h mk tx len w un us kp ks C row hq sq) (O : On (fun k => 123 ≤ k ∧ k < 126) h g) (U : RU g 123 C) : CIk g mk tx len w un us kp ks C row hq sq :=
  W.pwr (O.mono (fun k hk => by unfold PW; omega)) (W.2.2.1.on O (fun k z1 z2 => by omega)) U
theorem ob_gF {c N a k : Nat} {F : Nat → Value} (M : OBJ c N h a F) (hk : k < N) : gF h c a k = some (F k) := by
  obtain ⟨fs, c1, l, s⟩ := M
  unfold gF
  rw [c1]
  simp only [if_true]
  exact s k hk
theorem mi_ruleOf (W : MIv h tx len w un us kp ks ρ rn row hq sq) (I : INV w) (L : RLR C ρ rn) {s p : Nat} (h0 : hs w s = true) (hp : p < 8) : ∃ g, fX11_ruleOf h 145 146 (J s) (J p) = some (rvl C w s p, g) ∧ MIv g tx len w un us kp ks ρ rn row hq sq ∧ gI g 11 145 5 = gI h 11 145 5 ∧ On (fun k => k = 145 ∨ k = 152) h g := by
  obtain ⟨F, ⟨M, x12, x14, x16, xB, xQ⟩, mf⟩ := mi_rcx W
  obtain ⟨v, g, F', e, M', f, cQ, hv, O⟩ := m_ruleOf (A := 146) (C := C) M x12 x14 x16 (by decide) (by decide) (by decide) (by decide) (by decide) xB xQ W.2.2.1 I.rg I.gr L h0 hp
  rw [← rvl_of hv] at e
  have fNF : ∀ k, ¬ NF k → F' k = F k := fun k hk => f k (by unfold NF at hk; unfold RF; omega)
  refine ⟨g, e, ?_, ?_, O⟩
  · obtain ⟨w1, w2, w3, w4, w5, w6, w7, w8, w9, w10⟩ := W
    obtain ⟨y1, y2, y3, y4, y5, y6, y7, y8⟩ := w10
    exact ⟨⟨F', M', mf.cg fNF⟩, w2.on O (by omega), w3.on O (by omega), w4.on O (by omega), w5.on O (by omega) (by omega), w6.on O (by omega), w7.on O (by omega), w8.on O (by omega) (by omega), w9.on O (by omega) (by omega) (by omega), ⟨y1.on O (by omega), y2.on O (by omega), cQ, y4.on O (by omega), y5.on O (by omega), y6.on O (by omega), y7.on O (by omega), y8.on O (by omega)⟩⟩
  · unfold gI
    rw [ob_gF M' (k := 5) (by decide), ob_gF M (k := 5) (by decide), f 5 (Or.inr (by unfold RF; omega))]
def spA (C : List Nat) (w : ST) (s k : Nat) : Int32 := if k = 0 then J (tp w s) else if k = 1 then J (sb w s) else if k = 2 then J (dep w 24 (tp w s)) else jmax (-99) (jmin 99 (rvl C w s 0)) + 100
theorem xc_space {s k : Nat} (W : CIk h mk tx len w un us kp ks C row hq sq) (I : INV w) (gC : GR1 C) (h0 : hs w s = true) (hk : k < 4) : ∃ h' mk', fX10_space h 0 (J s) (J k) = some (spA C w s k, h') ∧ CIk h' mk' tx len w un us kp ks C row hq sq ∧ On PC0 h h' := by
  have R := I.rg
  obtain ⟨s1, s2⟩ := hs_lt h0
  have nj : ∀ {x : Nat}, x < 100 → (J k = J x ↔ k = x) := fun hx => J_inj (by omega) (by omega)
  obtain ⟨g1, e1, U1, O1⟩ := c_reckon W.2.2.2.2.2.1 W.2.2.1 R (by decide) gC.1 (s := s) (p := 0) (by omega) (rvl_g gC w s 0)
  have O1' : On (fun k => 123 ≤ k ∧ k < 126) h g1 := O1.on (fun k z1 z2 => ⟨z1, z2⟩)
  have e1' : fX6_reckon h 123 2 (J s) 0 = some (rvl C w s 0, g1) := e1
  unfold fX10_space spA
  simp (disch := omega) only [x_h W.1, if_true, x_2 W.1, x_5 W.1, Option.bind_some, c_hs W.2.2.1 R, h0, c_tp W.2.2.1 R, c_isSharing W.2.2.1 R, c_chain W.2.2.1 R, e1']
  have k0 : J k = 0 ↔ k = 0 := nj (x := 0) (by decide)
  have k1 : J k = 1 ↔ k = 1 := nj (x := 1) (by decide)
  have k2 : J k = 2 ↔ k = 2 := nj (x := 2) (by decide)
  have k3 : J k = 3 ↔ k = 3 := nj (x := 3) (by decide)
  simp only [k0, k1, k2, k3]
  by_cases z0 : k = 0
  · rw [if_pos z0, if_pos z0]
    exact ⟨h, mk, rfl, W, On.rf⟩
  · rw [if_neg z0, if_neg z0]
    by_cases z1 : k = 1
    · rw [if_pos z1, if_pos z1]
      refine ⟨h, mk, ?_, W, On.rf⟩
      unfold sb
      by_cases t : (w 1 0).testBit s = true
      · rw [if_pos t, if_pos t]; rfl
      · rw [if_neg t, if_neg t]; rfl
    · rw [if_neg z1, if_neg z1]
      by_cases z2 : k = 2
      · rw [if_pos z2, if_pos z2]
        exact ⟨h, mk, rfl, W, On.rf⟩
      · rw [if_neg z2, if_neg z2, if_pos (by omega)]
        refine ⟨g1, mk, ?_, W.pru O1' U1, lon O1' (fun k hk => by omega)⟩
        rfl
theorem xc_space_no {s k : Nat} (W : CIk h mk tx len w un us kp ks C row hq sq) (I : INV w) (hs' : s < 4294967296) (hk' : k < 4294967296) (hn : ¬ (hs w s = true ∧ k < 4)) : fX10_space h 0 (J s) (J k) = none ∧ fX10_space_t h 0 (J s) (J k) = some h := by
  have R := I.rg
  have nj : ∀ {x : Nat}, x < 100 → (J k = J x ↔ k = x) := fun hx => J_inj (by omega) (by omega)
  unfold fX10_space fX10_space_t
  simp (disch := omega) only [x_h W.1, if_true, x_2 W.1, Option.bind_some, c_hs W.2.2.1 R]
  by_cases h0 : hs w s = true
  · have h4 : ¬ k < 4 := fun z => hn ⟨h0, z⟩
    have k0 : ¬ J k = 0 := fun z => h4 (by have := (nj (x := 0) (by decide)).1 z; omega)
    have k1 : ¬ J k = 1 := fun z => h4 (by have := (nj (x := 1) (by decide)).1 z; omega)
    have k2 : ¬ J k = 2 := fun z => h4 (by have := (nj (x := 2) (by decide)).1 z; omega)
    have k3 : ¬ J k = 3 := fun z => h4 (by have := (nj (x := 3) (by decide)).1 z; omega)
    rw [if_pos h0, if_pos h0, if_neg k0, if_neg k0, if_neg k1, if_neg k1, if_neg k2, if_neg k2, if_neg k3, if_neg k3]
    exact ⟨rfl, rfl⟩
  · rw [if_neg h0, if_neg h0]
    exact ⟨rfl, rfl⟩
theorem xm_space {s k : Nat} (W : MIv h tx len w un us kp ks ρ rn row hq sq) (I : INV w) (L : RLR C ρ rn) (h0 : hs w s = true) (hk : k < 4) : ∃ h', fX11_space h 145 (J s) (J k) = some (spA C w s k, h') ∧ gI h' 11 145 5 = some 0 ∧ MIv h' tx len w un us kp ks ρ rn row hq sq ∧ On PM0 h h' := by
  obtain ⟨g0, e0, W0, F5, O0⟩ := mi_t0 W
  have O0' : On PM0 h g0 := mon O0 (fun k hk => by omega)
  have R := I.rg
  obtain ⟨s1, s2⟩ := hs_lt h0
  have nj : ∀ {x : Nat}, x < 100 → (J k = J x ↔ k = x) := fun hx => J_inj (by omega) (by omega)
  have l3 : (3 : Int32) = J 3 := rfl
  have i1 : fX11_in g0 (J k) 0 3 = some true := by
    rw [l_0, l3, m_in (by omega) (by decide) (by decide), decide_eq_true (Nat.zero_le k), decide_eq_true (show k ≤ 3 by omega)]
    rfl
  have etp : tp w s = w 0 s := by unfold tp; rw [if_pos s1]
  obtain ⟨g1, e1, W1, F51, O1⟩ := mi_ruleOf W0 I L h0 (p := 0) (by decide)
  rw [← l_0] at e1
  unfold fX11_space spA
  simp only [y_h W.1, if_true, e0, y_0 W0.1, Option.bind_some, m_hs W0.2.2.1 R (show s < 4294967296 by omega), h0, i1]
  have k0 : J k = 0 ↔ k = 0 := nj (x := 0) (by decide)
  have k1 : J k = 1 ↔ k = 1 := nj (x := 1) (by decide)
  have k2 : J k = 2 ↔ k = 2 := nj (x := 2) (by decide)
  simp only [k0, k1, k2]
  by_cases z0 : k = 0
  · rw [if_pos z0, if_pos z0]
    refine ⟨g0, ?_, F5, W0, O0'⟩
    simp (disch := omega) only [l_312, J_add, ra_tp W0.2.2.1, Option.bind_some, nn_id, etp]
  · rw [if_neg z0, if_neg z0]
    by_cases z1 : k = 1
    · rw [if_pos z1, if_pos z1]
      refine ⟨g0, ?_, F5, W0, O0'⟩
      simp (disch := omega) only [l_318, J_add, ra_sr W0.2.2.1, Option.bind_some]
    · rw [if_neg z1, if_neg z1]
      by_cases z2 : k = 2
      · rw [if_pos z2, if_pos z2]
        refine ⟨g0, ?_, F5, W0, O0'⟩
        rw [m_len W0.2.2.1 R I.gr s1, Option.bind_some]
      · rw [if_neg z2, if_neg z2]
        refine ⟨g1, ?_, F51.trans F5, W1, O0'.trans (mon O1 (fun k hk => by omega))⟩
        rw [e1, Option.bind_some, Int32.add_comm]
theorem xm_space_no {s k : Nat} (W : MIv h tx len w un us kp ks ρ rn row hq sq) (I : INV w) (hs' : s < 4294967296) (hk' : k < 4294967296) (hn : ¬ (hs w s = true ∧ k < 4)) : ∃ x h', fX11_space h 145 (J s) (J k) = some (x, h') ∧ gI h' 11 145 5 = some 1 ∧ MIv h' tx len w un us kp ks ρ rn row hq sq ∧ On PM0 h h' := by
  obtain ⟨g0, e0, W0, F5, O0⟩ := mi_t0 W
  have O0' : On PM0 h g0 := mon O0 (fun k hk => by omega)
  obtain ⟨g1, e1, W1, F51, O1⟩ := mi_lost W0
  have R := I.rg
  have l3 : (3 : Int32) = J 3 := rfl
  refine ⟨0, g1, ?_, F51, W1, O0'.trans (mon O1 (fun k hk => by omega))⟩
  · have lo : fX11_space_J25 g0 145 = some (0, g1) := by
      unfold fX11_space_J25
      rw [e1, Option.bind_some]
    unfold fX11_space
    simp only [y_h W.1, if_true, e0, y_0 W0.1, Option.bind_some, m_hs W0.2.2.1 R hs']
    by_cases h0 : hs w s = true
    · have h4 : ¬ k < 4 := fun z => hn ⟨h0, z⟩
      have i1 : fX11_in g0 (J k) 0 3 = some false := by
        rw [l_0, l3, m_in hk' (by decide) (by decide), decide_eq_false (show ¬ k ≤ 3 by omega), Bool.and_false]
      rw [if_pos h0, i1, Option.bind_some, if_neg (by decide), lo]
    · rw [if_neg h0, lo]
/-! an object's numbers -/
def obA (w : ST) (o k : Nat) : Nat := if k = 0 then w 8 o else if k = 1 then w 4 o else if k = 2 then w 5 o else if k = 3 then w 2 o else if k = 4 then w 3 o else if k = 5 then hol w o else w 7 o
theorem xc_object {o k : Nat} (W : CIk h mk tx len w un us kp ks C row hq sq) (I : INV w) (h0 : ho w o = true) (hk : k < 7) : ∃ h' mk', fX10_object h 0 (J o) (J k) = some (J (obA w o k), h') ∧ CIk h' mk' tx len w un us kp ks C row hq sq ∧ On PC0 h h' := by
  have R := I.rg
  obtain ⟨o1, o2⟩ := ho_lt h0
  have nj : ∀ {x : Nat}, x < 100 → (J k = J x ↔ k = x) := fun hx => J_inj (by omega) (by omega)
  refine ⟨h, mk, ?_, W, On.rf⟩
  have a8 : at0 w 8 o = w 8 o := by unfold at0; rw [if_pos o1]
  have a7 : at0 w 7 o = w 7 o := by unfold at0; rw [if_pos o1]
  have a4 : at24 w 4 o = w 4 o := by unfold at24; rw [if_pos o1]
  have a5 : at24 w 5 o = w 5 o := by unfold at24; rw [if_pos o1]
  have a2 : pgr w o = w 2 o := by unfold pgr; rw [if_pos h0]
  have a3 : dgt w o = w 3 o := by unfold dgt; rw [if_pos h0]
  unfold fX10_object obA
  simp (disch := omega) only [x_h W.1, if_true, x_2 W.1, Option.bind_some, c_ho W.2.2.1 R, h0, c_heldOf W.2.2.1 R, c_shadowOf W.2.2.1 R, c_copyOf W.2.2.1 R, c_pagerOf W.2.2.1 R, c_digitOf W.2.2.1 R, c_hol W.2.2.1 R, c_awaitedOf W.2.2.1 R, a8, a7, a4, a5, a2, a3]
  simp only [l_0, l_1, l_2, l_3, l_4, l_5, l_6, nj (x := 0) (by decide), nj (x := 1) (by decide), nj (x := 2) (by decide), nj (x := 3) (by decide), nj (x := 4) (by decide), nj (x := 5) (by decide), nj (x := 6) (by decide)]
  have z6 : ∀ a : Option (Int32 × AH), (if k = 6 then a else none) = if k < 6 then none else a := fun a => by
    by_cases z : k = 6
    · rw [if_pos z, if_neg (by omega)]
    · rw [if_neg z, if_pos (by omega)]
  by_cases c0 : k = 0
  · rw [if_pos c0, if_pos c0]
  · rw [if_neg c0, if_neg c0]
    by_cases c1 : k = 1
    · rw [if_pos c1, if_pos c1]
    · rw [if_neg c1, if_neg c1]
      by_cases c2 : k = 2
      · rw [if_pos c2, if_pos c2]
      · rw [if_neg c2, if_neg c2]
        by_cases c3 : k = 3
        · rw [if_pos c3, if_pos c3]
        · rw [if_neg c3, if_neg c3]
          by_cases c4 : k = 4
          · rw [if_pos c4, if_pos c4]
          · rw [if_neg c4, if_neg c4]
            by_cases c5 : k = 5
            · rw [if_pos c5, if_pos c5]
            · rw [if_neg c5, if_neg c5, if_pos (by omega)]
theorem xc_object_no {o k : Nat} (W : CIk h mk tx len w un us kp ks C row hq sq) (I : INV w) (ho' : o < 4294967296) (hk' : k < 4294967296) (hn : ¬ (ho w o = true ∧ k < 7)) : fX10_object h 0 (J o) (J k) = none ∧ fX10_object_t h 0 (J o) (J k) = some h := by
  have R := I.rg
  have nj : ∀ {x : Nat}, x < 100 → (J k = J x ↔ k = x) := fun hx => J_inj (by omega) (by omega)
  unfold fX10_object fX10_object_t
  simp (disch := omega) only [x_h W.1, if_true, x_2 W.1, Option.bind_some, c_ho W.2.2.1 R]
  by_cases h0 : ho w o = true
  · have h4 : ¬ k < 7 := fun z => hn ⟨h0, z⟩
    have k0 : ¬ J k = 0 := fun z => h4 (by have := (nj (x := 0) (by decide)).1 z; omega)
    have k1 : ¬ J k = 1 := fun z => h4 (by have := (nj (x := 1) (by decide)).1 z; omega)
    have k2 : ¬ J k = 2 := fun z => h4 (by have := (nj (x := 2) (by decide)).1 z; omega)
    have k3 : ¬ J k = 3 := fun z => h4 (by have := (nj (x := 3) (by decide)).1 z; omega)
    have k4 : ¬ J k = 4 := fun z => h4 (by have := (nj (x := 4) (by decide)).1 z; omega)
    have k5 : ¬ J k = 5 := fun z => h4 (by have := (nj (x := 5) (by decide)).1 z; omega)
    have k6 : ¬ J k = 6 := fun z => h4 (by have := (nj (x := 6) (by decide)).1 z; omega)
    rw [if_pos h0, if_pos h0, if_neg k0, if_neg k0, if_neg k1, if_neg k1, if_neg k2, if_neg k2, if_neg k3, if_neg k3, if_neg k4, if_neg k4, if_neg k5, if_neg k5, if_neg k6, if_neg k6]
    exact ⟨rfl, rfl⟩
  · rw [if_neg h0, if_neg h0]
    exact ⟨rfl, rfl⟩
theorem m_told24 {x : Nat} (hx : x ≤ 24) : fX11_told24 h (J (nn x)) = some (J x) := by
  unfold fX11_told24
  by_cases z : x = 24
  · subst z
    rw [nn_24, m1_J, if_pos rfl]
    rfl
  · rw [nn_id (by omega), m1_J, if_neg (by rw [J_inj (by omega) (by decide)]; omega)]
theorem xm_object {o k : Nat} (W : MIv h tx len w un us kp ks ρ rn row hq sq) (I : INV w) (h0 : ho w o = true) (hk : k < 7) : ∃ h', fX11_object h 145 (J o) (J k) = some (J (obA w o k), h') ∧ gI h' 11 145 5 = some 0 ∧ MIv h' tx len w un us kp ks ρ rn row hq sq ∧ On PM0 h h' := by
  obtain ⟨g0, e0, W0, F5, O0⟩ := mi_t0 W
  have R := I.rg
  obtain ⟨o1, o2⟩ := ho_lt h0
  obtain ⟨r2, r3, r4, r5, r7, r8⟩ := R.2.2.1 o o1
  have nj : ∀ {x : Nat}, x < 100 → (J k = J x ↔ k = x) := fun hx => J_inj (by omega) (by omega)
  refine ⟨g0, ?_, F5, W0, mon O0 (fun k hk => by omega)⟩
  have i1 : fX11_in g0 (J k) 0 6 = some true := by
    rw [l_0, l_6, m_in (by omega) (by decide) (by decide), decide_eq_true (Nat.zero_le k), decide_eq_true (show k ≤ 6 by omega)]
    rfl
  have ep : pr w o = w 2 o := by unfold pr; rw [if_pos o2]
  have W3 := W0.2.2.1
  unfold fX11_object obA
  simp only [y_h W.1, if_true, e0, y_0 W0.1, Option.bind_some, y_isObject W0 R (show o < 4294967296 by omega), h0, i1]
  simp (disch := omega) only [l_192, l_264, l_216, l_240, l_288, J_add, ra_sh W3, ra_cp W3, ra_pr W3, ra_dg W3, ra_aw W3, Option.bind_some, m_pages W3 R, m_hol W3 R, m_told24, ep]
  simp only [l_0, l_1, l_2, l_3, l_4, l_5, nj (x := 0) (by decide), nj (x := 1) (by decide), nj (x := 2) (by decide), nj (x := 3) (by decide), nj (x := 4) (by decide), nj (x := 5) (by decide)]
  repeat' split
  all_goals rfl
theorem xm_object_no {o k : Nat} (W : MIv h tx len w un us kp ks ρ rn row hq sq) (I : INV w) (ho' : o < 4294967296) (hk' : k < 4294967296) (hn : ¬ (ho w o = true ∧ k < 7)) : ∃ x h', fX11_object h 145 (J o) (J k) = some (x, h') ∧ gI h' 11 145 5 = some 1 ∧ MIv h' tx len w un us kp ks ρ rn row hq sq ∧ On PM0 h h' := by
  obtain ⟨g0, e0, W0, F5, O0⟩ := mi_t0 W
  have O0' : On PM0 h g0 := mon O0 (fun k hk => by omega)
  obtain ⟨g1, e1, W1, F51, O1⟩ := mi_lost W0
  have R := I.rg
  refine ⟨0, g1, ?_, F51, W1, O0'.trans (mon O1 (fun k hk => by omega))⟩
  have lo : fX11_object_J23 g0 145 = some (0, g1) := by
    unfold fX11_object_J23
    rw [e1, Option.bind_some]
  unfold fX11_object
  simp only [y_h W.1, if_true, e0, Option.bind_some, y_isObject W0 R ho']
  by_cases h0 : ho w o = true
  · have h4 : ¬ k < 7 := fun z => hn ⟨h0, z⟩
    have i1 : fX11_in g0 (J k) 0 6 = some false := by
      rw [l_0, l_6, m_in hk' (by decide) (by decide), decide_eq_false (show ¬ k ≤ 6 by omega), Bool.and_false]
    rw [if_pos h0, i1, Option.bind_some, if_neg (by decide), lo]
  · rw [if_neg h0, lo]
/-! a page's value -/
theorem hd_ho (R : RG w) {o p : Nat} (h0 : hd w o p = true) : ho w o = true := by
  obtain ⟨o1, p1, t⟩ := hd_lt h0
  by_cases z : w 2 o < 4
  · exact ho_of o1 z
  · have := (R.2.2.2.2.2.2 o o1 z).2.2.2
    rw [this, Nat.zero_testBit] at t
    cases t
theorem xc_page {o p : Nat} (W : CIk h mk tx len w un us kp ks C row hq sq) (I : INV w) (h0 : hd w o p = true) : ∃ h' mk', fX10_page h 0 (J o) (J p) = some (J (w 6 (8 * o + p)), h') ∧ CIk h' mk' tx len w un us kp ks C row hq sq ∧ On PC0 h h' := by
  have R := I.rg
  obtain ⟨o1, p1, t⟩ := hd_lt h0
  refine ⟨h, mk, ?_, W, On.rf⟩
  unfold fX10_page
  simp (disch := omega) only [x_h W.1, if_true, x_2 W.1, Option.bind_some, c_hd W.2.2.1 R, h0, c_val W.2.2.1 R]
theorem xc_page_no {o p : Nat} (W : CIk h mk tx len w un us kp ks C row hq sq) (I : INV w) (ho' : o < 4294967296) (hp' : p < 4294967296) (h0 : ¬ hd w o p = true) : fX10_page h 0 (J o) (J p) = none ∧ fX10_page_t h 0 (J o) (J p) = some h := by
  have R := I.rg
  unfold fX10_page fX10_page_t
  simp (disch := omega) only [x_h W.1, if_true, x_2 W.1, Option.bind_some, c_hd W.2.2.1 R]
  rw [if_neg h0, if_neg h0]
  exact ⟨rfl, rfl⟩
theorem xm_page {o p : Nat} (W : MIv h tx len w un us kp ks ρ rn row hq sq) (I : INV w) (h0 : hd w o p = true) : ∃ h', fX11_page h 145 (J o) (J p) = some (J (w 6 (8 * o + p)), h') ∧ gI h' 11 145 5 = some 0 ∧ MIv h' tx len w un us kp ks ρ rn row hq sq ∧ On PM0 h h' := by
  obtain ⟨g0, e0, W0, F5, O0⟩ := mi_t0 W
  have R := I.rg
  obtain ⟨o1, p1, t⟩ := hd_lt h0
  refine ⟨g0, ?_, F5, W0, mon O0 (fun k hk => by omega)⟩
  have ev' : pv w o p = w 6 (8 * o + p) := by unfold pv; rw [if_pos t]
  unfold fX11_page
  simp only [y_h W.1, if_true, e0, y_0 W0.1, Option.bind_some, y_isObject W0 R (show o < 4294967296 by omega), hd_ho R h0, m_isPage (h := g0) (show p < 4294967296 by omega), decide_eq_true p1, m_hd W0.2.2.1 R o1 p1, t]
  simp only [l_8, J_mul, J_add, ra_pg W0.2.2.1 o1 p1, Option.bind_some, ev']
theorem xm_page_no {o p : Nat} (W : MIv h tx len w un us kp ks ρ rn row hq sq) (I : INV w) (ho' : o < 4294967296) (hp' : p < 4294967296) (hn : ¬ hd w o p = true) : ∃ x h', fX11_page h 145 (J o) (J p) = some (x, h') ∧ gI h' 11 145 5 = some 1 ∧ MIv h' tx len w un us kp ks ρ rn row hq sq ∧ On PM0 h h' := by
  obtain ⟨g0, e0, W0, F5, O0⟩ := mi_t0 W
  have O0' : On PM0 h g0 := mon O0 (fun k hk => by omega)
  obtain ⟨g1, e1, W1, F51, O1⟩ := mi_lost W0
  have R := I.rg
  refine ⟨0, g1, ?_, F51, W1, O0'.trans (mon O1 (fun k hk => by omega))⟩
  have lo : fX11_page_J46 g0 145 = some (0, g1) := by
    unfold fX11_page_J46
    rw [e1, Option.bind_some]
  unfold fX11_page
  simp only [y_h W.1, if_true, e0, Option.bind_some, y_isObject W0 R ho', m_isPage (h := g0) hp', decide_eq_true_eq, y_0 W0.1]
  by_cases h0 : ho w o = true
  · obtain ⟨o1, o2⟩ := ho_lt h0
    rw [if_pos h0]
    by_cases p1 : p < 8
    · rw [if_pos p1, m_hd W0.2.2.1 R o1 p1, Option.bind_some]
      have t : ¬ (w 8 o).testBit p = true := fun t => hn (by
        unfold hd
        rw [decide_eq_true o1, decide_eq_true p1, t]
        rfl)
      rw [if_neg t, lo]
    · rw [if_neg p1, lo]
  · rw [if_neg h0, lo]
end CG
