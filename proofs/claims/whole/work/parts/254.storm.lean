/-! storms, sweeps -/
def smS (C : List Nat) (w : ST) (s : Nat) : Nat → ST
  | 0 => w
  | k + 1 => if frkN (smS C w s k) s < 6 then (wrA C (frkS (smS C w s k) s) (frkN (smS C w s k) s) 0 (frkN (smS C w s k) s)).2 else smS C w s k
def swS (C : List Nat) (w : ST) (s v : Nat) : Nat → ST
  | 0 => w
  | k + 1 => (wrA C (swS C w s v k) s k v).2
def swN (C : List Nat) (w : ST) (s v : Nat) : Nat → Nat
  | 0 => 0
  | k + 1 => swN C w s v k + (if wrN (swS C w s v k) s k = 0 then 0 else 1)
theorem smS_inv {C : List Nat} {w : ST} {s : Nat} (I : INV w) : ∀ k, INV (smS C w s k)
  | 0 => I
  | k + 1 => by
    have ih := smS_inv (C := C) (s := s) I k
    unfold smS
    split
    · rename_i z
      exact inv_wrA C (inv_frk ih ((frkN_ok ih.rg).1.mpr z))
    · exact ih
theorem swS_inv {C : List Nat} {w : ST} {s v : Nat} (I : INV w) : ∀ k, INV (swS C w s v k)
  | 0 => I
  | k + 1 => inv_wrA C (swS_inv I k)
theorem swS_hs {C : List Nat} {w : ST} {s v t : Nat} (I : INV w) : ∀ k, hs (swS C w s v k) t = hs w t
  | 0 => rfl
  | k + 1 => by
    have ih := swS_hs (C := C) (s := s) (v := v) (t := t) I k
    rw [← ih]
    exact hs_wrA (swS_inv I k)
theorem swN_le {C : List Nat} {w : ST} {s v : Nat} : ∀ k, swN C w s v k ≤ k
  | 0 => Nat.le_refl _
  | k + 1 => by
    have ih := swN_le (C := C) (w := w) (s := s) (v := v) k
    unfold swN
    split <;> omega
theorem rfK_eq {w : ST} {s : Nat} : (if hs w s = true then (if frS w < 6 then (if ¬ pgr w (w 0 s) = 0 ∧ ¬ frO w < 24 then 4294967290 else 0) else 4294967294) else 4294967295) = if frkN w s < 6 then 0 else frkN w s := by
  unfold frkN
  by_cases h0 : hs w s = true
  · simp only [if_pos h0]
    by_cases h1 : frS w < 6
    · simp only [if_pos h1]
      by_cases h2 : ¬ pgr w (w 0 s) = 0 ∧ ¬ frO w < 24
      · simp only [if_pos h2]
        rw [if_neg (by decide)]
      · simp only [if_neg h2]
        rw [if_pos h1]
    · simp only [if_neg h1]
      rw [if_neg (by decide)]
  · simp only [if_neg h0]
    rw [if_neg (by decide)]
theorem wrA_no {C : List Nat} {σ : ST} {s p v : Nat} (h0 : hs σ s = true) (hp : p < 8) (hv : v < 100) : ((wrA C σ s p v).1 < 2147483648 ↔ wrN σ s p = 0) ∧ ((wrA C σ s p v).1 < 4294967296) := by
  have rv := rfF_v σ s p
  have wl : wrN σ s p = 0 ∨ (4294967290 ≤ wrN σ s p ∧ wrN σ s p < 4294967296) := by
    unfold wrN
    split
    · split
      · omega
      · split <;> omega
    · omega
  unfold wrA
  rw [if_pos ⟨hv, h0, hp⟩]
  by_cases h1 : wrN σ s p = 0
  · rw [if_pos h1]
    have d := dep_le (σ := wrS C σ s p v) 24 (tp (wrS C σ s p v) s)
    refine ⟨⟨fun _ => h1, fun _ => ?_⟩, ?_⟩
    · show dep (wrS C σ s p v) 24 (tp (wrS C σ s p v) s) < 2147483648
      omega
    · show dep (wrS C σ s p v) 24 (tp (wrS C σ s p v) s) < 4294967296
      omega
  · rw [if_neg h1]
    by_cases h2 : wrN σ s p = 4294967293
    · rw [if_pos h2]
      refine ⟨⟨fun z => ?_, fun z => absurd z h1⟩, (show 4294967293 < 4294967296 by decide)⟩
      exact absurd z (show ¬ 4294967293 < 2147483648 by decide)
    · rw [if_neg h2]
      refine ⟨⟨fun z => ?_, fun z => absurd z h1⟩, by show wrN σ s p < _; omega⟩
      have z' : wrN σ s p < 2147483648 := z
      omega
def smA (C : List Nat) (w : ST) (s n : Nat) : Nat := if hs w s = true ∧ n ≤ 5 then tot (smS C w s n) 8 else 4294967295
def smR (C : List Nat) (w : ST) (s n : Nat) (row : List Int64) : List Int64 := if hs w s = true ∧ n ≤ 5 then [Int32.toInt64 (J (bc (smS C w s n 1 2))), Int32.toInt64 (J (bc (smS C w s n 1 1)))] else row
def swA (C : List Nat) (w : ST) (s v : Nat) : Nat := if hs w s = true ∧ v < 100 then dep (swS C w s v 8) 24 (tp (swS C w s v 8) s) else 4294967295
def swR (C : List Nat) (w : ST) (s v : Nat) (row : List Int64) : List Int64 := if hs w s = true ∧ v < 100 then [Int32.toInt64 (J (tot (swS C w s v 8) 8)), Int32.toInt64 (J (swN C w s v 8))] else row
section TT
variable {h g : AH} {mk : Nat} {tx : Nat → Nat} {len : Nat} {w : ST} {un : Nat} {us : Nat → ST} {kp : Nat → Bool} {ks : Nat → ST} {C : List Nat} {ρ : Nat → Nat} {rn : Nat} {row : List Int64} {hq : List (Nat × Nat)} {sq : List (Nat × Nat × Bool)}
/-- a try at a write in the trial, by the class -/
theorem ci_tryW {τ : ST} (W : CIk h mk tx len w un us kp ks C row hq sq) (T : WR h 11 τ) (I : INV τ) (gC : GR1 C) {s p v : Nat} (hs' : s < 4294967296) (hp' : p < 4294967296) (hv' : v < 4294967296) : ∃ g, fX9_writePage h 11 (J s) (J p) (J v) 123 = some (J (wrA C τ s p v).1, g) ∧ CIk g mk tx len w un us kp ks C row hq sq ∧ WR g 11 (wrA C τ s p v).2 ∧ On PC0 h g := by
  obtain ⟨c, b, K⟩ := T.wk
  obtain ⟨g, c2, b2, e, K2, U, O⟩ := c_write K I W.2.2.2.2.2.1 gC (by omega) hs' hp' hv'
  exact ⟨g, e, W.p11u O K2.wr.c1 U, K2.wr, lon O (fun k hk => by omega)⟩
theorem ci_frkW {τ : ST} (W : CIk h mk tx len w un us kp ks C row hq sq) (T : WR h 11 τ) (I : INV τ) {s : Nat} (hs' : s < 4294967296) : ∃ g, fX9_forkSpace h 11 (J s) = some (J (frkN τ s), g) ∧ CIk g mk tx len w un us kp ks C row hq sq ∧ WR g 11 (if frkN τ s < 6 then frkS τ s else τ) ∧ On PC0 h g := by
  obtain ⟨f1, f2, f3⟩ := frkN_ok (s := s) I.rg
  obtain ⟨c, b, K1⟩ := T.wk
  obtain ⟨g2, τ', e2, K2, O2, H2⟩ := c_fork K1 I.rg I.gr hs'
  have O2' := On.t11 O2
  have hτ : τ' = if frkN τ s < 6 then frkS τ s else τ := by
    rcases H2 with ⟨k1, k2⟩ | ⟨k1, k2, k3⟩
    · rw [if_pos (f1.mp k1)]; exact k2
    · rw [if_neg (fun z => k1 (f1.mpr z))]; exact k2
  have R2 := K2.wr
  rw [hτ] at R2
  exact ⟨g2, e2, W.p11 O2' K2.wr.c1, R2, lon O2' (fun k hk => by omega)⟩
theorem c_stormL (I : INV w) (gC : GR1 C) (K : AH → Nat → Option (Int32 × AH)) {s N : Nat} (hs' : s < 4294967296) (hN : N ≤ 5) : ∀ m q k h, CIk h mk tx len w un us kp ks C row hq sq → WR h 11 (smS C w s k) → k + m = N → m < q → ∃ h', fX10_storm_L35 K q h 0 (J s) (J N) (J k) = K h' 0 ∧ CIk h' mk tx len w un us kp ks C row hq sq ∧ WR h' 11 (smS C w s N) ∧ On PC0 h h'
  | 0, q + 1, k, h, W, R1, e, _ => by
    have : k = N := by omega
    subst this
    refine ⟨h, ?_, W, R1, On.rf⟩
    rw [fX10_storm_L35]
    simp (disch := omega) only [J_le]
    rw [if_pos (by omega)]
  | m + 1, q + 1, k, h, W, R1, e, hn => by
    have e1 : J k + 1 = J (k + 1) := by rw [l_1, J_add]
    have Ik := smS_inv (C := C) (s := s) I k
    obtain ⟨f1, f2, f3⟩ := frkN_ok (s := s) Ik.rg
    obtain ⟨g1, d1, W1, T1, O1⟩ := ci_frkW W R1 Ik hs'
    rw [fX10_storm_L35]
    simp (disch := omega) only [J_le, Option.bind_some, letF, e1, x_3 W.1, d1]
    rw [if_neg (by omega)]
    by_cases z : frkN (smS C w s k) s < 6
    · rw [if_pos z] at T1
      have ok := f1.mpr z
      obtain ⟨g2, d2, W2, T2, O2⟩ := ci_tryW W1 T1 (inv_frk Ik ok) gC (s := frkN (smS C w s k) s) (p := 0) (v := frkN (smS C w s k) s) (by omega) (by omega) (by omega)
      have es : smS C w s (k + 1) = (wrA C (frkS (smS C w s k) s) (frkN (smS C w s k) s) 0 (frkN (smS C w s k) s)).2 := by
        conv => lhs; unfold smS
        rw [if_pos z]
      obtain ⟨g3, d3, W3, T3, O3⟩ := c_stormL I gC K hs' hN m q (k + 1) g2 W2 (by rw [es]; exact T2) (by omega) (by omega)
      refine ⟨g3, ?_, W3, T3, (O1.trans O2).trans O3⟩
      rw [if_neg (fun y => by rw [l_0, J_lt (by omega) (by decide)] at y; omega)]
      simp only [x_3 W1.1, x_5 W1.1, Option.bind_some, l_0, d2]
      exact d3
    · rw [if_neg z] at T1
      have nk := f2 (fun y => z (f1.mp y))
      have es : smS C w s (k + 1) = smS C w s k := by
        conv => lhs; unfold smS
        rw [if_neg z]
      obtain ⟨g3, d3, W3, T3, O3⟩ := c_stormL I gC K hs' hN m q (k + 1) g1 W1 (by rw [es]; exact T1) (by omega) (by omega)
      refine ⟨g3, ?_, W3, T3, O1.trans O3⟩
      rw [if_pos (by rw [l_0, J_lt (by omega) (by decide)]; omega)]
      exact d3
theorem xc_storm (W : CIk h mk tx len w un us kp ks C row hq sq) (I : INV w) (gC : GR1 C) {s n : Nat} (hs' : s < 4294967296) (hn' : n < 4294967296) : ∃ h' mk', fX10_storm h 0 (J s) (J n) = some (J (smA C w s n), h') ∧ CIk h' mk' tx len w un us kp ks C (smR C w s n row) hq sq ∧ On PC0 h h' := by
  unfold fX10_storm smA smR
  simp (disch := omega) only [x_h W.1, if_true, x_2 W.1, x_3 W.1, Option.bind_some, c_hs W.2.2.1 I.rg]
  by_cases h0 : hs w s = true
  · rw [if_pos h0]
    by_cases h5 : n ≤ 5
    · simp only [if_pos (show hs w s = true ∧ n ≤ 5 from ⟨h0, h5⟩)]
      rw [if_neg (fun y => by rw [l_0, J_lt (by omega) (by decide)] at y; omega), if_pos (by rw [l_5, J_le (by omega) (by decide)]; omega)]
      obtain ⟨g1, e1, W1, R1, O1⟩ := ci_try W
      rw [e1, Option.bind_some]
      obtain ⟨g2, e2, W2, R2, O2⟩ := c_stormL I gC (fun h14 x13 =>
              (gR h14 10 x13 8).bind fun x15 =>
              (fX5_clear h14 x15).bind fun q16 =>
              (gR q16 10 x13 8).bind fun x17 =>
              (gR q16 10 x13 3).bind fun x18 =>
              (fX9_objectTotal q16 x18).bind fun q19 =>
              (fX5_add q16 x17 (Int32.toInt64 q19)).bind fun q20 =>
              (gR q20 10 x13 8).bind fun x21 =>
              (gR q20 10 x13 3).bind fun x22 =>
              (fX9_spaceTotal q20 x22).bind fun q23 =>
              (fX5_add q20 x21 (Int32.toInt64 q23)).bind fun q24 =>
              (gR q24 10 x13 3).bind fun x25 =>
              (fX9_frameTotal q24 x25).bind fun q26 =>
              some ((q26, q24))) hs' h5 n FU 0 g1 W1 R1 (by omega) (FU_gt (by omega))
      have In := smS_inv (C := C) (s := s) I n
      obtain ⟨g3, e3, W3, O3⟩ := ci_clr W2
      have R3 := R2.on O3 (fun k h1 h2 => by omega)
      obtain ⟨g4, e4, W4, O4⟩ := ci_add W3 (by simp) (Int32.toInt64 (J (bc (smS C w s n 1 2))))
      have R4 := R3.on O4 (fun k h1 h2 => by omega)
      obtain ⟨g5, e5, W5, O5⟩ := ci_add W4 (by simp) (Int32.toInt64 (J (bc (smS C w s n 1 1))))
      have R5 := R4.on O5 (fun k h1 h2 => by omega)
      refine ⟨g5, mk, ?_, W5, ((((lon O1 (fun k hk => by omega)).trans O2).trans (lon O3 (fun k hk => by omega))).trans (lon O4 (fun k hk => by omega))).trans (lon O5 (fun k hk => by omega))⟩
      have e2' : ∀ K : AH → Nat → Option (Int32 × AH), fX10_storm_L35 K FU g1 0 (J s) (J n) 0 = fX10_storm_L35 K FU g1 0 (J s) (J n) (J 0) := fun K => rfl
      rw [e2', e2]
      simp only [x_8 W2.1, Option.bind_some, e3, x_8 W3.1, x_3 W3.1, c_objectTotal R3 In.rg, e4, x_8 W4.1, x_3 W4.1, c_spaceTotal R4 In.rg, e5, x_3 W5.1, c_frameTotal R5 In.rg]
    · simp only [if_neg (show ¬ (hs w s = true ∧ n ≤ 5) from fun z => h5 z.2)]
      refine ⟨h, mk, ?_, W, On.rf⟩
      by_cases z : 2147483648 ≤ n
      · rw [if_pos (by rw [l_0, J_lt (by omega) (by decide)]; omega), m1_J]
      · rw [if_neg (fun y => by rw [l_0, J_lt (by omega) (by decide)] at y; omega), if_neg (fun y => by rw [l_5, J_le (by omega) (by decide)] at y; omega), m1_J]
  · simp only [if_neg h0, if_neg (show ¬ (hs w s = true ∧ n ≤ 5) from fun z => h0 z.1)]
    rw [m1_J]
    exact ⟨h, mk, rfl, W, On.rf⟩
theorem MIv.o155 {h' : AH} (W : MIv h tx len w un us kp ks ρ rn row hq sq) (O : Ot 155 (155 + 1) h h') {τ : ST} (R : RA h' 155 τ) : MIv h' tx len w un us kp ks ρ rn row hq sq ∧ On PM0 h h' := by
  have O' : On (fun k => k = 155) h h' := O.on1 rfl
  exact ⟨W.p155 O' R.cel, mon O' (fun k hk => by omega)⟩
theorem y_stormL (I : INV w) (L : RLR C ρ rn) (K : AH → Nat → Option (Int32 × AH)) {s N : Nat} (hs' : s < 4294967296) (hN : N ≤ 5) : ∀ m q k h, MIv h tx len w un us kp ks ρ rn row hq sq → RA h 155 (smS C w s k) → k + m = N → m < q → ∃ h', fX11_storm_L41 K q h 145 (J s) (J N) (J k) = K h' 145 ∧ MIv h' tx len w un us kp ks ρ rn row hq sq ∧ RA h' 155 (smS C w s N) ∧ On PM0 h h'
  | 0, q + 1, k, h, W, R1, e, _ => by
    have : k = N := by omega
    subst this
    refine ⟨h, ?_, W, R1, On.rf⟩
    rw [fX11_storm_L41]
    simp (disch := omega) only [J_le]
    rw [if_pos (by omega)]
  | m + 1, q + 1, k, h, W, R1, e, hn => by
    have e1 : J k + 1 = J (k + 1) := by rw [l_1, J_add]
    have Ik := smS_inv (C := C) (s := s) I k
    obtain ⟨f1, f2, f3⟩ := frkN_ok (s := s) Ik.rg
    have er := m_refK R1 Ik.rg Ik.gr hs'
    rw [rfK_eq] at er
    rw [fX11_storm_L41]
    simp (disch := omega) only [J_le, Option.bind_some, letF, e1, y_20 W.1, er]
    rw [if_neg (by omega)]
    by_cases z : frkN (smS C w s k) s < 6
    · have ok := f1.mpr z
      have ef := f3 ok
      obtain ⟨g1, d1, R2, O1⟩ := m_fork R1 Ik ok
      obtain ⟨W1, O1'⟩ := W.o155 O1 R2
      have hh := hs_frk Ik ok
      rw [← ef] at d1 hh
      obtain ⟨g2, d2, W2, T2, O2⟩ := mi_tryW W1 R2 (inv_frk Ik ok) L (p := 0) (v := frkN (smS C w s k) s) hh (by omega) (by omega)
      have es : smS C w s (k + 1) = (wrA C (frkS (smS C w s k) s) (frkN (smS C w s k) s) 0 (frkN (smS C w s k) s)).2 := by
        conv => lhs; unfold smS
        rw [if_pos z]
      obtain ⟨g3, d3, W3, T3, O3⟩ := y_stormL I L K hs' hN m q (k + 1) g2 W2 (by rw [es]; exact T2) (by omega) (by omega)
      refine ⟨g3, ?_, W3, T3, (O1'.trans (mon O2 (fun k hk => by omega))).trans O3⟩
      rw [if_pos z, if_pos (show (0 : Int32) ≤ J 0 by decide)]
      simp only [d1, y_20 W1.1, Option.bind_some, l_0, d2]
      exact d3
    · have nk := f2 (fun y => z (f1.mp y))
      have es : smS C w s (k + 1) = smS C w s k := by
        conv => lhs; unfold smS
        rw [if_neg z]
      obtain ⟨g3, d3, W3, T3, O3⟩ := y_stormL I L K hs' hN m q (k + 1) h W (by rw [es]; exact R1) (by omega) (by omega)
      refine ⟨g3, ?_, W3, T3, O3⟩
      rw [if_neg z, if_neg (fun y => by rw [l_0, J_le (by decide) (by omega)] at y; omega)]
      exact d3
theorem xm_storm (W : MIv h tx len w un us kp ks ρ rn row hq sq) (I : INV w) (L : RLR C ρ rn) {s n : Nat} (hs' : s < 4294967296) (hn' : n < 4294967296) : ∃ h', fX11_storm h 145 (J s) (J n) = some (J (smA C w s n), h') ∧ MIv h' tx len w un us kp ks ρ rn (smR C w s n row) hq sq ∧ On PM0 h h' := by
  obtain ⟨g0, e0, W0, -, O0⟩ := mi_t0 W
  have O0' : On PM0 h g0 := mon O0 (fun k hk => by omega)
  have i5 : fX11_in g0 (J n) 0 5 = some (decide (n ≤ 5)) := by
    rw [l_0, l_5, m_in hn' (by decide) (by decide), decide_eq_true (Nat.zero_le n), Bool.true_and]
  unfold fX11_storm smA smR
  simp only [y_h W.1, if_true, e0, y_0 W0.1, y_20 W0.1, Option.bind_some, m_hs W0.2.2.1 I.rg hs', i5, decide_eq_true_eq]
  by_cases h0 : hs w s = true
  · rw [if_pos h0]
    by_cases h5 : n ≤ 5
    · simp only [if_pos (show hs w s = true ∧ n ≤ 5 from ⟨h0, h5⟩)]
      rw [if_pos h5]
      obtain ⟨g1, e1, W1, R1, O1⟩ := mi_try W0
      rw [e1, Option.bind_some]
      obtain ⟨g2, e2, W2, R2, O2⟩ := y_stormL I L (fun h17 x16 =>
            (pF h17 11 x16 4 (.int 0)).bind fun h18 =>
            (gR h18 11 x16 20).bind fun x19 =>
            (fX11_objectsOf h18 x19).bind fun q20 =>
            (fJ6_bitCount_0f7a4 h18 q20).bind fun q21 =>
            (fX11_tell h18 x16 (Int32.toInt64 q21)).bind fun q22 =>
            (gR q22 11 x16 20).bind fun x23 =>
            (fX11_spacesOf q22 x23).bind fun q24 =>
            (fJ6_bitCount_0f7a4 q22 q24).bind fun q25 =>
            (fX11_tell q22 x16 (Int32.toInt64 q25)).bind fun q26 =>
            (gR q26 11 x16 20).bind fun x27 =>
            (fX11_framesOf q26 x27).bind fun q28 =>
            some ((q28, q26))) hs' h5 n FU 0 g1 W1 R1 (by omega) (FU_gt (by omega))
      have In := smS_inv (C := C) (s := s) I n
      have rg2 := In.rg.2.1
      obtain ⟨g3, e3, W3, O3⟩ := mi_clr W2
      have R3 := R2.on O3 (by decide)
      obtain ⟨g4, e4, W4, O4⟩ := mi_tell W3 (by simp) (Int32.toInt64 (J (bc (smS C w s n 1 2))))
      have R4 := R3.on O4 (by decide)
      obtain ⟨g5, e5, W5, O5⟩ := mi_tell W4 (by simp) (Int32.toInt64 (J (bc (smS C w s n 1 1))))
      have R5 := R4.on O5 (by decide)
      refine ⟨g5, ?_, W5, ((((O0'.trans (mon O1 (fun k hk => by omega))).trans O2).trans (mon O3 (fun k hk => by omega))).trans (mon O4 (fun k hk => by omega))).trans (mon O5 (fun k hk => by omega))⟩
      have e2' : ∀ K : AH → Nat → Option (Int32 × AH), fX11_storm_L41 K FU g1 145 (J s) (J n) 0 = fX11_storm_L41 K FU g1 145 (J s) (J n) (J 0) := fun K => rfl
      have b1 : fJ6_bitCount_0f7a4 g3 (J (smS C w s n 1 2)) = some (J (bc (smS C w s n 1 2))) := bc_J rg2.2.2.1
      have b2 : fJ6_bitCount_0f7a4 g4 (J (smS C w s n 1 1)) = some (J (bc (smS C w s n 1 1))) := bc_J (by omega)
      rw [e2', e2]
      rw [e3, Option.bind_some, y_20 W3.1, Option.bind_some, m_objects R3 In.rg, Option.bind_some, b1, Option.bind_some, e4, Option.bind_some, y_20 W4.1, Option.bind_some, m_spaces R4 In.rg, Option.bind_some, b2, Option.bind_some, e5, Option.bind_some, y_20 W5.1, Option.bind_some, m_frames R5 In.rg, Option.bind_some]
    · simp only [if_neg (show ¬ (hs w s = true ∧ n ≤ 5) from fun z => h5 z.2)]
      rw [if_neg h5, m1_J]
      exact ⟨g0, rfl, W0, O0'⟩
  · simp only [if_neg h0, if_neg (show ¬ (hs w s = true ∧ n ≤ 5) from fun z => h0 z.1)]
    rw [m1_J]
    exact ⟨g0, rfl, W0, O0'⟩
/-! sweeps -/
theorem c_sweepL (I : INV w) (gC : GR1 C) (K : AH → Nat → Int32 → Int32 → Option (Int32 × AH)) {s v : Nat} (h0 : hs w s = true) (hv : v < 100) : ∀ m q k h, CIk h mk tx len w un us kp ks C row hq sq → WR h 11 (swS C w s v k) → k + m = 8 → m < q → ∃ h', fX10_sweep_L36 K q h 0 (J s) (J v) (J (swN C w s v k)) (J k) = K h' 0 (J s) (J (swN C w s v 8)) ∧ CIk h' mk tx len w un us kp ks C row hq sq ∧ WR h' 11 (swS C w s v 8) ∧ On PC0 h h'
  | 0, q + 1, k, h, W, R1, e, _ => by
    have : k = 8 := by omega
    subst this
    refine ⟨h, ?_, W, R1, On.rf⟩
    rw [fX10_sweep_L36]
    simp (disch := omega) only [l_8, J_le]
    rw [if_pos (by omega)]
  | m + 1, q + 1, k, h, W, R1, e, hn => by
    have e1 : J k + 1 = J (k + 1) := by rw [l_1, J_add]
    have Ik := swS_inv (C := C) (s := s) (v := v) I k
    have hk : hs (swS C w s v k) s = true := by rw [swS_hs I]; exact h0
    have s6 := (hs_lt h0).1
    obtain ⟨a1, a2⟩ := wrA_no (C := C) hk (show k < 8 by omega) hv
    obtain ⟨g2, d2, W2, T2, O2⟩ := ci_tryW W R1 Ik gC (s := s) (p := k) (v := v) (by omega) (by omega) (by omega)
    obtain ⟨g3, d3, W3, T3, O3⟩ := c_sweepL I gC K h0 hv m q (k + 1) g2 W2 T2 (by omega) (by omega)
    refine ⟨g3, ?_, W3, T3, O2.trans O3⟩
    rw [fX10_sweep_L36]
    unfold fX10_sweep_J67
    simp (disch := omega) only [l_8, J_le, Option.bind_some, letF, e1, x_3 W.1, x_5 W.1, d2]
    rw [if_neg (by omega)]
    have en : swN C w s v (k + 1) = swN C w s v k + (if wrN (swS C w s v k) s k = 0 then 0 else 1) := rfl
    by_cases z : wrN (swS C w s v k) s k = 0
    · rw [en, if_pos z] at d3
      rw [if_pos (by rw [l_0, J_le (by decide) a2]; have := a1.mpr z; omega)]
      have : J (swN C w s v k) + 0 = J (swN C w s v k + 0) := by rw [l_0, J_add]
      rw [this]
      exact d3
    · rw [en, if_neg z] at d3
      rw [if_neg (fun y => by rw [l_0, J_le (by decide) a2] at y; exact z (a1.mp y.1))]
      have : J (swN C w s v k) + 1 = J (swN C w s v k + 1) := by rw [l_1, J_add]
      rw [this]
      exact d3
theorem xc_sweep (W : CIk h mk tx len w un us kp ks C row hq sq) (I : INV w) (gC : GR1 C) {s v : Nat} (hs' : s < 4294967296) (hv' : v < 4294967296) : ∃ h' mk', fX10_sweep h 0 (J s) (J v) = some (J (swA C w s v), h') ∧ CIk h' mk' tx len w un us kp ks C (swR C w s v row) hq sq ∧ On PC0 h h' := by
  unfold fX10_sweep swA swR
  simp (disch := omega) only [x_h W.1, if_true, x_2 W.1, x_3 W.1, Option.bind_some, c_hs W.2.2.1 I.rg, c_isValue, decide_eq_true_eq]
  by_cases h0 : hs w s = true
  · rw [if_pos h0]
    by_cases h5 : v < 100
    · simp only [if_pos (show hs w s = true ∧ v < 100 from ⟨h0, h5⟩)]
      rw [if_pos h5]
      obtain ⟨g1, e1, W1, R1, O1⟩ := ci_try W
      rw [e1, Option.bind_some]
      obtain ⟨g2, e2, W2, R2, O2⟩ := c_sweepL I gC (fun h15 x12 x13 x14 =>
            (gR h15 10 x12 8).bind fun x16 =>
            (fX5_clear h15 x16).bind fun q17 =>
            (gR q17 10 x12 8).bind fun x18 =>
            (gR q17 10 x12 3).bind fun x19 =>
            (fX9_frameTotal q17 x19).bind fun q20 =>
            (fX5_add q17 x18 (Int32.toInt64 q20)).bind fun q21 =>
            (gR q21 10 x12 8).bind fun x22 =>
            (fX5_add q21 x22 (Int32.toInt64 x14)).bind fun q23 =>
            (gR q23 10 x12 3).bind fun x24 =>
            (fX9_chainLength q23 x24 x13).bind fun q25 =>
            some ((q25, q23))) h0 h5 8 FU 0 g1 W1 R1 rfl (FU_gt (by decide))
      have In := swS_inv (C := C) (s := s) (v := v) I 8
      obtain ⟨g3, e3, W3, O3⟩ := ci_clr W2
      have R3 := R2.on O3 (fun k h1 h2 => by omega)
      obtain ⟨g4, e4, W4, O4⟩ := ci_add W3 (by simp) (Int32.toInt64 (J (tot (swS C w s v 8) 8)))
      have R4 := R3.on O4 (fun k h1 h2 => by omega)
      obtain ⟨g5, e5, W5, O5⟩ := ci_add W4 (by simp) (Int32.toInt64 (J (swN C w s v 8)))
      have R5 := R4.on O5 (fun k h1 h2 => by omega)
      refine ⟨g5, mk, ?_, W5, ((((lon O1 (fun k hk => by omega)).trans O2).trans (lon O3 (fun k hk => by omega))).trans (lon O4 (fun k hk => by omega))).trans (lon O5 (fun k hk => by omega))⟩
      have e2' : ∀ K : AH → Nat → Int32 → Int32 → Option (Int32 × AH), fX10_sweep_L36 K FU g1 0 (J s) (J v) 0 0 = fX10_sweep_L36 K FU g1 0 (J s) (J v) (J (swN C w s v 0)) (J 0) := fun K => rfl
      rw [e2', e2]
      simp only [x_8 W2.1, Option.bind_some, e3, x_8 W3.1, x_3 W3.1, c_frameTotal R3 In.rg, e4, x_8 W4.1, e5, x_3 W5.1, c_chain R5 In.rg hs']
    · simp only [if_neg (show ¬ (hs w s = true ∧ v < 100) from fun z => h5 z.2)]
      rw [if_neg h5, m1_J]
      exact ⟨h, mk, rfl, W, On.rf⟩
  · simp only [if_neg h0, if_neg (show ¬ (hs w s = true ∧ v < 100) from fun z => h0 z.1)]
    rw [m1_J]
    exact ⟨h, mk, rfl, W, On.rf⟩
theorem y_sweepL (I : INV w) (L : RLR C ρ rn) (K : AH → Nat → Int32 → Int32 → Option (Int32 × AH)) {s v : Nat} (h0 : hs w s = true) (hv : v < 100) : ∀ m q k h, MIv h tx len w un us kp ks ρ rn row hq sq → RA h 155 (swS C w s v k) → k + m = 8 → m < q → ∃ h', fX11_sweep_L45 K q h 145 (J s) (J v) (J (swN C w s v k)) (J k) = K h' 145 (J s) (J (swN C w s v 8)) ∧ MIv h' tx len w un us kp ks ρ rn row hq sq ∧ RA h' 155 (swS C w s v 8) ∧ On PM0 h h'
  | 0, q + 1, k, h, W, R1, e, _ => by
    have : k = 8 := by omega
    subst this
    refine ⟨h, ?_, W, R1, On.rf⟩
    rw [fX11_sweep_L45]
    simp (disch := omega) only [l_8, J_le]
    rw [if_pos (by omega)]
  | m + 1, q + 1, k, h, W, R1, e, hn => by
    have e1 : J k + 1 = J (k + 1) := by rw [l_1, J_add]
    have Ik := swS_inv (C := C) (s := s) (v := v) I k
    have hk : hs (swS C w s v k) s = true := by rw [swS_hs I]; exact h0
    obtain ⟨g2, d2, W2, T2, O2⟩ := mi_tryW W R1 Ik L hk (show k < 8 by omega) hv
    obtain ⟨g3, d3, W3, T3, O3⟩ := y_sweepL I L K h0 hv m q (k + 1) g2 W2 T2 (by omega) (by omega)
    refine ⟨g3, ?_, W3, T3, (mon O2 (fun k hk => by omega)).trans O3⟩
    rw [fX11_sweep_L45]
    unfold fX11_sweep_J73
    simp (disch := omega) only [l_8, J_le, Option.bind_some, letF, e1, y_20 W.1, d2, decide_eq_true_eq]
    rw [if_neg (by omega)]
    have en : swN C w s v (k + 1) = swN C w s v k + (if wrN (swS C w s v k) s k = 0 then 0 else 1) := rfl
    by_cases z : wrN (swS C w s v k) s k = 0
    · rw [en, if_pos z] at d3
      rw [if_pos z]
      have : J (swN C w s v k) + 0 = J (swN C w s v k + 0) := by rw [l_0, J_add]
      rw [this]
      exact d3
    · rw [en, if_neg z] at d3
      rw [if_neg z]
      have : J (swN C w s v k) + 1 = J (swN C w s v k + 1) := by rw [l_1, J_add]
      rw [this]
      exact d3
theorem xm_sweep (W : MIv h tx len w un us kp ks ρ rn row hq sq) (I : INV w) (L : RLR C ρ rn) {s v : Nat} (hs' : s < 4294967296) (hv' : v < 4294967296) : ∃ h', fX11_sweep h 145 (J s) (J v) = some (J (swA C w s v), h') ∧ MIv h' tx len w un us kp ks ρ rn (swR C w s v row) hq sq ∧ On PM0 h h' := by
  obtain ⟨g0, e0, W0, -, O0⟩ := mi_t0 W
  have O0' : On PM0 h g0 := mon O0 (fun k hk => by omega)
  have i5 : fX11_in g0 (J v) 0 99 = some (decide (v ≤ 99)) := by
    rw [l_0, l_99, m_in hv' (by decide) (by decide), decide_eq_true (Nat.zero_le v), Bool.true_and]
  unfold fX11_sweep swA swR
  simp only [y_h W.1, if_true, e0, y_0 W0.1, y_20 W0.1, Option.bind_some, m_hs W0.2.2.1 I.rg hs', i5, decide_eq_true_eq]
  by_cases h0 : hs w s = true
  · rw [if_pos h0]
    by_cases h5 : v < 100
    · simp only [if_pos (show hs w s = true ∧ v < 100 from ⟨h0, h5⟩)]
      rw [if_pos (by omega)]
      obtain ⟨g1, e1, W1, R1, O1⟩ := mi_try W0
      rw [e1, Option.bind_some]
      obtain ⟨g2, e2, W2, R2, O2⟩ := y_sweepL I L (fun h15 x12 x13 x14 =>
            (pF h15 11 x12 4 (.int 0)).bind fun h16 =>
            (gR h16 11 x12 20).bind fun x17 =>
            (fX11_framesOf h16 x17).bind fun q18 =>
            (fX11_tell h16 x12 (Int32.toInt64 q18)).bind fun q19 =>
            (fX11_tell q19 x12 (Int32.toInt64 x14)).bind fun q20 =>
            (gR q20 11 x12 20).bind fun x21 =>
            (fX11_lengthOf q20 x21 x13).bind fun q22 =>
            some ((q22, q20))) h0 h5 8 FU 0 g1 W1 R1 rfl (FU_gt (by decide))
      have In := swS_inv (C := C) (s := s) (v := v) I 8
      obtain ⟨g3, e3, W3, O3⟩ := mi_clr W2
      have R3 := R2.on O3 (by decide)
      obtain ⟨g4, e4, W4, O4⟩ := mi_tell W3 (by simp) (Int32.toInt64 (J (tot (swS C w s v 8) 8)))
      have R4 := R3.on O4 (by decide)
      obtain ⟨g5, e5, W5, O5⟩ := mi_tell W4 (by simp) (Int32.toInt64 (J (swN C w s v 8)))
      have R5 := R4.on O5 (by decide)
      refine ⟨g5, ?_, W5, ((((O0'.trans (mon O1 (fun k hk => by omega))).trans O2).trans (mon O3 (fun k hk => by omega))).trans (mon O4 (fun k hk => by omega))).trans (mon O5 (fun k hk => by omega))⟩
      have e2' : ∀ K : AH → Nat → Int32 → Int32 → Option (Int32 × AH), fX11_sweep_L45 K FU g1 145 (J s) (J v) 0 0 = fX11_sweep_L45 K FU g1 145 (J s) (J v) (J (swN C w s v 0)) (J 0) := fun K => rfl
      rw [e2', e2]
      rw [e3, Option.bind_some, y_20 W3.1, Option.bind_some, m_frames R3 In.rg, Option.bind_some, e4, Option.bind_some, e5, Option.bind_some, y_20 W5.1, Option.bind_some, m_len R5 In.rg In.gr (hs_lt h0).1, Option.bind_some]
    · simp only [if_neg (show ¬ (hs w s = true ∧ v < 100) from fun z => h5 z.2)]
      rw [if_neg (by omega), m1_J]
      exact ⟨g0, rfl, W0, O0'⟩
  · simp only [if_neg h0, if_neg (show ¬ (hs w s = true ∧ v < 100) from fun z => h0 z.1)]
    rw [m1_J]
    exact ⟨g0, rfl, W0, O0'⟩
end TT
