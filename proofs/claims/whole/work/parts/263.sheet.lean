/-! sheets -/
def clN (x : Int32) : Nat := if x < 9 then (if 0 < x then x.toBitVec.toNat else 0) else 9
theorem cl_ok (x : Int32) : jmax 0 (jmin 9 x) = J (clN x) ∧ clN x ≤ 9 := by
  unfold jmax jmin clN
  by_cases h1 : x < 9
  · rw [if_pos h1, if_pos h1]
    by_cases h2 : 0 < x
    · rw [if_pos h2, if_pos h2]
      refine ⟨(J_of x).symm, ?_⟩
      have hl : x.toBitVec.toNat < 4294967296 := x.toBitVec.isLt
      have e := J_of x
      generalize x.toBitVec.toNat = n at hl e
      rw [← e, l_9', J_lt hl (by decide)] at h1
      rcases h1 with h1 | h1
      · rw [← e] at h2
        have : ¬ J n < 0 := fun y => by
          have h3 := Int32.lt_trans h2 y
          exact absurd h3 Int32.lt_irrefl
        exact absurd ((J_neg0 hl).2 h1) this
      · omega
    · rw [if_neg h2, if_neg h2]
      exact ⟨rfl, by decide⟩
  · rw [if_neg h1, if_neg h1]
    exact ⟨rfl, Nat.le_refl _⟩
def enF (kind : Nat) (v : Int32) : Int32 := if kind = 0 then Int8.toInt32 (Int32.toInt8 v) else if kind = 1 then Int16.toInt32 (Int32.toInt16 v) else v
def dgF (kind n : Nat) (f step : Int32) (k : Nat) : Nat := if kind = 3 then 0 else if k < n then clN (enF kind (f + J k * step)) else 0
theorem dg_9 (kind n : Nat) (f step : Int32) (k : Nat) : dgF kind n f step k ≤ 9 := by
  unfold dgF
  split
  · exact Nat.zero_le _
  · split
    · exact (cl_ok _).2
    · exact Nat.zero_le _
def shT (kind n : Nat) (f step : Int32) (o : Nat) (q : ST × Nat × Nat) : ST × Nat × Nat := if ho q.1 o = true then (put q.1 3 o (dgF kind n f step q.2.1), q.2.1 + 1, q.2.2 + dgF kind n f step q.2.1) else q
def shS (kind n : Nat) (f step : Int32) (w : ST) : Nat → ST × Nat × Nat
  | 0 => (w, 0, 0)
  | o + 1 => shT kind n f step o (shS kind n f step w o)
theorem shS_i {kind n : Nat} {f step : Int32} {w : ST} (I : INV w) : ∀ o, INV (shS kind n f step w o).1 ∧ (shS kind n f step w o).2.1 ≤ o ∧ (shS kind n f step w o).2.2 ≤ 9 * o
  | 0 => ⟨I, Nat.le_refl _, Nat.le_refl _⟩
  | o + 1 => by
    obtain ⟨i1, i2, i3⟩ := shS_i (kind := kind) (n := n) (f := f) (step := step) I o
    have d9 := dg_9 kind n f step (shS kind n f step w o).2.1
    show INV (shT kind n f step o (shS kind n f step w o)).1 ∧ (shT kind n f step o (shS kind n f step w o)).2.1 ≤ o + 1 ∧ (shT kind n f step o (shS kind n f step w o)).2.2 ≤ 9 * (o + 1)
    unfold shT
    by_cases z : ho (shS kind n f step w o).1 o = true
    · rw [if_pos z]
      refine ⟨inv_dig i1 z d9, ?_, ?_⟩
      · show (shS kind n f step w o).2.1 + 1 ≤ o + 1
        omega
      · show (shS kind n f step w o).2.2 + dgF kind n f step (shS kind n f step w o).2.1 ≤ 9 * (o + 1)
        omega
    · rw [if_neg z]
      exact ⟨i1, by omega, by omega⟩
abbrev shO (kind n : Nat) : Prop := kind ≤ 3 ∧ (n ≤ 24 ∨ 2147483648 ≤ n)
def shD (kind n : Nat) : Bool := decide (shO kind n ∧ (kind = 3 ∨ n < 2147483648))
def shtA (kind n : Nat) (f step : Int32) (w : ST) : Nat := if shO kind n then (if kind = 3 then 4294967293 else if n < 2147483648 then (shS kind n f step w 24).2.2 else 4294967294) else 4294967295
def shW (kind n : Nat) (f step : Int32) (w : ST) : ST := if shD kind n = true then (shS kind n f step w 24).1 else w
theorem shW_inv {kind n : Nat} {f step : Int32} {w : ST} (I : INV w) : INV (shW kind n f step w) := by
  unfold shW
  split
  · exact (shS_i I 24).1
  · exact I
section SH
variable {h g : AH} {mk : Nat} {tx : Nat → Nat} {len : Nat} {w : ST} {un : Nat} {us : Nat → ST} {kp : Nat → Bool} {ks : Nat → ST} {C : List Nat} {ρ : Nat → Nat} {rn : Nat} {row : List Int64} {hq : List (Nat × Nat)} {sq : List (Nat × Nat × Bool)}
theorem c_shL {kind n ms : Nat} {f step : Int32} (hk : kind = 3 ∧ ms = 1 ∨ kind < 3 ∧ n ≤ 24 ∧ ms = 0) (I : INV w) : ∀ m q o h, CIk h mk tx len (shS kind n f step w o).1 un us kp ks C row hq sq → o + m = 24 → m < q → ∃ h', (∀ K : AH → Int32 → Int32 → Option (Int32 × AH), fX10_sheet_L50 K q h 0 (J kind) (J n) f step (J ms) (J (shS kind n f step w o).2.2) (J (shS kind n f step w o).2.1) (J o) = K h' (J ms) (J (shS kind n f step w 24).2.2)) ∧ CIk h' mk tx len (shS kind n f step w 24).1 un us kp ks C row hq sq ∧ On PC0 h h'
  | 0, q + 1, o, h, W, e, _ => by
    have eo : o = 24 := by omega
    rw [eo] at W ⊢
    refine ⟨h, fun K => ?_, W, On.rf⟩
    rw [fX10_sheet_L50, if_pos (by decide)]
  | m + 1, q + 1, o, h, W, e, hq' => by
    obtain ⟨Io, i2, i3⟩ := shS_i (kind := kind) (n := n) (f := f) (step := step) I o
    have es : shS kind n f step w (o + 1) = shT kind n f step o (shS kind n f step w o) := rfl
    have d9 := dg_9 kind n f step (shS kind n f step w o).2.1
    have e1 : J o + 1 = J (o + 1) := by rw [l_1, J_add]
    have hho := c_ho W.2.2.1 Io.rg (n := o) (by omega)
    by_cases z : ho (shS kind n f step w o).1 o = true
    · have es' : shS kind n f step w (o + 1) = (put (shS kind n f step w o).1 3 o (dgF kind n f step (shS kind n f step w o).2.1), (shS kind n f step w o).2.1 + 1, (shS kind n f step w o).2.2 + dgF kind n f step (shS kind n f step w o).2.1) := by
        rw [es]
        unfold shT
        rw [if_pos z]
      obtain ⟨c, b, K1⟩ := W.2.2.1.wk
      obtain ⟨g1, d1, K2, O1⟩ := c_setDigit K1 Io.rg (v := dgF kind n f step (shS kind n f step w o).2.1) z
      have O1' : On (fun k => 2 ≤ k ∧ k < 11) h g1 := O1.on (fun k h1 h2 => ⟨h1, h2⟩)
      have W1 := W.pw O1' K2.wr
      obtain ⟨g2, d2, W2, O2⟩ := c_shL hk I m q (o + 1) g1 (by rw [es']; exact W1) (by omega) (by omega)
      refine ⟨g2, fun K => ?_, W2, (lon O1' (fun k hk => by omega)).trans O2⟩
      have d2' := d2 K
      rw [es'] at d2'
      have a1 : J (shS kind n f step w o).2.1 + 1 = J ((shS kind n f step w o).2.1 + 1) := by rw [l_1, J_add]
      rw [fX10_sheet_L50, if_neg (fun y => by rw [l_24, J_le (by decide) (by omega)] at y; omega), x_2 W.1, Option.bind_some, hho, Option.bind_some, if_pos z]
      unfold fX10_sheet_J95
      rcases hk with ⟨k3, m1⟩ | ⟨k3, n24, m0⟩
      · have ed : dgF kind n f step (shS kind n f step w o).2.1 = 0 := by unfold dgF; rw [if_pos k3]
        rw [ed] at d1 d2'
        rw [if_neg (by rw [m1]; decide), x_2 W.1, Option.bind_some, l_0, d1, Option.bind_some]
        simp only [letF, e1, a1, J_add]
        exact d2'
      · rw [if_pos (by rw [m0]; rfl)]
        by_cases y : (shS kind n f step w o).2.1 < n
        · have ed : dgF kind n f step (shS kind n f step w o).2.1 = clN (enF kind (f + J (shS kind n f step w o).2.1 * step)) := by unfold dgF; rw [if_neg (by omega), if_pos y]
          have se : fX10_sheetEntry h (J kind) (f + J (shS kind n f step w o).2.1 * step) = some (J (clN (enF kind (f + J (shS kind n f step w o).2.1 * step)))) := by
            have c0 : J kind = 0 ↔ kind = 0 := by rw [l_0]; exact J_inj (by omega) (by decide)
            have c1 : J kind = 1 ↔ kind = 1 := by rw [l_1]; exact J_inj (by omega) (by decide)
            unfold fX10_sheetEntry fX10_sheetEntry_J20 fX10_clamp enF
            simp only [letF, Option.bind_some]
            by_cases k0 : kind = 0
            · rw [if_pos (c0.2 k0), if_pos k0, (cl_ok _).1]
            · rw [if_neg (fun y => k0 (c0.1 y)), if_neg k0]
              by_cases k1 : kind = 1
              · rw [if_pos (c1.2 k1), if_pos k1, (cl_ok _).1]
              · rw [if_neg (fun y => k1 (c1.1 y)), if_neg k1, (cl_ok _).1]
          rw [← ed] at se
          rw [if_neg (fun x => by rw [J_le (by omega) (by omega)] at x; omega), se, Option.bind_some, x_2 W.1, Option.bind_some, d1, Option.bind_some]
          simp only [letF, e1, a1, J_add]
          exact d2'
        · have ed : dgF kind n f step (shS kind n f step w o).2.1 = 0 := by unfold dgF; rw [if_neg (by omega), if_neg y]
          rw [ed] at d1 d2'
          rw [if_pos (by rw [J_le (by omega) (by omega)]; omega), x_2 W.1, Option.bind_some, l_0, d1, Option.bind_some]
          simp only [letF, e1, a1, J_add]
          exact d2'
    · have es' : shS kind n f step w (o + 1) = shS kind n f step w o := by
        rw [es]
        unfold shT
        rw [if_neg z]
      obtain ⟨g2, d2, W2, O2⟩ := c_shL hk I m q (o + 1) h (by rw [es']; exact W) (by omega) (by omega)
      refine ⟨g2, fun K => ?_, W2, O2⟩
      have d2' := d2 K
      rw [es'] at d2'
      rw [fX10_sheet_L50, if_neg (fun y => by rw [l_24, J_le (by decide) (by omega)] at y; omega), x_2 W.1, Option.bind_some, hho, Option.bind_some, if_neg z]
      simp only [letF, e1]
      exact d2'
theorem xc_sheet (W : CIk h mk tx len w un us kp ks C row hq sq) (I : INV w) {kind n : Nat} (f step : Int32) (hk' : kind < 4294967296) (hn' : n < 4294967296) : ∃ h' mk', fX10_sheet h 0 (J kind) (J n) f step = some (J (shtA kind n f step w), h') ∧ CIk h' mk' tx len (shW kind n f step w) un us kp ks C row hq sq ∧ On PC0 h h' := by
  have n0 : ∀ {x : Nat}, x < 4294967296 → (J x < 0 ↔ 2147483648 ≤ x) := fun hx => J_neg0 hx
  have nd : ¬ shO kind n → shD kind n = false := fun z => decide_eq_false (fun y => z y.1)
  have bad : ¬ shO kind n → ∃ h' mk', some (-1, h) = some (J (shtA kind n f step w), h') ∧ CIk h' mk' tx len (shW kind n f step w) un us kp ks C row hq sq ∧ On PC0 h h' := fun z => by
    unfold shtA shW
    rw [if_neg z, nd z, if_neg (by decide), m1_J]
    exact ⟨h, mk, rfl, W, On.rf⟩
  unfold fX10_sheet
  rw [if_pos (x_h W.1)]
  by_cases h1 : kind ≤ 3
  · rw [if_neg (fun y => by have := (n0 hk').1 y; omega), if_neg (fun y => by rw [l_3, J_lt (by decide) (by omega)] at y; omega)]
    by_cases h2 : n ≤ 24 ∨ 2147483648 ≤ n
    · rw [if_pos (by
        by_cases q : 2147483648 ≤ n
        · have := (n0 hn').2 q
          exact Int32.le_of_lt (Int32.lt_trans this (by decide))
        · rw [l_24, J_le (by omega) (by decide)]; omega)]
      have ok : shO kind n := ⟨h1, h2⟩
      unfold shtA shW
      rw [if_pos ok]
      by_cases k3 : kind = 3
      · have dd : shD kind n = true := decide_eq_true ⟨ok, Or.inl k3⟩
        rw [if_pos k3, dd, if_pos rfl, if_pos (by rw [k3]; rfl)]
        obtain ⟨g1, e1, W1, O1⟩ := c_shL (kind := kind) (n := n) (ms := 1) (f := f) (step := step) (Or.inl ⟨k3, rfl⟩) I 24 FU 0 h W rfl (FU_gt (by decide))
        refine ⟨g1, mk, ?_, W1, O1⟩
        unfold fX10_sheet_J27 fX10_sheet_J41
        rw [if_neg (by decide)]
        refine Eq.trans (e1 _) ?_
        rw [if_neg (by decide)]
        rfl
      · rw [if_neg k3, if_neg (fun y => k3 (by rw [l_3] at y; exact (J_inj (by omega) (by decide)).1 y))]
        unfold fX10_sheet_J27
        rw [if_pos rfl]
        by_cases h3 : n < 2147483648
        · have dd : shD kind n = true := decide_eq_true ⟨ok, Or.inr h3⟩
          rw [if_pos h3, dd, if_pos rfl, if_pos (by rw [l_0, J_le (by decide) (by omega)]; omega)]
          obtain ⟨g1, e1, W1, O1⟩ := c_shL (kind := kind) (n := n) (ms := 0) (f := f) (step := step) (Or.inr ⟨by omega, by omega, rfl⟩) I 24 FU 0 h W rfl (FU_gt (by decide))
          refine ⟨g1, mk, ?_, W1, O1⟩
          unfold fX10_sheet_J41
          refine Eq.trans (e1 _) ?_
          rw [if_pos (show J 0 = 0 from rfl)]
        · have dd : shD kind n = false := decide_eq_false (fun y => y.2.elim k3 h3)
          rw [if_neg h3, dd, if_neg (show ¬ false = true by decide), if_neg (fun y => by rw [l_0, J_le (by decide) (by omega)] at y; omega)]
          exact ⟨h, mk, rfl, W, On.rf⟩
    · rw [if_neg (fun y => by rw [l_24, J_le (by omega) (by decide)] at y; omega)]
      exact bad (fun z => h2 z.2)
  · by_cases q : 2147483648 ≤ kind
    · rw [if_pos ((n0 hk').2 q)]
      exact bad (fun z => h1 z.1)
    · rw [if_neg (fun z => q ((n0 hk').1 z)), if_pos (by rw [l_3, J_lt (by decide) (by omega)]; omega)]
      exact bad (fun z => h1 z.1)
theorem y_shL {kind n : Nat} {f step : Int32} (hk : kind = 3 ∨ kind < 3 ∧ n ≤ 24) (I : INV w) : ∀ m q o h, MIv h tx len (shS kind n f step w o).1 un us kp ks ρ rn row hq sq → o + m = 24 → m < q → ∃ h', (∀ K : AH → Int32 → Int32 → Option (Int32 × AH), fX11_sheet_L46 K q h 145 (J kind) (J n) step (f + J (shS kind n f step w o).2.1 * step) (J (shS kind n f step w o).2.1) (J (shS kind n f step w o).2.2) (J o) = K h' (J kind) (J (shS kind n f step w 24).2.2)) ∧ MIv h' tx len (shS kind n f step w 24).1 un us kp ks ρ rn row hq sq ∧ On PM0 h h'
  | 0, q + 1, o, h, W, e, _ => by
    have eo : o = 24 := by omega
    rw [eo] at W ⊢
    refine ⟨h, fun K => ?_, W, On.rf⟩
    rw [fX11_sheet_L46, if_pos (by decide)]
  | m + 1, q + 1, o, h, W, e, hq' => by
    obtain ⟨Io, i2, i3⟩ := shS_i (kind := kind) (n := n) (f := f) (step := step) I o
    have es : shS kind n f step w (o + 1) = shT kind n f step o (shS kind n f step w o) := rfl
    have d9 := dg_9 kind n f step (shS kind n f step w o).2.1
    have e1 : J o + 1 = J (o + 1) := by rw [l_1, J_add]
    have o24 : o < 24 := by omega
    have hth := m_there W.2.2.1 Io.rg o24
    have hoe : ho (shS kind n f step w o).1 o = decide ((shS kind n f step w o).1 2 o < 4) := by
      unfold ho
      rw [decide_eq_true o24, Bool.true_and]
    rw [← hoe] at hth
    by_cases z : ho (shS kind n f step w o).1 o = true
    · have es' : shS kind n f step w (o + 1) = (put (shS kind n f step w o).1 3 o (dgF kind n f step (shS kind n f step w o).2.1), (shS kind n f step w o).2.1 + 1, (shS kind n f step w o).2.2 + dgF kind n f step (shS kind n f step w o).2.1) := by
        rw [es]
        unfold shT
        rw [if_pos z]
      obtain ⟨g1, d1, R1, O1⟩ := rw_dg W.2.2.1 o24 (dgF kind n f step (shS kind n f step w o).2.1)
      have O1' : On (fun k => k = 146) h g1 := O1.on1 rfl
      have W1 := W.pw O1' R1
      have rd : aI g1 0 146 (J (240 + o)) = some (J (dgF kind n f step (shS kind n f step w o).2.1)) := by rw [ra_dg R1 o24, put_eq]
      obtain ⟨g2, d2, W2, O2⟩ := y_shL hk I m q (o + 1) g1 (by rw [es']; exact W1) (by omega) (by omega)
      refine ⟨g2, fun K => ?_, W2, (mon O1' (fun k hk => by omega)).trans O2⟩
      have d2' := d2 K
      rw [es'] at d2'
      have a1 : J (shS kind n f step w o).2.1 + 1 = J ((shS kind n f step w o).2.1 + 1) := by rw [l_1, J_add]
      have av : f + J (shS kind n f step w o).2.1 * step + step = f + J ((shS kind n f step w o).2.1 + 1) * step := by
        rw [← a1, Int32.add_mul, Int32.one_mul, Int32.add_assoc]
      have key : ∀ (K' : AH → Nat → Int32 → Int32 → Int32 → Int32 → Int32 → Int32 → Int32 → Option (Int32 × AH)), fX11_sheet_J91 K' h 145 (J kind) (J n) step (f + J (shS kind n f step w o).2.1 * step) (J (shS kind n f step w o).2.1) (J (shS kind n f step w o).2.2) (J o) (enF kind (f + J (shS kind n f step w o).2.1 * step)) = K' g1 145 (J kind) (J n) step (f + J ((shS kind n f step w o).2.1 + 1) * step) (J ((shS kind n f step w o).2.1 + 1)) (J ((shS kind n f step w o).2.2 + dgF kind n f step (shS kind n f step w o).2.1)) (J o) := by
        intro K'
        have j129 : fX11_sheet_J129 K' h 145 (J kind) (J n) step (f + J (shS kind n f step w o).2.1 * step) (J (shS kind n f step w o).2.1) (J (shS kind n f step w o).2.2) (J o) (J (dgF kind n f step (shS kind n f step w o).2.1)) (240 + J o) 146 = K' g1 145 (J kind) (J n) step (f + J ((shS kind n f step w o).2.1 + 1) * step) (J ((shS kind n f step w o).2.1 + 1)) (J ((shS kind n f step w o).2.2 + dgF kind n f step (shS kind n f step w o).2.1)) (J o) := by
          unfold fX11_sheet_J129
          rw [l_240, J_add, d1, Option.bind_some, y_0 W1.1, Option.bind_some, rd, Option.bind_some]
          simp only [letF, a1, av, J_add]
        unfold fX11_sheet_J91
        rw [y_0 W.1, Option.bind_some]
        rcases hk with k3 | ⟨k3, n24⟩
        · have ed : dgF kind n f step (shS kind n f step w o).2.1 = 0 := by unfold dgF; rw [if_pos k3]
          rw [if_pos (by rw [k3]; rfl)]
          rw [ed] at j129
          rw [ed]
          exact j129
        · rw [if_neg (fun y => by rw [l_3, J_inj (by omega) (by decide)] at y; omega)]
          by_cases y : (shS kind n f step w o).2.1 < n
          · have ed : dgF kind n f step (shS kind n f step w o).2.1 = clN (enF kind (f + J (shS kind n f step w o).2.1 * step)) := by unfold dgF; rw [if_neg (by omega), if_pos y]
            rw [if_pos (by rw [J_lt (by omega) (by omega)]; omega), (cl_ok _).1, ← ed]
            exact j129
          · have ed : dgF kind n f step (shS kind n f step w o).2.1 = 0 := by unfold dgF; rw [if_neg (by omega), if_neg y]
            rw [if_neg (fun x => by rw [J_lt (by omega) (by omega)] at x; omega)]
            rw [ed] at j129
            rw [ed]
            exact j129
      rw [fX11_sheet_L46, if_neg (fun y => by rw [l_24, J_le (by decide) (by omega)] at y; omega), y_0 W.1, Option.bind_some, hth, Option.bind_some, if_pos z]
      have c0 : J kind = 0 ↔ kind = 0 := by rw [l_0]; exact J_inj (by omega) (by decide)
      have c1 : J kind = 1 ↔ kind = 1 := by rw [l_1]; exact J_inj (by omega) (by decide)
      unfold enF at key
      by_cases k0 : kind = 0
      · simp only [if_pos k0] at key
        rw [if_pos (c0.2 k0), key]
        simp only [letF, e1]
        exact d2'
      · simp only [if_neg k0] at key
        rw [if_neg (fun y => k0 (c0.1 y))]
        by_cases k1 : kind = 1
        · simp only [if_pos k1] at key
          rw [if_pos (c1.2 k1), key]
          simp only [letF, e1]
          exact d2'
        · simp only [if_neg k1] at key
          rw [if_neg (fun y => k1 (c1.1 y)), key]
          simp only [letF, e1]
          exact d2'
    · have es' : shS kind n f step w (o + 1) = shS kind n f step w o := by
        rw [es]
        unfold shT
        rw [if_neg z]
      obtain ⟨g2, d2, W2, O2⟩ := y_shL hk I m q (o + 1) h (by rw [es']; exact W) (by omega) (by omega)
      refine ⟨g2, fun K => ?_, W2, O2⟩
      have d2' := d2 K
      rw [es'] at d2'
      rw [fX11_sheet_L46, if_neg (fun y => by rw [l_24, J_le (by decide) (by omega)] at y; omega), y_0 W.1, Option.bind_some, hth, Option.bind_some, if_neg z]
      simp only [letF, e1]
      exact d2'
theorem xm_sheet (W : MIv h tx len w un us kp ks ρ rn row hq sq) (I : INV w) {kind n : Nat} (f step : Int32) (hk' : kind < 4294967296) (hn' : n < 4294967296) : ∃ h', fX11_sheet h 145 (J kind) (J n) f step = some (J (shtA kind n f step w), h') ∧ MIv h' tx len (shW kind n f step w) un us kp ks ρ rn row hq sq ∧ On PM0 h h' := by
  obtain ⟨g0, e0, W0, -, O0⟩ := mi_t0 W
  have O0' : On PM0 h g0 := mon O0 (fun k hk => by omega)
  have n0 : ∀ {x : Nat}, x < 4294967296 → (J x < 0 ↔ 2147483648 ≤ x) := fun hx => J_neg0 hx
  have i1 : fX11_in g0 (J kind) 0 3 = some (decide (kind ≤ 3)) := by
    rw [l_0, l_3, m_in hk' (by decide) (by decide), decide_eq_true (Nat.zero_le kind), Bool.true_and]
  have f0 : f + J 0 * step = f := by
    rw [← l_0, Int32.zero_mul, Int32.add_zero]
  have nd : ¬ shO kind n → shD kind n = false := fun z => decide_eq_false (fun y => z y.1)
  have bad : ¬ shO kind n → ∃ h', some (-1, g0) = some (J (shtA kind n f step w), h') ∧ MIv h' tx len (shW kind n f step w) un us kp ks ρ rn row hq sq ∧ On PM0 h h' := fun z => by
    unfold shtA shW
    rw [if_neg z, nd z, if_neg (by decide), m1_J]
    exact ⟨g0, rfl, W0, O0'⟩
  unfold fX11_sheet
  rw [if_pos (y_h W.1), e0, Option.bind_some, i1, Option.bind_some]
  by_cases h1 : kind ≤ 3
  · rw [if_pos (decide_eq_true h1)]
    by_cases h2 : n ≤ 24 ∨ 2147483648 ≤ n
    · rw [if_pos (by
        by_cases q : 2147483648 ≤ n
        · have := (n0 hn').2 q
          exact Int32.le_of_lt (Int32.lt_trans this (by decide))
        · rw [l_24, J_le (by omega) (by decide)]; omega)]
      have ok : shO kind n := ⟨h1, h2⟩
      unfold shtA shW
      rw [if_pos ok]
      by_cases k3 : kind = 3
      · have dd : shD kind n = true := decide_eq_true ⟨ok, Or.inl k3⟩
        rw [if_pos k3, dd, if_pos rfl, if_pos (by rw [k3]; decide)]
        obtain ⟨g1, e1, W1, O1⟩ := y_shL (kind := kind) (n := n) (f := f) (step := step) (Or.inl k3) I 24 FU 0 g0 W0 rfl (FU_gt (by decide))
        refine ⟨g1, ?_, W1, O0'.trans O1⟩
        unfold fX11_sheet_J34
        have e1' := e1 (fun h43 x41 x42 => if x41 = 3 then (some (((-3), h43))) else (some ((x42, h43))))
        have z0 : f + J (shS kind n f step w 0).2.1 * step = f := f0
        rw [z0] at e1'
        refine Eq.trans e1' ?_
        rw [if_pos (by rw [k3]; rfl)]
        rfl
      · rw [if_neg k3, if_neg (fun y => by rw [l_3, J_le (by decide) (by omega)] at y; omega)]
        by_cases h3 : n < 2147483648
        · have dd : shD kind n = true := decide_eq_true ⟨ok, Or.inr h3⟩
          rw [if_pos h3, dd, if_pos rfl, if_pos (by rw [l_0, J_le (by decide) (by omega)]; omega)]
          obtain ⟨g1, e1, W1, O1⟩ := y_shL (kind := kind) (n := n) (f := f) (step := step) (Or.inr ⟨by omega, by omega⟩) I 24 FU 0 g0 W0 rfl (FU_gt (by decide))
          refine ⟨g1, ?_, W1, O0'.trans O1⟩
          unfold fX11_sheet_J34
          have e1' := e1 (fun h43 x41 x42 => if x41 = 3 then (some (((-3), h43))) else (some ((x42, h43))))
          have z0 : f + J (shS kind n f step w 0).2.1 * step = f := f0
          rw [z0] at e1'
          refine Eq.trans e1' ?_
          rw [if_neg (fun y => k3 (by rw [l_3] at y; exact (J_inj (by omega) (by decide)).1 y))]
        · have dd : shD kind n = false := decide_eq_false (fun y => y.2.elim k3 h3)
          rw [if_neg h3, dd, if_neg (show ¬ false = true by decide), if_neg (fun y => by rw [l_0, J_le (by decide) (by omega)] at y; omega)]
          exact ⟨g0, rfl, W0, O0'⟩
    · rw [if_neg (fun y => by rw [l_24, J_le (by omega) (by decide)] at y; omega)]
      exact bad (fun z => h2 z.2)
  · rw [if_neg (fun y => h1 (of_decide_eq_true y))]
    exact bad (fun z => h1 z.1)
end SH
