/-! what two spaces share -/
theorem m_frameOf {h : AH} {A : Nat} {σ : ST} (W : RA h A σ) (R : RG σ) (G : GR σ) {s p : Nat} (hs6 : s < 6) (hp : p < 8) : fX11_frameOf h A (J s) (J p) = some (J (nn (fir σ s p))) := by
  have fl := fir_len R G s p
  have c := chn_tp R G s
  have d1 := dep_le (σ := σ) 24 (tp σ s)
  have d2 := plh_le (σ := σ) (p := p) 24 (tp σ s)
  unfold fX11_frameOf
  simp only [m_place W R G hs6 hp, m_len W R G hs6, Option.bind_some]
  have hji : J (plh σ p 24 (tp σ s)) = J (dep σ 24 (tp σ s)) ↔ plh σ p 24 (tp σ s) = dep σ 24 (tp σ s) := J_inj (by omega) (by omega)
  simp only [hji]
  by_cases e : plh σ p 24 (tp σ s) = dep σ 24 (tp σ s)
  · rw [if_pos e, fl.2.1 e, nn_24, m1_J]
  · rw [if_neg e, m_at W R G hs6 (by omega), Option.bind_some]
    have : itr σ (plh σ p 24 (tp σ s)) (tp σ s) = fir σ s p := itr_fh 24 _ c
    rw [this]
theorem fir_no {σ : ST} {s : Nat} (p : Nat) (h0 : ¬ hs σ s = true) (R : RG σ) : fir σ s p = 24 := by
  have : tp σ s = 24 := by
    unfold tp
    by_cases z : s < 6
    · rw [if_pos z]
      have := R.1 s z
      by_cases z2 : σ 0 s < 24
      · exact absurd (by unfold hs; rw [decide_eq_true z, decide_eq_true z2]; rfl) h0
      · omega
    · rw [if_neg z]
  unfold fir
  rw [this, fh_24]
def a2B (w : ST) (a b : Nat) : Bool := hs w a && (hs w b && decide (a ≠ b))
theorem a2B_t {w : ST} {a b : Nat} (e : a2B w a b = true) : hs w a = true ∧ hs w b = true ∧ a ≠ b := by
  unfold a2B at e
  simp only [Bool.and_eq_true, decide_eq_true_eq] at e
  exact e
section CH
variable {h g : AH} {mk : Nat} {tx : Nat → Nat} {len : Nat} {w : ST} {un : Nat} {us : Nat → ST} {kp : Nat → Bool} {ks : Nat → ST} {C : List Nat} {ρ : Nat → Nat} {rn : Nat} {row : List Int64} {hq : List (Nat × Nat)} {sq : List (Nat × Nat × Bool)}
theorem c_areTwo (W : CIk h mk tx len w un us kp ks C row hq sq) (I : INV w) {a b : Nat} (ha : a < 4294967296) (hb : b < 4294967296) : fX10_areTwo h 0 (J a) (J b) = some (a2B w a b) := by
  have R := I.rg
  unfold fX10_areTwo a2B
  rw [if_pos (x_h W.1)]
  simp only [J_inj ha hb, x_2 W.1, Option.bind_some, c_hs W.2.2.1 R ha, c_hs W.2.2.1 R hb]
  by_cases e : a = b
  · rw [if_pos e, decide_eq_false (show ¬ a ≠ b from fun z => z e), Bool.and_false, Bool.and_false]
  · rw [if_neg e, decide_eq_true (show a ≠ b from e), Bool.and_true]
    cases hs w a <;> cases hs w b <;> rfl
theorem y_areTwo (W : MIv h tx len w un us kp ks ρ rn row hq sq) (I : INV w) {a b : Nat} (ha : a < 4294967296) (hb : b < 4294967296) : fX11_areTwo h 145 (J a) (J b) = some (a2B w a b) := by
  have R := I.rg
  unfold fX11_areTwo a2B
  rw [if_pos (y_h W.1)]
  simp only [J_inj ha hb, y_0 W.1, Option.bind_some, m_hs W.2.2.1 R ha, m_hs W.2.2.1 R hb]
  by_cases e : a = b
  · rw [if_pos e, decide_eq_false (show ¬ a ≠ b from fun z => z e), Bool.and_false, Bool.and_false]
    cases hs w a <;> cases hs w b <;> rfl
  · rw [if_neg e, decide_eq_true (show a ≠ b from e), Bool.and_true]
    cases hs w a <;> cases hs w b <;> rfl
def shB (w : ST) (a b : Nat) : Nat → Bool := fun p => decide (fir w a p ≠ 24 ∧ fir w a p = fir w b p)
def shA (w : ST) (a b : Nat) : Nat := if a2B w a b = true then bts (shB w a b) 8 else 4294967295
def shR (w : ST) (a b : Nat) (row : List Int64) : List Int64 := if a2B w a b = true then [Int32.toInt64 (J (bc (bts (shB w a b) 8)))] else row
theorem xc_shared (W : CIk h mk tx len w un us kp ks C row hq sq) (I : INV w) {a b : Nat} (ha : a < 4294967296) (hb : b < 4294967296) : ∃ h' mk', fX10_shared h 0 (J a) (J b) = some (J (shA w a b), h') ∧ CIk h' mk' tx len w un us kp ks C (shR w a b row) hq sq ∧ On PC0 h h' := by
  have R := I.rg
  have hl := bts_lt (shB w a b) 8
  unfold fX10_shared shA shR
  rw [if_pos (x_h W.1), c_areTwo W I ha hb, Option.bind_some]
  by_cases e2 : a2B w a b = true
  · rw [if_pos e2, if_pos e2, if_pos e2]
    obtain ⟨g1, e1, W1, O1⟩ := c_tellSet W (n := bts (shB w a b) 8) (by omega)
    refine ⟨g1, mk, ?_, W1, O1⟩
    have key : ∀ K : AH → Nat → Int32 → Option (Int32 × AH), fX10_shared_L16 K FU h 0 (J a) (J b) (J 0) (J 0) = K h 0 (J (bts (shB w a b) 8)) := fun K =>
      loop_rec (fun q k c => fX10_shared_L16 K q h 0 (J a) (J b) (J c) (J k)) 8 (bts (shB w a b)) _ (fun q k hk => by
        have f1 := fir_le (σ := w) a k
        have f2 := fir_le (σ := w) b k
        have ea : fX9_firstHolder h 2 (J a) (J k) = some (J (fir w a k)) := c_fh W.2.2.1 R ha (by omega)
        have eb : fX9_firstHolder h 2 (J b) (J k) = some (J (fir w b k)) := c_fh W.2.2.1 R hb (by omega)
        try dsimp only
        rw [fX10_shared_L16]
        simp (disch := omega) only [l_8, J_le, x_2 W.1, Option.bind_some, ea, eb, l_24, J_inj]
        rw [if_neg (by omega)]
        have e1 : J k + 1 = J (k + 1) := by rw [l_1, J_add]
        simp only [letF, e1]
        conv => rhs; unfold bts
        unfold shB
        by_cases z : fir w a k = 24
        · rw [if_pos z, if_neg (by simp [z])]
        · rw [if_neg z]
          by_cases z2 : fir w a k = fir w b k
          · rw [if_pos z2, if_pos (decide_eq_true ⟨z, z2⟩), J_bset _ (by omega)]
          · rw [if_neg z2, if_neg (fun y => z2 (of_decide_eq_true y).2)]) (fun q => by
        try dsimp only
        rw [fX10_shared_L16]
        simp (disch := omega) only [l_8, J_le]
        rw [if_pos (by omega)]) 8 FU 0 rfl (FU_gt (by decide))
    rw [l_0, key, e1]
    rfl
  · rw [if_neg e2, if_neg e2, if_neg e2, m1_J]
    exact ⟨h, mk, rfl, W, On.rf⟩
theorem xm_shared (W : MIv h tx len w un us kp ks ρ rn row hq sq) (I : INV w) {a b : Nat} (ha : a < 4294967296) (hb : b < 4294967296) : ∃ h', fX11_shared h 145 (J a) (J b) = some (J (shA w a b), h') ∧ MIv h' tx len w un us kp ks ρ rn (shR w a b row) hq sq ∧ On PM0 h h' := by
  have R := I.rg
  have G := I.gr
  have hl := bts_lt (shB w a b) 8
  obtain ⟨g0, e0, W0, -, O0⟩ := mi_t0 W
  have O0' : On PM0 h g0 := mon O0 (fun k hk => by omega)
  unfold fX11_shared shA shR
  rw [if_pos (y_h W.1), e0, Option.bind_some, y_areTwo W0 I ha hb, Option.bind_some]
  by_cases e2 : a2B w a b = true
  · rw [if_pos e2, if_pos e2, if_pos e2]
    obtain ⟨q1, q2, q3⟩ := a2B_t e2
    obtain ⟨g1, e1, W1, O1⟩ := m_tellBits W0 (n := bts (shB w a b) 8) (by omega)
    refine ⟨g1, ?_, W1, O0'.trans O1⟩
    have key : ∀ K : AH → Nat → Int32 → Option (Int32 × AH), fX11_shared_L21 K FU g0 145 (J a) (J b) (J 0) (J 0) = K g0 145 (J (bts (shB w a b) 8)) := fun K =>
      loop_rec (fun q k c => fX11_shared_L21 K q g0 145 (J a) (J b) (J c) (J k)) 8 (bts (shB w a b)) _ (fun q k hk => by
        have f1 := fir_le (σ := w) a k
        have f2 := fir_le (σ := w) b k
        have n1 := nn_lt f1
        have n2 := nn_lt f2
        try dsimp only
        rw [fX11_shared_L21]
        simp (disch := omega) only [l_8, J_le, y_0 W0.1, Option.bind_some, m_frameOf W0.2.2.1 R G (hs_lt q1).1 hk, m_frameOf W0.2.2.1 R G (hs_lt q2).1 hk, m1_J, J_inj]
        rw [if_neg (by omega)]
        unfold fX11_shared_J74
        have e1 : J k + 1 = J (k + 1) := by rw [l_1, J_add]
        simp only [letF, e1]
        conv => rhs; unfold bts
        unfold shB
        by_cases z : fir w a k = 24
        · rw [if_pos ((nn_m1 f1).2 z), if_neg (by simp [z]), l_0, J_or0]
        · rw [if_neg (fun y => z ((nn_m1 f1).1 y))]
          by_cases z2 : fir w a k = fir w b k
          · rw [if_pos (by rw [z2]), if_pos (decide_eq_true ⟨z, z2⟩), J_bset _ (by omega)]
          · have z3 : ¬ nn (fir w a k) = nn (fir w b k) := fun y => by
              have t1 : nn (fir w a k) = fir w a k := nn_id (by omega)
              rw [t1] at y
              unfold nn at y
              split at y <;> omega
            rw [if_neg z3, if_neg (fun y => z2 (of_decide_eq_true y).2), l_0, J_or0]) (fun q => by
        try dsimp only
        rw [fX11_shared_L21]
        simp (disch := omega) only [l_8, J_le]
        rw [if_pos (by omega)]) 8 FU 0 rfl (FU_gt (by decide))
    rw [l_0, key, e1]
    rfl
  · rw [if_neg e2, if_neg e2, if_neg e2, m1_J]
    exact ⟨g0, rfl, W0, O0'⟩
/-! where two spaces differ -/
def dfB (w : ST) (a b : Nat) : Nat → Bool := fun p => !decide (pk w a p < 2147483648 ∧ pk w a p = pk w b p)
theorem dfB_t {w : ST} {a b p : Nat} (h : ¬ (pk w a p < 2147483648 ∧ pk w a p = pk w b p)) : dfB w a b p = true := by
  unfold dfB
  rw [decide_eq_false h]
  rfl
theorem dfB_f {w : ST} {a b p : Nat} (h : pk w a p < 2147483648 ∧ pk w a p = pk w b p) : ¬ dfB w a b p = true := by
  unfold dfB
  rw [decide_eq_true h]
  decide
def dfA (w : ST) (a b : Nat) : Nat := if a2B w a b = true then bts (dfB w a b) 8 else 4294967295
def dfR (w : ST) (a b : Nat) (row : List Int64) : List Int64 := if a2B w a b = true then [Int32.toInt64 (J (bc (bts (dfB w a b) 8)))] else row
theorem xc_differ (W : CIk h mk tx len w un us kp ks C row hq sq) (I : INV w) {a b : Nat} (ha : a < 4294967296) (hb : b < 4294967296) : ∃ h' mk', fX10_differ h 0 (J a) (J b) = some (J (dfA w a b), h') ∧ CIk h' mk' tx len w un us kp ks C (dfR w a b row) hq sq ∧ On PC0 h h' := by
  have R := I.rg
  have hl := bts_lt (dfB w a b) 8
  unfold fX10_differ dfA dfR
  rw [if_pos (x_h W.1), c_areTwo W I ha hb, Option.bind_some]
  by_cases e2 : a2B w a b = true
  · rw [if_pos e2, if_pos e2, if_pos e2]
    obtain ⟨g1, e1, W1, O1⟩ := c_tellSet W (n := bts (dfB w a b) 8) (by omega)
    refine ⟨g1, mk, ?_, W1, O1⟩
    have key : ∀ K : AH → Nat → Int32 → Option (Int32 × AH), fX10_differ_L16 K FU h 0 (J a) (J b) (J 0) (J 0) = K h 0 (J (bts (dfB w a b) 8)) := fun K =>
      loop_rec (fun q k c => fX10_differ_L16 K q h 0 (J a) (J b) (J c) (J k)) 8 (bts (dfB w a b)) _ (fun q k hk => by
        have f1 := pkv_lt R a k (by omega)
        have f2 := pkv_lt R b k (by omega)
        try dsimp only
        rw [fX10_differ_L16]
        unfold fX10_differ_J55
        have e1 : J k + 1 = J (k + 1) := by rw [l_1, J_add]
        simp (disch := omega) only [l_8, J_le, x_2 W.1, Option.bind_some, c_peek W.2.2.1 R ha (show k < 4294967296 by omega), c_peek W.2.2.1 R hb (show k < 4294967296 by omega), J_inj, letF, e1]
        rw [if_neg (by omega), J_bset _ (by omega)]
        conv => rhs; unfold bts
        by_cases z : pk w a k < 2147483648
        · rw [if_neg (fun y => by have := (J_neg0 (by omega)).1 y; omega)]
          by_cases z2 : pk w a k = pk w b k
          · rw [if_pos z2, if_neg (dfB_f ⟨z, z2⟩)]
          · rw [if_neg z2, if_pos (dfB_t (fun y => z2 y.2))]
        · rw [if_pos ((J_neg0 (by omega)).2 (by omega)), if_pos (dfB_t (fun y => z y.1))]) (fun q => by
        try dsimp only
        rw [fX10_differ_L16]
        simp (disch := omega) only [l_8, J_le]
        rw [if_pos (by omega)]) 8 FU 0 rfl (FU_gt (by decide))
    rw [l_0, key, e1]
    rfl
  · rw [if_neg e2, if_neg e2, if_neg e2, m1_J]
    exact ⟨h, mk, rfl, W, On.rf⟩
theorem xm_differ (W : MIv h tx len w un us kp ks ρ rn row hq sq) (I : INV w) {a b : Nat} (ha : a < 4294967296) (hb : b < 4294967296) : ∃ h', fX11_differ h 145 (J a) (J b) = some (J (dfA w a b), h') ∧ MIv h' tx len w un us kp ks ρ rn (dfR w a b row) hq sq ∧ On PM0 h h' := by
  have R := I.rg
  have G := I.gr
  have hl := bts_lt (dfB w a b) 8
  obtain ⟨g0, e0, W0, -, O0⟩ := mi_t0 W
  have O0' : On PM0 h g0 := mon O0 (fun k hk => by omega)
  unfold fX11_differ dfA dfR
  rw [if_pos (y_h W.1), e0, Option.bind_some, y_areTwo W0 I ha hb, Option.bind_some]
  by_cases e2 : a2B w a b = true
  · rw [if_pos e2, if_pos e2, if_pos e2]
    obtain ⟨q1, q2, q3⟩ := a2B_t e2
    obtain ⟨g1, e1, W1, O1⟩ := m_tellBits W0 (n := bts (dfB w a b) 8) (by omega)
    refine ⟨g1, ?_, W1, O0'.trans O1⟩
    have key : ∀ K : AH → Nat → Int32 → Option (Int32 × AH), fX11_differ_L21 K FU g0 145 (J a) (J b) (J 0) (J 0) = K g0 145 (J (bts (dfB w a b) 8)) := fun K =>
      loop_rec (fun q k c => fX11_differ_L21 K q g0 145 (J a) (J b) (J c) (J k)) 8 (bts (dfB w a b)) _ (fun q k hk => by
        have v1 := rfF_v w a k
        have v2 := rfF_v w b k
        have l1 := ftc_lt R (s := a) hk
        have l2 := ftc_lt R (s := b) hk
        have p1 := pk_rf q1 hk
        have p2 := pk_rf q2 hk
        have j1 := J_neg0 (show rfF w a k < 4294967296 by omega)
        have j2 : (0 : Int32) ≤ J (rfF w b k) ↔ rfF w b k < 2147483648 := by rw [l_0, J_le (by decide) (by omega)]; omega
        try dsimp only
        rw [fX11_differ_L21]
        unfold fX11_differ_J59 fX11_differ_J90 fX11_differ_J98
        have e1 : J k + 1 = J (k + 1) := by rw [l_1, J_add]
        simp (disch := omega) only [l_8, J_le, y_0 W0.1, Option.bind_some, m_refF W0.2.2.1 R G q1 hk, m_refF W0.2.2.1 R G q2 hk, m_fetch W0.2.2.1 R G q1 hk, m_fetch W0.2.2.1 R G q2 hk, J_inj, letF, e1, j1, j2]
        rw [if_neg (by omega), J_bset _ (by omega), show J (bts (dfB w a b) k) ||| 0 = J (bts (dfB w a b) k) from J_or0 _]
        conv => rhs; unfold bts
        by_cases z : rfF w a k = 0
        · rw [if_pos z] at p1
          rw [if_neg (by omega)]
          by_cases y : rfF w b k = 0
          · rw [if_pos y] at p2
            rw [if_pos (by omega), if_pos trivial]
            by_cases x : ftc w a k = ftc w b k
            · rw [if_pos x, if_neg (dfB_f ⟨by omega, by omega⟩)]
            · rw [if_neg x, if_pos (dfB_t (fun t => x (by omega)))]
          · rw [if_neg y] at p2
            rw [if_neg (by omega), if_neg (by decide), if_pos (dfB_t (fun t => by omega))]
        · rw [if_neg z] at p1
          rw [if_pos (by omega), if_neg (by decide), if_pos (dfB_t (fun t => by omega))]) (fun q => by
        try dsimp only
        rw [fX11_differ_L21]
        simp (disch := omega) only [l_8, J_le]
        rw [if_pos (by omega)]) 8 FU 0 rfl (FU_gt (by decide))
    rw [l_0, key, e1]
    rfl
  · rw [if_neg e2, if_neg e2, if_neg e2, m1_J]
    exact ⟨g0, rfl, W0, O0'⟩
end CH
