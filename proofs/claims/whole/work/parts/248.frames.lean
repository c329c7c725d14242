/-! frames -/
def egF (w : ST) (s : Nat) : Nat → Bool := fun p => decide (fir w s p ≠ 24)
def egT (w : ST) : Nat := sm (fun s => cnt (egF w s) 8) 6
theorem eg_t {w : ST} {s p : Nat} (h : ¬ fir w s p = 24) : egF w s p = true := decide_eq_true h
theorem eg_f {w : ST} {s p : Nat} (h : fir w s p = 24) : ¬ egF w s p = true := fun z => (of_decide_eq_true z) h
theorem eg_le (w : ST) : egT w ≤ 48 := by
  have : ∀ n, sm (fun s => cnt (egF w s) 8) n ≤ 8 * n := by
    intro n
    induction n with
    | zero => exact Nat.le_refl _
    | succ n ih =>
      have h1 : cnt (egF w n) 8 ≤ 8 := cnt_le
      show sm (fun s => cnt (egF w s) 8) n + cnt (egF w n) 8 ≤ 8 * (n + 1)
      omega
  exact this 6
theorem c_eager {h : AH} {a : Nat} {σ : ST} (W : WR h a σ) (R : RG σ) : fX9_eagerTotal h a = some (J (egT σ)) := by
  unfold fX9_eagerTotal
  rw [if_pos (wr_h W), l_0]
  have inner : ∀ (K : Nat → Int32 → Int32 → Option Int32) (s c : Nat), s < 6 → fX9_eagerTotal_L12 h K FU a (J c) (J s) (J 0) = K a (J (c + cnt (egF σ s) 8)) (J s) := fun K s c hs6 =>
    loop_rec (fun q k x => fX9_eagerTotal_L12 h K q a (J x) (J s) (J k)) 8 (fun k => c + cnt (egF σ s) k) _ (fun q k hk => by
      have f1 := fir_le (σ := σ) s k
      have ea : fX9_firstHolder h a (J s) (J k) = some (J (fir σ s k)) := c_fh W R (by omega) (by omega)
      try dsimp only
      rw [fX9_eagerTotal_L12]
      unfold fX9_eagerTotal_J35
      have e1 : J k + 1 = J (k + 1) := by rw [l_1, J_add]
      simp (disch := omega) only [l_8, J_le, ea, Option.bind_some, l_24, J_inj, letF, e1]
      rw [if_neg (by omega)]
      by_cases z : fir σ s k = 24
      · rw [if_pos z, cnt_no (eg_f z), show J (c + cnt (egF σ s) k) + 0 = J (c + cnt (egF σ s) k) by rw [l_0, J_add, Nat.add_zero]]
      · rw [if_neg z, cnt_yes (eg_t z), show J (c + cnt (egF σ s) k) + 1 = J (c + (cnt (egF σ s) k + 1)) by rw [l_1, J_add, Nat.add_assoc]]) (fun q => by
      try dsimp only
      rw [fX9_eagerTotal_L12]
      simp (disch := omega) only [l_8, J_le]
      rw [if_pos (by omega)]) 8 FU 0 rfl (FU_gt (by decide))
  have e := loop_rec (fun q k c => fX9_eagerTotal_L4 h q a (J c) (J k)) 6 (sm (fun s => cnt (egF σ s) 8)) (some (J (egT σ))) (fun q k hk => by
    try dsimp only
    rw [fX9_eagerTotal_L4]
    simp (disch := omega) only [l_6, J_le]
    rw [if_neg (by omega), l_0, inner _ k _ hk]
    have e1 : J k + 1 = J (k + 1) := by rw [l_1, J_add]
    simp only [letF, e1]
    rfl) (fun q => by
    try dsimp only
    rw [fX9_eagerTotal_L4]
    simp (disch := omega) only [l_6, J_le]
    rw [if_pos (by omega)]
    rfl) 6 FU 0 rfl (FU_gt (by decide))
  exact e
def frR (w : ST) : List Int64 := [Int32.toInt64 (J (egT w)), Int32.toInt64 (J (bc (w 1 2)))]
section CI
variable {h g : AH} {mk : Nat} {tx : Nat → Nat} {len : Nat} {w : ST} {un : Nat} {us : Nat → ST} {kp : Nat → Bool} {ks : Nat → ST} {C : List Nat} {ρ : Nat → Nat} {rn : Nat} {row : List Int64} {hq : List (Nat × Nat)} {sq : List (Nat × Nat × Bool)}
theorem xc_frames (W : CIk h mk tx len w un us kp ks C row hq sq) (I : INV w) : ∃ h' mk', fX10_frames h 0 = some (J (tot w 8), h') ∧ CIk h' mk' tx len w un us kp ks C (frR w) hq sq ∧ On PC0 h h' := by
  have R := I.rg
  obtain ⟨g1, e1, W1, O1⟩ := ci_clr W
  obtain ⟨g2, e2, W2, O2⟩ := ci_add W1 (by simp) (Int32.toInt64 (J (egT w)))
  obtain ⟨g3, e3, W3, O3⟩ := ci_add W2 (by simp) (Int32.toInt64 (J (bc (w 1 2))))
  refine ⟨g3, mk, ?_, W3, ((lon O1 (fun k hk => by omega)).trans (lon O2 (fun k hk => by omega))).trans (lon O3 (fun k hk => by omega))⟩
  unfold fX10_frames
  simp only [x_h W.1, if_true, x_8 W.1, Option.bind_some, e1, x_8 W1.1, x_2 W1.1, c_eager W1.2.2.1 R, e2, x_8 W2.1, x_2 W2.1, c_objectTotal W2.2.2.1 R, e3, x_2 W3.1, c_frameTotal W3.2.2.1 R]
theorem xm_frames (W : MIv h tx len w un us kp ks ρ rn row hq sq) (I : INV w) : ∃ h', fX11_frames h 145 = some (J (tot w 8), h') ∧ MIv h' tx len w un us kp ks ρ rn (frR w) hq sq ∧ On PM0 h h' := by
  have R := I.rg
  have G := I.gr
  obtain ⟨g0, e0, W0, -, O0⟩ := mi_t0 W
  have O0' : On PM0 h g0 := mon O0 (fun k hk => by omega)
  have inner : ∀ (K : AH → Nat → Int32 → Int32 → Option (Int32 × AH)) (s c : Nat), s < 6 → fX11_frames_L17 K FU g0 145 (J c) (J s) (J 0) = K g0 145 (J (c + cnt (egF w s) 8)) (J s) := fun K s c hs6 =>
    loop_rec (fun q k x => fX11_frames_L17 K q g0 145 (J x) (J s) (J k)) 8 (fun k => c + cnt (egF w s) k) _ (fun q k hk => by
      have f1 := fir_le (σ := w) s k
      have n1 := nn_lt f1
      try dsimp only
      rw [fX11_frames_L17]
      unfold fX11_frames_J53
      have e1 : J k + 1 = J (k + 1) := by rw [l_1, J_add]
      have a0 : ∀ x : Nat, J x + 0 = J x := fun x => by rw [l_0, J_add, Nat.add_zero]
      have a1 : ∀ x : Nat, J x + 1 = J (x + 1) := fun x => by rw [l_1, J_add]
      simp (disch := omega) only [l_8, J_le, y_0 W0.1, m_hs W0.2.2.1 R, Option.bind_some, letF, e1, a0]
      rw [if_neg (by omega)]
      by_cases hh : hs w s = true
      · rw [if_pos hh]
        simp (disch := omega) only [m_frameOf W0.2.2.1 R G hs6 hk, Option.bind_some, m1_J, J_inj]
        by_cases z : fir w s k = 24
        · rw [if_pos ((nn_m1 f1).2 z), cnt_no (eg_f z)]
        · rw [if_neg (fun y => z ((nn_m1 f1).1 y)), cnt_yes (eg_t z), a1, Nat.add_assoc]
      · rw [if_neg hh, cnt_no (eg_f (fir_no k hh R))]) (fun q => by
      try dsimp only
      rw [fX11_frames_L17]
      simp (disch := omega) only [l_8, J_le]
      rw [if_pos (by omega)]) 8 FU 0 rfl (FU_gt (by decide))
  have outer : ∀ (K : AH → Nat → Int32 → Option (Int32 × AH)), fX11_frames_L9 K FU g0 145 (J 0) (J 0) = K g0 145 (J (egT w)) := fun K =>
    loop_rec (fun q k c => fX11_frames_L9 K q g0 145 (J c) (J k)) 6 (sm (fun s => cnt (egF w s) 8)) _ (fun q k hk => by
      try dsimp only
      rw [fX11_frames_L9]
      simp (disch := omega) only [l_6, J_le]
      rw [if_neg (by omega), l_0, inner _ k _ hk]
      have e1 : J k + 1 = J (k + 1) := by rw [l_1, J_add]
      simp only [letF, e1]
      rfl) (fun q => by
      try dsimp only
      rw [fX11_frames_L9]
      simp (disch := omega) only [l_6, J_le]
      rw [if_pos (by omega)]
      rfl) 6 FU 0 rfl (FU_gt (by decide))
  obtain ⟨g1, e1, W1, O1⟩ := mi_clr W0
  obtain ⟨g2, e2, W2, O2⟩ := mi_tell W1 (by simp) (Int32.toInt64 (J (egT w)))
  obtain ⟨g3, e3, W3, O3⟩ := mi_tell W2 (by simp) (Int32.toInt64 (J (bc (w 1 2))))
  refine ⟨g3, ?_, W3, ((O0'.trans (mon O1 (fun k hk => by omega))).trans (mon O2 (fun k hk => by omega))).trans (mon O3 (fun k hk => by omega))⟩
  have b1 : fJ6_bitCount_0f7a4 g2 (J (w 1 2)) = some (J (bc (w 1 2))) := bc_J R.2.1.2.2.1
  unfold fX11_frames
  rw [if_pos (y_h W.1), e0, Option.bind_some, l_0, outer, ← l_0, e1, Option.bind_some, e2, Option.bind_some, y_0 W2.1, Option.bind_some, m_objects W2.2.2.1 R, Option.bind_some, b1, Option.bind_some, e3, Option.bind_some, y_0 W3.1, Option.bind_some, m_frames W3.2.2.1 R, Option.bind_some]
end CI
