/-! which spaces there are: what a write leaves -/
section F11
variable {σ : ST}
theorem rem_11 {a x : Nat} : remS σ a x 1 1 = σ 1 1 := by simp [remS, put, pasS]
theorem rel_11 : ∀ k {σ : ST} {a : Nat}, (relS k σ a).2 1 1 = σ 1 1
  | 0, _, _ => rfl
  | k + 1, σ, a => by
    unfold relS
    split
    · exact (rel_11 k).trans rem_11
    · rfl
theorem byp_11 {x nx : Nat} : bypS σ x nx 1 1 = σ 1 1 := by
  unfold bypS
  rw [rel_11]
  split
  · simp [put, pasS]
  · simp [put]
theorem hold_11 {o p v : Nat} : holdS σ o p v 1 1 = σ 1 1 := by simp [holdS, put]
theorem col_11 {x y : Nat} : ∀ n, colS σ x y n 1 1 = σ 1 1
  | 0 => rfl
  | n + 1 => by
    unfold colS
    split
    · rw [hold_11]; exact col_11 n
    · exact col_11 n
theorem clp_11 {x y : Nat} : clpS σ x y 1 1 = σ 1 1 := by
  unfold clpS
  rw [rem_11]
  have : put (colS σ x y 8) 4 x (σ 4 y) 1 1 = colS σ x y 8 1 1 := by simp [put]
  rw [this, col_11]
theorem td_11 : ∀ k {σ : ST} {x c b : Nat}, (tdS k σ x c b).1 1 1 = σ 1 1
  | 0, _, _, _, _ => rfl
  | k + 1, σ, x, c, b => by
    unfold tdS
    split
    · split
      · exact (td_11 k).trans byp_11
      · split
        · exact (td_11 k).trans clp_11
        · split
          · exact (td_11 k).trans byp_11
          · exact td_11 k
    · rfl
theorem tid_11 {s : Nat} : (tidS σ s).1 1 1 = σ 1 1 := td_11 24
theorem ft_11 {s p : Nat} : ftS σ s p 1 1 = σ 1 1 := by
  unfold ftS
  split
  · exact hold_11
  · rfl
theorem abv_11 {s : Nat} : abvS σ s 1 1 = σ 1 1 := by simp [abvS, comeS, put]
theorem wrS_11 {C : List Nat} {s p v : Nat} : wrS C σ s p v 1 1 = σ 1 1 := by
  have e2 : wr2 σ s p 1 1 = σ 1 1 := by
    unfold wr2
    split
    · exact abv_11.trans ft_11
    · exact ft_11
  have e3 : wr3 σ s p 1 1 = σ 1 1 := by
    rw [← e2]
    simp [wr3, put]
  have e4 : wr4 σ s p 1 1 = σ 1 1 := by
    unfold wr4
    split
    · exact hold_11.trans e3
    · exact e3
  have e6 : wr6 σ s p v 1 1 = σ 1 1 := by
    have : wr6 σ s p v 1 1 = holdS (wr4 σ s p) (wrT σ s p) p v 1 1 := by simp [wr6, put]
    rw [this, hold_11, e4]
  unfold wrS
  split
  · exact e6
  · split
    · exact e6
    · exact tid_11.trans e6
theorem wrA_11 {C : List Nat} {s p v : Nat} : (wrA C σ s p v).2 1 1 = σ 1 1 := by
  unfold wrA
  split
  · split
    · exact wrS_11
    · split
      · simp [awS, put]
      · rfl
  · rfl
theorem hs_11 {τ : ST} (R : RG σ) (T : RG τ) (e : τ 1 1 = σ 1 1) (s : Nat) : hs τ s = hs σ s := by
  unfold hs
  by_cases z : s < 6
  · have a1 := R.2.2.2.2.1 s z
    have a2 := T.2.2.2.2.1 s z
    rw [e, a1] at a2
    rw [a2]
  · rw [decide_eq_false z]
    rfl
theorem hs_wrA {C : List Nat} (I : INV σ) {s p v t : Nat} : hs (wrA C σ s p v).2 t = hs σ t := hs_11 I.rg (inv_wrA C I).rg wrA_11 t
theorem hs_frk (I : INV σ) {s : Nat} (hk : frkOk σ s) : hs (frkS σ s) (frS σ) = true := by
  have RF := (inv_frk I hk).rg
  have h6 := hk.2.1
  have t := RF.2.2.2.2.1 (frS σ) h6
  have e : frkS σ s 1 1 = bset (σ 1 1) (frS σ) := by simp [frkS, put]
  rw [e, bset_tb] at t
  unfold hs
  rw [← t, decide_eq_true h6]
  simp
end F11
/-! the trial's world -/
section TR
variable {h g : AH} {mk : Nat} {tx : Nat → Nat} {len : Nat} {w : ST} {un : Nat} {us : Nat → ST} {kp : Nat → Bool} {ks : Nat → ST} {C : List Nat} {ρ : Nat → Nat} {rn : Nat} {row : List Int64} {hq : List (Nat × Nat)} {sq : List (Nat × Nat × Bool)}
theorem CIk.p11u (W : CIk h mk tx len w un us kp ks C row hq sq) (O : On (PW 11 123) h g) (R : WC1 g 11) (U : RU g 123 C) : CIk g mk tx len w un us kp ks C row hq sq := by
  obtain ⟨w1, w2, w3, w4, w5, w6, w7, w8, w9, w10, w11, w12⟩ := W
  exact ⟨w1.on O (by omega), w2.on O (by omega), w3.on O (fun k h1 h2 => by omega), R, w5.on O (fun k h1 h2 => by omega), U, w7.on O (by omega) (by omega) (by omega), w8.on O (by omega) (by omega) (by omega), w9.on O (by omega) (by omega), w10.on O (fun k h1 h2 => by omega), w11.on O (fun k h1 h2 => by omega), w12.on O (by omega) (by omega)⟩
theorem CIk.p11 (W : CIk h mk tx len w un us kp ks C row hq sq) (O : On (fun k => 11 ≤ k ∧ k < 20) h g) (R : WC1 g 11) : CIk g mk tx len w un us kp ks C row hq sq :=
  W.p11u (O.mono (fun k hk => Or.inl ⟨hk.1, by omega⟩)) R (W.2.2.2.2.2.1.on O (by omega) (by omega) (by omega))
/-- the trial begins as the world stands -/
theorem ci_try (W : CIk h mk tx len w un us kp ks C row hq sq) : ∃ g, fX9_copyFrom h 11 2 = some g ∧ CIk g mk tx len w un us kp ks C row hq sq ∧ WR g 11 w ∧ On (fun k => 11 ≤ k ∧ k < 20) h g := by
  obtain ⟨g, e, R, O⟩ := c_copy W.2.2.2.1 W.2.2.1 (by decide)
  have O' : On (fun k => 11 ≤ k ∧ k < 20) h g := O.on (fun k h1 h2 => ⟨h1, h2⟩)
  exact ⟨g, e, W.p11 O' R.c1, R, O'⟩
theorem MIv.p155 (W : MIv h tx len w un us kp ks ρ rn row hq sq) (O : On (fun k => k = 155) h g) (R : cel g 0 155 325) : MIv g tx len w un us kp ks ρ rn row hq sq := by
  obtain ⟨w1, w2, w3, w4, w5, w6, w7, w8, w9, w10⟩ := W
  obtain ⟨y1, y2, y3, y4, y5, y6, y7, y8⟩ := w10
  exact ⟨w1.on O (by omega), w2.on O (by omega), w3.on O (by omega), w4.on O (by omega), w5.on O (by omega) (by omega), w6.on O (by omega), w7.on O (by omega), w8.on O (by omega) (by omega), w9.on O (by omega) (by omega) (by omega), ⟨y1.on O (by omega), y2.on O (by omega), y3.on O (by omega), y4.on O (by omega), R, y6.on O (by omega), y7.on O (by omega), y8.on O (by omega)⟩⟩
theorem RA.cel {A : Nat} {σ : ST} (R : RA h A σ) : cel h 0 A 325 := by
  obtain ⟨a, c, -⟩ := R
  exact ⟨a, c⟩
theorem mi_try (W : MIv h tx len w un us kp ks ρ rn row hq sq) : ∃ g, fX11_lay h 146 155 0 = some g ∧ MIv g tx len w un us kp ks ρ rn row hq sq ∧ RA g 155 w ∧ On (fun k => k = 155) h g := by
  obtain ⟨a, ca, sa⟩ := W.2.2.1
  obtain ⟨b, cb⟩ := W.2.2.2.2.2.2.2.2.2.2.2.2.2.1
  obtain ⟨g, e, c, O⟩ := m_lay (A := 146) (B := 155) (k := 0) (by decide) ca (show 0 + 325 ≤ 325 by decide) (by decide) cb
  have O' : On (fun k => k = 155) h g := O.on1 rfl
  have R : RA g 155 w := ⟨_, c, sa.cg fun k hk => by rw [if_pos ⟨Nat.zero_le k, by omega⟩, Nat.sub_zero]⟩
  exact ⟨g, e, W.p155 O' R.cel, R, O'⟩
/-- the trial's world and fields that are no one's -/
theorem MIv.p155o (W : MIv h tx len w un us kp ks ρ rn row hq sq) (O : On (fun k => k = 155 ∨ k = 145) h g) (M : MO g len row.length un rn hq.length sq.length) (R : cel g 0 155 325) : MIv g tx len w un us kp ks ρ rn row hq sq := by
  obtain ⟨w1, w2, w3, w4, w5, w6, w7, w8, w9, w10⟩ := W
  obtain ⟨y1, y2, y3, y4, y5, y6, y7, y8⟩ := w10
  exact ⟨M, w2.on O (by omega), w3.on O (by omega), w4.on O (by omega), w5.on O (by omega) (by omega), w6.on O (by omega), w7.on O (by omega), w8.on O (by omega) (by omega), w9.on O (by omega) (by omega) (by omega), ⟨y1.on O (by omega), y2.on O (by omega), y3.on O (by omega), y4.on O (by omega), R, y6.on O (by omega), y7.on O (by omega), y8.on O (by omega)⟩⟩
/-- the trial tidied by the reference -/
theorem mi_tidT {τ : ST} (W : MIv h tx len w un us kp ks ρ rn row hq sq) (T : RA h 155 τ) (I : INV τ) {s : Nat} (h0 : hs τ s = true) : ∃ g, fX11_goTidy h 145 155 (J s) = some g ∧ MIv g tx len w un us kp ks ρ rn row hq sq ∧ RA g 155 (tidS τ s).1 ∧ gI g 11 145 21 = some (J (tidS τ s).2.1) ∧ gI g 11 145 22 = some (J (tidS τ s).2.2) ∧ On (fun k => k = 155 ∨ k = 145) h g := by
  obtain ⟨rk, IV, H⟩ := I
  have W0 := W
  obtain ⟨⟨F, M, mf⟩, w2⟩ := W
  obtain ⟨g, e, R, M', -, -, O⟩ := m_tidy (show (145 : Nat) ≠ 155 by decide) T M IV H h0
  exact ⟨g, e, W0.p155o O ⟨_, M', (mf.p (k := 21) (by unfold NF; omega) _).p (k := 22) (by unfold NF; omega) _⟩ R.cel, R, ob_i M' (by decide) (by rw [fput_ne (by decide), fput_eq]), ob_i M' (by decide) fput_eq, O⟩
/-- a try at a write in the trial, by the reference -/
theorem mi_tryW {τ : ST} (W : MIv h tx len w un us kp ks ρ rn row hq sq) (T : RA h 155 τ) (I : INV τ) (L : RLR C ρ rn) {s p v : Nat} (h0 : hs τ s = true) (hp : p < 8) (hv : v < 100) : ∃ g, fX11_tryWrite h 145 155 (J s) (J p) (J v) = some (decide (wrN τ s p = 0), g) ∧ MIv g tx len w un us kp ks ρ rn row hq sq ∧ RA g 155 (wrA C τ s p v).2 ∧ On (fun k => k = 145 ∨ k = 155 ∨ k = 152) h g := by
  obtain ⟨F, X, mf⟩ := mi_rcx W
  obtain ⟨g, F', e, R, X', f, O⟩ := m_tryWrite (m := 145) (A := 155) (P := 150) (Q := 152) (by decide) (by decide) (by decide) (by decide) (by decide) (by decide) X L T I h0 hp hv
  exact ⟨g, e, rcx_mi (A := 155) W mf X' f O (Or.inr rfl) (W.2.2.1.on O (by omega)) R.cel, R, O⟩
end TR
