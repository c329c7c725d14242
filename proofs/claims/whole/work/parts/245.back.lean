/-! what is kept, what comes again, what is undone -/
def kpN (kp : Nat → Bool) (n : Nat) : Nat → Bool := if n < 2 then (fun j => if j = n then true else kp j) else kp
def ksN (ks : Nat → ST) (n : Nat) (w : ST) : Nat → ST := if n < 2 then (fun j => if j = n then w else ks j) else ks
def agB (kp : Nat → Bool) (n : Nat) : Bool := decide (n < 2) && kp n
def agW (w : ST) (kp : Nat → Bool) (ks : Nat → ST) (n : Nat) : ST := if agB kp n = true then ks n else w
def agU (un : Nat) (kp : Nat → Bool) (n : Nat) : Nat := if agB kp n = true then 0 else un
def udA (un : Nat) : Nat := if un = 0 then 4294967295 else un - 1
def udW (w : ST) (un : Nat) (us : Nat → ST) : ST := if un = 0 then w else us (un - 1)
theorem i2z_b2 (b : Bool) : i2z (b2i b) = some b := by cases b <;> rfl
section CF
variable {h g : AH} {mk : Nat} {tx : Nat → Nat} {len : Nat} {w : ST} {un : Nat} {us : Nat → ST} {kp : Nat → Bool} {ks : Nat → ST} {C : List Nat} {ρ : Nat → Nat} {rn : Nat} {row : List Int64} {hq : List (Nat × Nat)} {sq : List (Nat × Nat × Bool)}
theorem J_neg0 {x : Nat} (hx : x < 4294967296) : J x < 0 ↔ 2147483648 ≤ x := by
  rw [l_0, J_lt hx (by decide)]
  omega
theorem xc_keep (W : CIk h mk tx len w un us kp ks C row hq sq) {n : Nat} (hn : n < 4294967296) : ∃ h' mk', fX10_keep h 0 (J n) = some (decide (n < 2), h') ∧ CIk h' mk' tx len w un us (kpN kp n) (ksN ks n w) C row hq sq ∧ On PC0 h h' := by
  obtain ⟨F, fm, fs, fb, w1, w2, w3, w4, w5, w6, w7, w8, w9, w10, w11, w12, w13, w14, w15, w16, w17, w18⟩ := W.2.2.2.2.1
  unfold fX10_keep fX2_store kpN ksN
  simp only [x_h W.1, if_true, x_4 W.1, x_2 W.1, Option.bind_some, ob_h w1]
  by_cases h2 : n < 2
  · rw [if_neg (fun z => by have := (J_neg0 hn).1 z; omega), if_pos (show J n < 2 by rw [l_2, J_lt hn (by decide)]; omega), if_pos h2, if_pos h2, decide_eq_true h2]
    obtain ⟨g1, e1, R1, O1⟩ := c_copy (w17 n h2) W.2.2.1 (by omega)
    have O1' : On (fun k => 105 + 9 * n ≤ k ∧ k < 105 + 9 * n + 9) h g1 := O1.on (fun k z1 z2 => ⟨z1, z2⟩)
    have M1 := w1.on O1' (by omega)
    obtain ⟨g2, e2, c2, O2⟩ := wa_t ((O1.2 _ (by omega)).trans w13) h2 (by decide) (x := 1) (nar_b2i true)
    have O2' : On (fun k => k = 23) g1 g2 := O2.on1 rfl
    have OO : On (fun k => (105 + 9 * n ≤ k ∧ k < 105 + 9 * n + 9) ∨ k = 23) h g2 := (O1'.mono (fun k hk => Or.inl hk)).trans (O2'.mono (fun k hk => Or.inr hk))
    have OO' : On (fun k => (2 ≤ k ∧ k < 11) ∨ (20 ≤ k ∧ k < 123)) h g2 := OO.mono (fun k hk => by omega)
    have Rn : WR g2 (105 + 9 * n) w := R1.on O2' (fun k z1 z2 => by omega)
    refine ⟨g2, mk, ?_, W.phk OO' (W.2.2.1.on OO (fun k z1 z2 => by omega)) ⟨F, fm, fs, _, w1.on OO (by omega), w2, w3, w4, w5, w6, w7, w8, (OO.2 _ (by omega)).trans w9, w10, (OO.2 _ (by omega)).trans w11, w12, c2, fun j hj => ?_, fun i hi => (w15 i hi).on OO (fun k z1 z2 => by omega), fun i hi => (w16 i hi).on OO (fun k z1 z2 => by omega), fun j hj => ?_, fun j hj hk => ?_⟩, lon OO (fun k hk => by omega)⟩
    · simp only [ob_r w1 (k := 1) (by decide) w3, Option.bind_some, aR_at w11 h2 (by decide) (w12 n h2), e1, ob_r M1 (k := 2) (by decide) w4, e2]
    · show (if j = n then 1 else fb j) = b2i (if j = n then true else kp j)
      by_cases e : j = n
      · rw [if_pos e, if_pos e]; rfl
      · rw [if_neg e, if_neg e]; exact w14 j hj
    · by_cases e : j = n
      · rw [e]; exact Rn.c1
      · exact (w17 j hj).on OO (fun k z1 z2 => by omega)
    · by_cases e : j = n
      · have e0 : (fun j => if j = n then w else ks j) j = w := if_pos e
        rw [e0, e]; exact Rn
      · have e0 : (fun j => if j = n then w else ks j) j = ks j := if_neg e
        have e1 : (fun j => if j = n then true else kp j) j = kp j := if_neg e
        rw [e1] at hk
        rw [e0]
        exact (w18 j hj hk).on OO (fun k z1 z2 => by omega)
  · rw [if_neg h2, if_neg h2, decide_eq_false h2]
    by_cases q : 2147483648 ≤ n
    · rw [if_pos ((J_neg0 hn).2 q)]
      exact ⟨h, mk, rfl, W, On.rf⟩
    · rw [if_neg (fun z => q ((J_neg0 hn).1 z)), if_neg (show ¬ J n < 2 from fun z => by rw [l_2, J_lt hn (by decide)] at z; omega)]
      exact ⟨h, mk, rfl, W, On.rf⟩
theorem xm_keep (W : MIv h tx len w un us kp ks ρ rn row hq sq) {n : Nat} (hn : n < 4294967296) : ∃ h', fX11_keep h 145 (J n) = some (decide (n < 2), h') ∧ MIv h' tx len w un us (kpN kp n) (ksN ks n w) ρ rn row hq sq ∧ On PM0 h h' := by
  obtain ⟨g0, e0, W0, -, O0⟩ := mi_t0 W
  have O0' : On PM0 h g0 := mon O0 (fun k hk => by omega)
  have i1 : fX11_in g0 (J n) 0 1 = some (decide (n < 2)) := by
    rw [l_0, l_1, m_in hn (by decide) (by decide)]
    congr 1
    rw [decide_eq_true (Nat.zero_le n), Bool.true_and, decide_eq_decide]
    omega
  unfold fX11_keep kpN ksN
  simp only [y_h W.1, if_true, e0, Option.bind_some, i1, decide_eq_true_eq]
  by_cases h2 : n < 2
  · obtain ⟨⟨f, k1, k2⟩, b, k3, k4⟩ := W0.2.2.2.2.1
    obtain ⟨a, ca, sa⟩ := W0.2.2.1
    rw [if_pos h2, if_pos h2, if_pos h2, decide_eq_true h2]
    obtain ⟨g1, e1, c1, O1⟩ := wa_t k3 h2 (by decide) (x := 1) (nar_b2i true)
    have O1' : On (fun k => k = 165) g0 g1 := O1.on1 rfl
    have M1 := W0.1.on O1' (by decide)
    obtain ⟨g2, e2, c2, O2⟩ := m_lay (A := 146) (B := 164) (k := 325 * n) (by decide) ((O1.2 _ (by omega)).trans ca) (show 325 * n + 325 ≤ 650 by omega) (by decide) ((O1.2 _ (by omega)).trans k1)
    have OO : On (fun k => k = 164 ∨ k = 165) g0 g2 := (O1'.mono (fun k hk => Or.inr hk)).trans (O2.on1 (P := fun k => k = 164 ∨ k = 165) (Or.inl rfl))
    refine ⟨g2, ?_, W0.pkp OO ⟨⟨_, c2, fun j hj hk => ?_⟩, _, (O2.2 _ (by omega)).trans c1, fun j hj => ?_⟩, O0'.trans (mon OO (fun k hk => by omega))⟩
    · simp only [y_35 W0.1, Option.bind_some, e1, y_0 M1, y_34 M1, l_325, J_mul, e2]
    · by_cases e : j = n
      · have e0 : (fun j => if j = n then w else ks j) j = w := if_pos e
        rw [e0]
        refine sa.cg fun k hk => ?_
        rw [if_pos (by omega), e, Nat.add_sub_cancel_left]
      · have e0 : (fun j => if j = n then w else ks j) j = ks j := if_neg e
        have e1 : (fun j => if j = n then true else kp j) j = kp j := if_neg e
        rw [e1] at hk
        rw [e0]
        refine (k2 j hj hk).cg fun k hk => ?_
        rw [if_neg (by omega)]
    · show (if j = n then 1 else b j) = b2i (if j = n then true else kp j)
      by_cases e : j = n
      · rw [if_pos e, if_pos e]; rfl
      · rw [if_neg e, if_neg e]; exact k4 j hj
  · rw [if_neg h2, if_neg h2, if_neg h2, decide_eq_false h2]
    exact ⟨g0, rfl, W0, O0'⟩
theorem xc_again (W : CIk h mk tx len w un us kp ks C row hq sq) {n : Nat} (hn : n < 4294967296) : ∃ h' mk', fX10_again h 0 (J n) = some (agB kp n, h') ∧ CIk h' mk' tx len (agW w kp ks n) (agU un kp n) us kp ks C row hq sq ∧ On PC0 h h' := by
  obtain ⟨F, fm, fs, fb, w1, w2, w3, w4, w5, w6, w7, w8, w9, w10, w11, w12, w13, w14, w15, w16, w17, w18⟩ := W.2.2.2.2.1
  unfold fX10_again fX2_fetchStored agW agU
  simp only [x_h W.1, if_true, x_4 W.1, x_2 W.1, Option.bind_some, ob_h w1]
  by_cases h2 : n < 2
  · have ez : aZ h 23 (J n) = some (kp n) := by
      unfold aZ
      rw [aI_at w13 h2 (by decide), Option.bind_some, w14 n h2, i2z_b2]
    rw [if_neg (fun z => by have := (J_neg0 hn).1 z; omega), if_neg (show ¬ 2 ≤ J n from fun z => by rw [l_2, J_le (by decide) hn] at z; omega)]
    simp only [ob_r w1 (k := 2) (by decide) w4, Option.bind_some, ez]
    by_cases hk : kp n = true
    · have eb : agB kp n = true := by unfold agB; rw [decide_eq_true h2, hk]; rfl
      rw [if_pos hk, eb, if_pos rfl, if_pos rfl]
      obtain ⟨g1, e1, R1, O1⟩ := c_copy W.2.2.1.c1 (w18 n h2 hk) (by omega)
      have O1' : On (fun k => 2 ≤ k ∧ k < 11) h g1 := O1.on (fun k z1 z2 => ⟨z1, z2⟩)
      have M1 := w1.on O1' (by omega)
      obtain ⟨g2, e2, M2, O2⟩ := ob_p M1 (k := 4) (by decide) (.int (J 0))
      have O2' : On (fun k => k = 20) g1 g2 := O2.on1 rfl
      have OO : On (fun k => (2 ≤ k ∧ k < 11) ∨ k = 20) h g2 := (O1'.mono (fun k hk => Or.inl hk)).trans (O2'.mono (fun k hk => Or.inr hk))
      refine ⟨g2, mk, ?_, W.phk (OO.mono (fun k hk => by omega)) (R1.on O2' (fun k z1 z2 => by omega)) ⟨_, fm, fs, fb, M2, by rw [fput_ne (by decide)]; exact w2, by rw [fput_ne (by decide)]; exact w3, by rw [fput_ne (by decide)]; exact w4, by rw [fput_ne (by decide)]; exact w5, fput_eq, w7, by omega, (OO.2 _ (by omega)).trans w9, w10, (OO.2 _ (by omega)).trans w11, w12, (OO.2 _ (by omega)).trans w13, w14, fun i hi => (w15 i hi).on OO (fun k z1 z2 => by omega), fun i hi => absurd hi (Nat.not_lt_zero i), fun j hj => (w17 j hj).on OO (fun k z1 z2 => by omega), fun j hj hk => (w18 j hj hk).on OO (fun k z1 z2 => by omega)⟩, lon OO (fun k hk => by omega)⟩
      rw [← l_0] at e2
      simp only [ob_r w1 (k := 1) (by decide) w3, Option.bind_some, aR_at w11 h2 (by decide) (w12 n h2), e1, e2]
    · have eb : agB kp n = false := by unfold agB; rw [decide_eq_true h2, Bool.true_and]; simpa using hk
      rw [if_neg hk, eb, if_neg (by decide), if_neg (by decide)]
      exact ⟨h, mk, rfl, W, On.rf⟩
  · have eb : agB kp n = false := by unfold agB; rw [decide_eq_false h2]; rfl
    rw [eb, if_neg (show ¬ false = true by decide), if_neg (show ¬ false = true by decide)]
    by_cases q : 2147483648 ≤ n
    · rw [if_pos ((J_neg0 hn).2 q)]
      exact ⟨h, mk, rfl, W, On.rf⟩
    · rw [if_neg (fun z => q ((J_neg0 hn).1 z)), if_pos (show 2 ≤ J n by rw [l_2, J_le (by decide) hn]; omega)]
      exact ⟨h, mk, rfl, W, On.rf⟩
/-- the row put back -/
theorem cp_row {f a : Nat → Int32} {k i : Nat} (e : g.1 146 = some (.inl (0, 325, .inl (fun j => if j < i then f (k + j) else a j)))) (hi : i < 325) : ∃ g1, sI g 0 146 (J i) (f (k + i)) = some g1 ∧ g1.1 146 = some (.inl (0, 325, .inl (fun j => if j < i + 1 then f (k + j) else a j))) ∧ On (fun k => k = 146) g g1 := by
  obtain ⟨g1, e1, c1, O1⟩ := wa_s e hi (by decide) (f (k + i))
  refine ⟨g1, e1, ?_, O1.on1 rfl⟩
  rw [c1]
  congr 5
  funext j
  by_cases e2 : j = i
  · rw [if_pos e2, if_pos (by omega), e2]
  · rw [if_neg e2]
    by_cases e3 : j < i
    · rw [if_pos e3, if_pos (by omega)]
    · rw [if_neg e3, if_neg (by omega)]
theorem m_againL {rl hl sl n : Nat} {f a : Nat → Int32} (hn : n < 2) : ∀ q m i g, i + q = 325 → q < m → MO g len rl un rn hl sl → g.1 164 = some (.inl (0, 650, .inl f)) → g.1 146 = some (.inl (0, 325, .inl (fun j => if j < i then f (325 * n + j) else a j))) → ∃ h', fX11_again_L27 m g 145 (J n) (J i) = (pF h' 11 145 18 (.int 0)).bind (fun h1 => some (true, h1)) ∧ h'.1 146 = some (.inl (0, 325, .inl (fun j => if j < 325 then f (325 * n + j) else a j))) ∧ On (fun k => k = 146) g h'
  | 0, m + 1, i, g, e, _, W, c1, c2 => by
    have hi : i = 325 := by omega
    subst hi
    refine ⟨g, ?_, c2, On.rf⟩
    rw [fX11_again_L27]
    simp (disch := omega) only [l_325, J_le]
    rw [if_pos (by omega)]
  | q + 1, m + 1, i, g, e, hm, W, c1, c2 => by
    obtain ⟨g1, e1, c3, O1⟩ := cp_row c2 (by omega)
    obtain ⟨g2, e2, c4, O2⟩ := m_againL hn q m (i + 1) g1 (by omega) (by omega) (W.on O1 (by decide)) ((O1.2 _ (by decide)).trans c1) c3
    refine ⟨g2, ?_, c4, O1.trans O2⟩
    rw [fX11_again_L27]
    have e1' : J i + 1 = J (i + 1) := by rw [l_1, J_add]
    simp (disch := omega) only [l_325, J_le]
    rw [if_neg (by omega)]
    simp (disch := omega) only [y_0 W, y_34 W, Option.bind_some, J_mul, J_add, aI_at c1, e1, letF, e1', e2]
theorem xm_again (W : MIv h tx len w un us kp ks ρ rn row hq sq) {n : Nat} (hn : n < 4294967296) : ∃ h', fX11_again h 145 (J n) = some (agB kp n, h') ∧ MIv h' tx len (agW w kp ks n) (agU un kp n) us kp ks ρ rn row hq sq ∧ On PM0 h h' := by
  obtain ⟨g0, e0, W0, -, O0⟩ := mi_t0 W
  have O0' : On PM0 h g0 := mon O0 (fun k hk => by omega)
  have i1 : fX11_in g0 (J n) 0 1 = some (decide (n < 2)) := by
    rw [l_0, l_1, m_in hn (by decide) (by decide)]
    congr 1
    rw [decide_eq_true (Nat.zero_le n), Bool.true_and, decide_eq_decide]
    omega
  unfold fX11_again agW agU
  simp only [y_h W.1, if_true, e0, Option.bind_some, i1, decide_eq_true_eq]
  by_cases h2 : n < 2
  · obtain ⟨⟨f, k1, k2⟩, b, k3, k4⟩ := W0.2.2.2.2.1
    obtain ⟨a, ca, sa⟩ := W0.2.2.1
    have ez : aZ g0 165 (J n) = some (kp n) := by
      unfold aZ
      rw [aI_at k3 h2 (by decide), Option.bind_some, k4 n h2, i2z_b2]
    rw [if_pos h2]
    simp only [y_35 W0.1, Option.bind_some, ez]
    by_cases hk : kp n = true
    · have eb : agB kp n = true := by unfold agB; rw [decide_eq_true h2, hk]; rfl
      rw [if_pos hk, eb, if_pos rfl, if_pos rfl]
      obtain ⟨g1, e1, c1, O1⟩ := m_againL (un := un) h2 (a := a) 325 FU 0 g0 rfl (FU_gt (by decide)) W0.1 k1 (by rw [ca]; congr 5)
      have M1 := W0.1.on O1 (by decide)
      obtain ⟨g2, e2, M2, O2⟩ := y_p18 M1 0
      have OO : On (fun k => k = 145 ∨ k = 146 ∨ k = 153) g0 g2 := (O1.mono (fun k hk => Or.inr (Or.inl hk))).trans (O2.mono (fun k hk => Or.inl hk))
      obtain ⟨v1, f1, v2, v3⟩ := W0.2.2.2.1
      refine ⟨g2, ?_, W0.pwu OO M2 ⟨_, (O2.2 _ (by decide)).trans c1, (k2 n h2 hk).cg fun k hk => ?_⟩ ⟨by omega, f1, (O2.2 _ (by decide)).trans ((O1.2 _ (by decide)).trans v2), fun i hi => absurd hi (Nat.not_lt_zero i)⟩, O0'.trans (mon OO (fun k hk => by omega))⟩
      · rw [← l_0] at e1 e2
        rw [e1, e2, Option.bind_some]
      · rw [if_pos hk]
    · have eb : agB kp n = false := by unfold agB; rw [decide_eq_true h2, Bool.true_and]; simpa using hk
      rw [if_neg hk, eb, if_neg (by decide), if_neg (by decide)]
      exact ⟨g0, rfl, W0, O0'⟩
  · have eb : agB kp n = false := by unfold agB; rw [decide_eq_false h2]; rfl
    rw [if_neg h2, eb, if_neg (show ¬ false = true by decide), if_neg (show ¬ false = true by decide)]
    exact ⟨g0, rfl, W0, O0'⟩
theorem xc_undo (W : CIk h mk tx len w un us kp ks C row hq sq) : ∃ h' mk', fX10_undo h 0 = some (J (udA un), h') ∧ CIk h' mk' tx len (udW w un us) (un - 1) us kp ks C row hq sq ∧ On PC0 h h' := by
  obtain ⟨F, fm, fs, fb, w1, w2, w3, w4, w5, w6, w7, w8, w9, w10, w11, w12, w13, w14, w15, w16, w17, w18⟩ := W.2.2.2.2.1
  unfold fX10_undo fX2_bringBack udA udW
  simp only [x_h W.1, if_true, x_4 W.1, x_2 W.1, Option.bind_some, ob_h w1, ob_i w1 (k := 4) (by decide) w6]
  by_cases h0 : un = 0
  · subst h0
    rw [if_pos (show J 0 = 0 from rfl), if_pos rfl, if_pos rfl, m1_J]
    refine ⟨h, mk, rfl, W, On.rf⟩
  · have z0 : ¬ J un = 0 := fun z => by rw [l_0, J_inj (by omega) (by decide)] at z; omega
    rw [if_neg z0, if_neg h0, if_neg h0]
    have l9 : (9 : Int32) = J 9 := rfl
    have jr : jrem (J mk + 8) 9 = some (J ((mk + 8) % 9)) := by
      rw [l_8, J_add, l9]
      exact jrem_J (by omega) (by decide) (by decide)
    obtain ⟨g1, e1, M1, O1⟩ := ob_p w1 (k := 3) (by decide) (.int (J ((mk + 8) % 9)))
    obtain ⟨g2, e2, M2, O2⟩ := ob_p M1 (k := 4) (by decide) (.int (J (un - 1)))
    have OO : On (fun k => k = 20) h g2 := (O1.on1 (P := fun k => k = 20) rfl).trans (O2.on1 rfl)
    have f4 : fput F 3 (.int (J ((mk + 8) % 9))) 4 = .int (J un) := by rw [fput_ne (by decide)]; exact w6
    have f3 : fput (fput F 3 (.int (J ((mk + 8) % 9)))) 4 (.int (J (un - 1))) 3 = .int (J ((mk + 8) % 9)) := by rw [fput_ne (by decide), fput_eq]
    have f0 : fput (fput F 3 (.int (J ((mk + 8) % 9)))) 4 (.int (J (un - 1))) 0 = .ref 21 := by rw [fput_ne (by decide), fput_ne (by decide)]; exact w2
    have es : J un - 1 = J (un - 1) := by rw [l_1, J_sub (by omega)]
    have hm : (mk + 8) % 9 < 9 := Nat.mod_lt _ (by decide)
    have c9 : g2.1 21 = some (.inl (5, 9, .inr (.inr (.inr (.inr fm))))) := (OO.2 _ (by decide)).trans w9
    have Rm : WR g2 (24 + 9 * ((mk + 8) % 9)) (us (un - 1)) := by
      have := (w16 (un - 1) (by omega)).on OO (fun k z1 z2 => by omega)
      rw [show (mk + 9 - un + (un - 1)) % 9 = (mk + 8) % 9 by omega] at this
      exact this
    obtain ⟨g3, e3, R3, O3⟩ := c_copy (W.2.2.1.c1.on OO (fun k z1 z2 => by omega)) Rm (by omega)
    have O3' : On (fun k => 2 ≤ k ∧ k < 11) g2 g3 := O3.on (fun k z1 z2 => ⟨z1, z2⟩)
    have OA : On (fun k => (2 ≤ k ∧ k < 11) ∨ k = 20) h g3 := (OO.mono (fun k hk => Or.inr hk)).trans (O3'.mono (fun k hk => Or.inl hk))
    have M3 := M2.on O3' (by omega)
    refine ⟨g3, (mk + 8) % 9, ?_, W.phk (OA.mono (fun k hk => by omega)) R3 ⟨_, fm, fs, fb, M3, f0, by rw [fput_ne (by decide), fput_ne (by decide)]; exact w3, by rw [fput_ne (by decide), fput_ne (by decide)]; exact w4, f3, fput_eq, hm, by omega, (OA.2 _ (by omega)).trans w9, w10, (OA.2 _ (by omega)).trans w11, w12, (OA.2 _ (by omega)).trans w13, w14, fun i hi => (w15 i hi).on OA (fun k z1 z2 => by omega), fun i hi => ?_, fun j hj => (w17 j hj).on OA (fun k z1 z2 => by omega), fun j hj hk => (w18 j hj hk).on OA (fun k z1 z2 => by omega)⟩, lon OA (fun k hk => by omega)⟩
    · have tot : fX2_total g3 20 = some (J (un - 1)) := by
        unfold fX2_total
        simp only [ob_h M3, if_true, ob_i M3 (k := 4) (by decide) fput_eq, Option.bind_some]
      have mn : ¬ J ((mk + 8) % 9) < 0 := fun z => by have := (J_neg0 (by omega)).1 z; omega
      have ml : ¬ J 9 ≤ J ((mk + 8) % 9) := fun z => by rw [J_le (by decide) (by omega)] at z; omega
      have x4 : gR g3 10 0 4 = some 20 := x_4 (W.1.on OA (by omega))
      simp only [ob_i w1 (k := 3) (by decide) w5, Option.bind_some, jr, e1, ob_i M1 (k := 4) (by decide) f4, es, e2, ob_i M2 (k := 3) (by decide) f3]
      rw [if_neg mn]
      simp only [ob_r M2 (k := 0) (by decide) f0, Option.bind_some, aL_at c9]
      rw [if_neg ml]
      simp only [Option.bind_some, aR_at c9 hm (by decide) (w10 _ hm), e3, if_true, x4, tot]
    · have := (w16 i (by omega)).on OA (fun k z1 z2 => by omega)
      rw [show (mk + 8) % 9 + 9 - (un - 1) + i = (mk + 8) % 9 + 9 - (un - 1) + i from rfl, show ((mk + 8) % 9 + 9 - (un - 1) + i) % 9 = (mk + 9 - un + i) % 9 by omega]
      exact this
theorem m_undoL {rl hl sl n : Nat} {f a : Nat → Int32} (hn : n < 8) : ∀ q m i g, i + q = 325 → q < m → MO g len rl n rn hl sl → g.1 153 = some (.inl (0, 2600, .inl f)) → g.1 146 = some (.inl (0, 325, .inl (fun j => if j < i then f (325 * n + j) else a j))) → ∃ h', fX11_undo_L26 m g 145 (J i) = some (J n, h') ∧ h'.1 146 = some (.inl (0, 325, .inl (fun j => if j < 325 then f (325 * n + j) else a j))) ∧ On (fun k => k = 146) g h'
  | 0, m + 1, i, g, e, _, W, c1, c2 => by
    have hi : i = 325 := by omega
    subst hi
    refine ⟨g, ?_, c2, On.rf⟩
    rw [fX11_undo_L26]
    simp (disch := omega) only [l_325, J_le]
    rw [if_pos (by omega), y_18 W, Option.bind_some]
  | q + 1, m + 1, i, g, e, hm, W, c1, c2 => by
    obtain ⟨g1, e1, c3, O1⟩ := cp_row c2 (by omega)
    obtain ⟨g2, e2, c4, O2⟩ := m_undoL hn q m (i + 1) g1 (by omega) (by omega) (W.on O1 (by decide)) ((O1.2 _ (by decide)).trans c1) c3
    refine ⟨g2, ?_, c4, O1.trans O2⟩
    rw [fX11_undo_L26]
    have e1' : J i + 1 = J (i + 1) := by rw [l_1, J_add]
    simp (disch := omega) only [l_325, J_le]
    rw [if_neg (by omega)]
    simp (disch := omega) only [y_0 W, y_17 W, y_18 W, Option.bind_some, J_mul, J_add, aI_at c1, e1, letF, e1', e2]
theorem xm_undo (W : MIv h tx len w un us kp ks ρ rn row hq sq) : ∃ h', fX11_undo h 145 = some (J (udA un), h') ∧ MIv h' tx len (udW w un us) (un - 1) us kp ks ρ rn row hq sq ∧ On PM0 h h' := by
  obtain ⟨g0, e0, W0, -, O0⟩ := mi_t0 W
  have O0' : On PM0 h g0 := mon O0 (fun k hk => by omega)
  obtain ⟨v1, f1, v2, v3⟩ := W0.2.2.2.1
  unfold fX11_undo udA udW
  simp only [y_h W.1, if_true, e0, Option.bind_some, y_18 W0.1]
  by_cases h0 : un = 0
  · subst h0
    rw [if_pos (show J 0 = 0 from rfl), if_pos rfl, if_pos rfl, m1_J]
    refine ⟨g0, rfl, W0, O0'⟩
  · have z0 : ¬ J un = 0 := fun z => by rw [l_0, J_inj (by omega) (by decide)] at z; omega
    rw [if_neg z0, if_neg h0, if_neg h0]
    have es : J un - 1 = J (un - 1) := by rw [l_1, J_sub (by omega)]
    obtain ⟨g1, e1, M1, O1⟩ := y_p18 W0.1 (un - 1)
    obtain ⟨a, ca, sa⟩ := W0.2.2.1
    obtain ⟨g2, e2, c2, O2⟩ := m_undoL (n := un - 1) (by omega) (a := a) 325 FU 0 g1 rfl (FU_gt (by decide)) M1 ((O1.2 _ (by decide)).trans v2) (by rw [O1.2 _ (by decide), ca]; congr 5)
    have OO : On (fun k => k = 145 ∨ k = 146 ∨ k = 153) g0 g2 := (O1.mono (fun k hk => Or.inl hk)).trans (O2.mono (fun k hk => Or.inr (Or.inl hk)))
    refine ⟨g2, ?_, W0.pwu OO (M1.on O2 (by decide)) ⟨_, c2, (v3 (un - 1) (by omega)).cg fun k hk => ?_⟩ ⟨by omega, f1, (O2.2 _ (by decide)).trans ((O1.2 _ (by decide)).trans v2), fun i hi => v3 i (by omega)⟩, O0'.trans (mon OO (fun k hk => by omega))⟩
    · rw [← l_0] at e2
      simp only [es, e1, Option.bind_some, e2]
    · rw [if_pos hk]
end CF
