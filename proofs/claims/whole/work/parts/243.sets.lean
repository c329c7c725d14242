/-! parts of the two objects set anew -/
section CD
variable {h g : AH} {mk : Nat} {tx : Nat → Nat} {len : Nat} {w : ST} {un : Nat} {us : Nat → ST} {kp : Nat → Bool} {ks : Nat → ST} {C : List Nat} {ρ : Nat → Nat} {rn : Nat} {row : List Int64} {hq : List (Nat × Nat)} {sq : List (Nat × Nat × Bool)}
theorem CIk.ptx {tx' : Nat → Nat} {len' : Nat} (W : CIk h mk tx len w un us kp ks C row hq sq) (O : On (fun k => k = 0 ∨ k = 1) h g) (M : C0 g len') (T : TC g 1 tx' len') : CIk g mk tx' len' w un us kp ks C row hq sq := by
  obtain ⟨w1, w2, w3, w4, w5, w6, w7, w8, w9, w10, w11, w12⟩ := W
  exact ⟨M, T, w3.on O (fun k h1 h2 => by omega), w4.on O (fun k h1 h2 => by omega), w5.on O (fun k h1 h2 => by omega), w6.on O (by omega) (by omega) (by omega), w7.on O (by omega) (by omega) (by omega), w8.on O (by omega) (by omega) (by omega), w9.on O (by omega) (by omega), w10.on O (fun k h1 h2 => by omega), w11.on O (fun k h1 h2 => by omega), w12.on O (by omega) (by omega)⟩
theorem CIk.phear {hq' : List (Nat × Nat)} (W : CIk h mk tx len w un us kp ks C row hq sq) (O : On (fun k => 134 ≤ k ∧ k < 138) h g) (M : CHear g hq') : CIk g mk tx len w un us kp ks C row hq' sq := by
  obtain ⟨w1, w2, w3, w4, w5, w6, w7, w8, w9, w10, w11, w12⟩ := W
  exact ⟨w1.on O (by omega), w2.on O (by omega), w3.on O (fun k h1 h2 => by omega), w4.on O (fun k h1 h2 => by omega), w5.on O (fun k h1 h2 => by omega), w6.on O (by omega) (by omega) (by omega), w7.on O (by omega) (by omega) (by omega), w8.on O (by omega) (by omega) (by omega), w9.on O (by omega) (by omega), M, w11.on O (fun k h1 h2 => by omega), w12.on O (by omega) (by omega)⟩
theorem CIk.psaw {sq' : List (Nat × Nat × Bool)} (W : CIk h mk tx len w un us kp ks C row hq sq) (O : On (fun k => 138 ≤ k ∧ k < 143) h g) (M : CSaw g sq') : CIk g mk tx len w un us kp ks C row hq sq' := by
  obtain ⟨w1, w2, w3, w4, w5, w6, w7, w8, w9, w10, w11, w12⟩ := W
  exact ⟨w1.on O (by omega), w2.on O (by omega), w3.on O (fun k h1 h2 => by omega), w4.on O (fun k h1 h2 => by omega), w5.on O (fun k h1 h2 => by omega), w6.on O (by omega) (by omega) (by omega), w7.on O (by omega) (by omega) (by omega), w8.on O (by omega) (by omega) (by omega), w9.on O (by omega) (by omega), w10.on O (fun k h1 h2 => by omega), M, w12.on O (by omega) (by omega)⟩
theorem CIk.phk {w' : ST} {mk' un' : Nat} {us' : Nat → ST} {kp' : Nat → Bool} {ks' : Nat → ST} (W : CIk h mk tx len w un us kp ks C row hq sq) (O : On (fun k => (2 ≤ k ∧ k < 11) ∨ (20 ≤ k ∧ k < 123)) h g) (R : WR g 2 w') (M : CHk g mk' un' us' kp' ks') : CIk g mk' tx len w' un' us' kp' ks' C row hq sq := by
  obtain ⟨w1, w2, w3, w4, w5, w6, w7, w8, w9, w10, w11, w12⟩ := W
  exact ⟨w1.on O (by omega), w2.on O (by omega), R, w4.on O (fun k h1 h2 => by omega), M, w6.on O (by omega) (by omega) (by omega), w7.on O (by omega) (by omega) (by omega), w8.on O (by omega) (by omega) (by omega), w9.on O (by omega) (by omega), w10.on O (fun k h1 h2 => by omega), w11.on O (fun k h1 h2 => by omega), w12.on O (by omega) (by omega)⟩
theorem MIv.ptx {tx' : Nat → Nat} {len' : Nat} (W : MIv h tx len w un us kp ks ρ rn row hq sq) (O : On (fun k => k = 145 ∨ k = 147) h g) (M : MO g len' row.length un rn hq.length sq.length) (T : MTx g 147 80 tx' len') : MIv g tx' len' w un us kp ks ρ rn row hq sq := by
  obtain ⟨w1, w2, w3, w4, w5, w6, w7, w8, w9, w10⟩ := W
  exact ⟨M, T, w3.on O (by omega), w4.on O (by omega), w5.on O (by omega) (by omega), w6.on O (by omega), w7.on O (by omega), w8.on O (by omega) (by omega), w9.on O (by omega) (by omega) (by omega), w10.on O (fun k hk => by omega)⟩
theorem MIv.phear {hq' : List (Nat × Nat)} (W : MIv h tx len w un us kp ks ρ rn row hq sq) (O : On (fun k => k = 145 ∨ k = 157 ∨ k = 158) h g) (M : MO g len row.length un rn hq'.length sq.length) (T : MHear g hq') : MIv g tx len w un us kp ks ρ rn row hq' sq := by
  obtain ⟨w1, w2, w3, w4, w5, w6, w7, w8, w9, w10⟩ := W
  exact ⟨M, w2.on O (by omega), w3.on O (by omega), w4.on O (by omega), w5.on O (by omega) (by omega), w6.on O (by omega), w7.on O (by omega), T, w9.on O (by omega) (by omega) (by omega), w10.on O (fun k hk => by omega)⟩
theorem MIv.psaw {sq' : List (Nat × Nat × Bool)} (W : MIv h tx len w un us kp ks ρ rn row hq sq) (O : On (fun k => k = 145 ∨ k = 160 ∨ k = 161 ∨ k = 162) h g) (M : MO g len row.length un rn hq.length sq'.length) (T : MSaw g sq') : MIv g tx len w un us kp ks ρ rn row hq sq' := by
  obtain ⟨w1, w2, w3, w4, w5, w6, w7, w8, w9, w10⟩ := W
  exact ⟨M, w2.on O (by omega), w3.on O (by omega), w4.on O (by omega), w5.on O (by omega) (by omega), w6.on O (by omega), w7.on O (by omega), w8.on O (by omega) (by omega), T, w10.on O (fun k hk => by omega)⟩
theorem MIv.pwu {w' : ST} {un' : Nat} {us' : Nat → ST} (W : MIv h tx len w un us kp ks ρ rn row hq sq) (O : On (fun k => k = 145 ∨ k = 146 ∨ k = 153) h g) (M : MO g len row.length un' rn hq.length sq.length) (R : RA g 146 w') (T : MU g un' us') : MIv g tx len w' un' us' kp ks ρ rn row hq sq := by
  obtain ⟨w1, w2, w3, w4, w5, w6, w7, w8, w9, w10⟩ := W
  exact ⟨M, w2.on O (by omega), R, T, w5.on O (by omega) (by omega), w6.on O (by omega), w7.on O (by omega), w8.on O (by omega) (by omega), w9.on O (by omega) (by omega) (by omega), w10.on O (fun k hk => by omega)⟩
theorem MIv.pkp {kp' : Nat → Bool} {ks' : Nat → ST} (W : MIv h tx len w un us kp ks ρ rn row hq sq) (O : On (fun k => k = 164 ∨ k = 165) h g) (T : MK g kp' ks') : MIv g tx len w un us kp' ks' ρ rn row hq sq := by
  obtain ⟨w1, w2, w3, w4, w5, w6, w7, w8, w9, w10⟩ := W
  exact ⟨w1.on O (by omega), w2.on O (by omega), w3.on O (by omega), w4.on O (by omega), T, w6.on O (by omega), w7.on O (by omega), w8.on O (by omega) (by omega), w9.on O (by omega) (by omega) (by omega), w10.on O (fun k hk => by omega)⟩
end CD
/-! the text's end -/
def enN (len n : Nat) : Nat := if n ≤ len then n else len
section CD
variable {h g : AH} {mk : Nat} {tx : Nat → Nat} {len : Nat} {w : ST} {un : Nat} {us : Nat → ST} {kp : Nat → Bool} {ks : Nat → ST} {C : List Nat} {ρ : Nat → Nat} {rn : Nat} {row : List Int64} {hq : List (Nat × Nat)} {sq : List (Nat × Nat × Bool)}
theorem xc_end (W : CIk h mk tx len w un us kp ks C row hq sq) {n : Nat} (hn : n < 4294967296) : ∃ h' mk', fX10_end h 0 (J n) = some (decide (n ≤ len), h') ∧ CIk h' mk' tx (enN len n) w un us kp ks C row hq sq ∧ On PC0 h h' := by
  obtain ⟨f, t1, t2, t3⟩ := W.2.1
  unfold fX10_end enN
  simp (disch := omega) only [x_h W.1, if_true, l_0, J_lt, x_1 W.1, Option.bind_some]
  by_cases h1 : n ≤ len
  · obtain ⟨g1, e1, M1, O1⟩ := x_p1 W.1 n
    have O1' : On (fun k => k = 0 ∨ k = 1) h g1 := O1.on1 (Or.inl rfl)
    rw [if_neg (by omega), if_pos h1, decide_eq_true h1]
    simp (disch := omega) only [J_le, e1, Option.bind_some]
    rw [if_pos (by omega)]
    exact ⟨g1, mk, rfl, W.ptx O1' M1 ⟨f, (O1.2 _ (by omega)).trans t1, by omega, fun i hi => t3 i (by omega)⟩, lon O1' (fun k hk => by omega)⟩
  · rw [if_neg h1, decide_eq_false h1]
    by_cases h2 : 2147483648 ≤ n
    · rw [if_pos (by omega)]
      exact ⟨h, mk, rfl, W, On.rf⟩
    · rw [if_neg (by omega)]
      simp (disch := omega) only [J_le]
      rw [if_neg (by omega)]
      exact ⟨h, mk, rfl, W, On.rf⟩
theorem xm_end (W : MIv h tx len w un us kp ks ρ rn row hq sq) {n : Nat} (hn : n < 4294967296) : ∃ h', fX11_end h 145 (J n) = some (decide (n ≤ len), h') ∧ MIv h' tx (enN len n) w un us kp ks ρ rn row hq sq ∧ On PM0 h h' := by
  obtain ⟨g1, e1, W1, -, O1⟩ := mi_t0 W
  have O1' : On PM0 h g1 := mon O1 (fun k hk => by omega)
  obtain ⟨t0, f, t1, t2⟩ := W1.2.1
  unfold fX11_end enN
  have hi : fX11_in g1 (J n) 0 (J len) = some (decide (n ≤ len)) := by
    rw [l_0, m_in hn (by decide) (by omega)]
    simp
  simp only [y_h W.1, if_true, e1, y_2 W1.1, Option.bind_some, hi, decide_eq_true_eq]
  by_cases h1 : n ≤ len
  · obtain ⟨g2, e2, M2, O2⟩ := y_p2 W1.1 n
    rw [if_pos h1, if_pos h1, decide_eq_true h1]
    have O2' : On (fun k => k = 145 ∨ k = 147) g1 g2 := O2.mono (fun k hk => Or.inl hk)
    refine ⟨g2, ?_, W1.ptx O2' M2 ⟨by omega, f, (O2.2 _ (by decide)).trans t1, fun i hi => t2 i (by omega)⟩, O1'.trans (mon O2 (fun k hk => by omega))⟩
    rw [e2, Option.bind_some]
  · rw [if_neg h1, if_neg h1, decide_eq_false h1]
    exact ⟨g1, rfl, W1, O1'⟩
end CD
/-! signs -/
def sgT (tx : Nat → Nat) (len b : Nat) : Nat → Nat := fun i => if i = len then b else tx i
theorem tb_255 (i : Nat) : (255 : Nat).testBit i = decide (i < 8) := by
  have : (255 : Nat) = 2 ^ 8 - 1 := rfl
  rw [this, Nat.testBit_two_pow_sub_one]
theorem by_tb (n p i : Nat) : ((n >>> p) % 256).testBit i = (decide (i < 8) && n.testBit (p + i)) := by
  have : (256 : Nat) = 2 ^ 8 := rfl
  rw [this, Nat.testBit_mod_two_pow, Nat.testBit_shiftRight]
theorem by_bv (y : Int32) : (Int8.toInt32 (Int32.toInt8 y)).toBitVec = (y.toBitVec.setWidth 8).signExtend 32 := by
  rw [Int8.toBitVec_toInt32, Int32.toBitVec_toInt8, BitVec.signExtend_eq_setWidth_of_le (v := 8) y.toBitVec (by decide)]
theorem by_and {n p : Nat} (hp : p < 25) : Int8.toInt32 (Int32.toInt8 (J n >>> (J p &&& 31))) &&& 255 = J ((n >>> p) % 256) := by
  apply J_eqbv
  rw [Int32.toBitVec_and, by_bv, Int32.toBitVec_shiftRight, sh31 p (by omega), J_bv, BitVec.sshiftRight_eq']
  have h255 : (255 : Int32).toBitVec = BitVec.ofNat 32 255 := rfl
  rw [h255]
  apply BitVec.eq_of_getLsbD_eq
  intro i hi
  rw [BitVec.getLsbD_and, BitVec.getLsbD_signExtend, BitVec.getLsbD_ofNat, BitVec.getLsbD_ofNat, tb_255, by_tb]
  by_cases h8 : i < 8
  · have pn : (BitVec.ofNat 32 p).toNat = p := by rw [BitVec.toNat_ofNat]; omega
    rw [if_pos h8, BitVec.getLsbD_setWidth, BitVec.getLsbD_sshiftRight, pn, if_pos (by omega), BitVec.getLsbD_ofNat]
    simp only [hi, h8, decide_true, Bool.true_and, Bool.and_true]
    rw [decide_eq_true (show p + i < 32 by omega), decide_eq_false (show ¬ 32 ≤ i by omega)]
    rfl
  · rw [decide_eq_false h8]
    simp
theorem by_lo {n p : Nat} (hp : p < 25) (hb : (n >>> p) % 256 < 128) : Int8.toInt32 (Int32.toInt8 (J n >>> (J p &&& 31))) = J ((n >>> p) % 256) := by
  have pn : (BitVec.ofNat 32 p).toNat = p := by rw [BitVec.toNat_ofNat]; omega
  have h7 : n.testBit (p + 7) = false := by
    have := by_tb n p 7
    rw [decide_eq_true (show 7 < 8 by decide), Bool.true_and] at this
    rw [← this]
    exact Nat.testBit_lt_two_pow (show (n >>> p) % 256 < 2 ^ 7 from hb)
  have key : ∀ i, i < 8 → (BitVec.setWidth 8 ((BitVec.ofNat 32 n).sshiftRight p)).getLsbD i = n.testBit (p + i) := by
    intro i h8
    rw [BitVec.getLsbD_setWidth, BitVec.getLsbD_sshiftRight, if_pos (by omega), BitVec.getLsbD_ofNat, decide_eq_true (show p + i < 32 by omega), decide_eq_false (show ¬ 32 ≤ i by omega), decide_eq_true h8]
    rfl
  apply J_eqbv
  rw [by_bv, Int32.toBitVec_shiftRight, sh31 p (by omega), J_bv, BitVec.sshiftRight_eq', pn]
  apply BitVec.eq_of_getLsbD_eq
  intro i hi
  rw [BitVec.getLsbD_signExtend, BitVec.getLsbD_ofNat, by_tb]
  by_cases h8 : i < 8
  · rw [if_pos h8, key i h8, decide_eq_true h8, decide_eq_true hi]
    simp
  · rw [if_neg h8, decide_eq_false h8, BitVec.msb_eq_getLsbD_last, key _ (by decide)]
    have : p + (8 - 1) = p + 7 := rfl
    rw [this, h7]
    simp
theorem by_nar (y : Int32) : vp_nar (tyA 3) (Int8.toInt32 (Int32.toInt8 y)) = Int8.toInt32 (Int32.toInt8 y) := by
  show vp_nar .byte _ = _
  rw [vp_nar_byte]
  rw [Int8.toInt8_toInt32]
section CD
variable {h g : AH} {mk : Nat} {tx : Nat → Nat} {len : Nat} {w : ST} {un : Nat} {us : Nat → ST} {kp : Nat → Bool} {ks : Nat → ST} {C : List Nat} {ρ : Nat → Nat} {rn : Nat} {row : List Int64} {hq : List (Nat × Nat)} {sq : List (Nat × Nat × Bool)}
theorem c_sgn {n p q : Nat} (W : CIk h mk tx len w un us kp ks C row hq sq) (hl : len < 80) (hn : n < 4294967296) (hp : p < 25) : ∃ g, fX10_sign_L16 (q + 1) h 0 (J n) (J p) = fX10_sign_L16 q g 0 (J n) (J p + (-8)) ∧ CIk g mk (sgT tx len ((n >>> p) % 256)) (len + 1) w un us kp ks C row hq sq ∧ On PC0 h g := by
  obtain ⟨f, t1, t2, t3⟩ := W.2.1
  have hb : (n >>> p) % 256 < 256 := Nat.mod_lt _ (by decide)
  obtain ⟨g1, e1, c1, O1⟩ := wa_t t1 hl (by decide) (x := J ((n >>> p) % 256)) (nar_char (by omega))
  have M1 := W.1.on (O1.on1 (P := fun k => k = 1) rfl) (by decide)
  obtain ⟨g2, e2, M2, O2⟩ := x_p1 M1 (len + 1)
  have OO : On (fun k => k = 0 ∨ k = 1) h g2 := (O1.on1 (P := fun k => k = 0 ∨ k = 1) (Or.inr rfl)).trans (O2.on1 (Or.inl rfl))
  have ej : jush (J n) (J p) &&& 255 = J ((n >>> p) % 256) := by
    rw [J_ush hn (by omega)]
    have : (255 : Int32) = J 255 := rfl
    rw [this, J_and]
    congr 1
    exact Nat.and_two_pow_sub_one_eq_mod (n >>> p) 8
  refine ⟨g2, ?_, W.ptx OO M2 ⟨_, (O2.2 _ (by omega)).trans c1, by omega, fun i hi => ?_⟩, lon OO (fun k hk => by omega)⟩
  · rw [fX10_sign_L16]
    simp (disch := omega) only [l_0, J_lt]
    rw [if_neg (by omega)]
    have e1' : J len + 1 = J (len + 1) := by rw [l_1, J_add]
    simp (disch := omega) only [x_0 W.1, x_1 W.1, Option.bind_some, ej, u16_J, e1, x_1 M1, e1', e2, letF]
  · unfold sgT
    by_cases e : i = len
    · simp only [if_pos e]
      exact ⟨trivial, hb⟩
    · simp only [if_neg e]
      exact t3 i (by omega)
theorem m_sgn {n p v q : Nat} (W : MIv h tx len w un us kp ks ρ rn row hq sq) (hl : len < 80) (hp : p < 25) (hv : v < 4) (hpv : (8 * J v) &&& 31 = J p &&& 31) : ∃ g, fX11_sign_L20 (q + 1) h 145 (J n) (J v) = fX11_sign_L20 q g 145 (J n) (J v + (-1)) ∧ MIv g (sgT tx len ((n >>> p) % 256)) (len + 1) w un us kp ks ρ rn row hq sq ∧ On PM0 h g := by
  obtain ⟨t0, f, t1, t2⟩ := W.2.1
  have hb : (n >>> p) % 256 < 256 := Nat.mod_lt _ (by decide)
  obtain ⟨g1, e1, M1, O1⟩ := y_p2 W.1 (len + 1)
  have t1' := (O1.2 147 (by decide)).trans t1
  obtain ⟨g2, e2, c2, O2⟩ := wa_t t1' hl (by decide) (by_nar (J n >>> (J p &&& 31)))
  have M2 := M1.on (O2.on1 (P := fun k => k = 147) rfl) (by decide)
  have OO : On (fun k => k = 145 ∨ k = 147) h g2 := (O1.mono (fun k hk => Or.inl hk)).trans (O2.on1 (P := fun k => k = 145 ∨ k = 147) (Or.inr rfl))
  refine ⟨g2, ?_, W.ptx OO M2 ⟨by omega, _, c2, fun i hi => ?_⟩, mon OO (fun k hk => by omega)⟩
  · rw [fX11_sign_L20]
    simp (disch := omega) only [l_0, J_lt]
    rw [if_neg (by omega)]
    have e1' : J len + 1 = J (len + 1) := by rw [l_1, J_add]
    simp (disch := omega) only [y_1 W.1, y_2 W.1, Option.bind_some, e1', e1, hpv, e2, letF]
  · unfold sgT
    by_cases e : i = len
    · simp only [if_pos e]
      exact ⟨hb, by_and hp, fun z => by_lo hp z⟩
    · simp only [if_neg e]
      exact t2 i (by omega)
def sg4 (tx : Nat → Nat) (len n : Nat) : Nat → Nat := sgT (sgT (sgT (sgT tx len ((n >>> 24) % 256)) (len + 1) ((n >>> 16) % 256)) (len + 2) ((n >>> 8) % 256)) (len + 3) ((n >>> 0) % 256)
def sgA (len : Nat) : Nat := if len + 4 ≤ 80 then len + 4 else 4294967295
def sgL (len : Nat) : Nat := if len + 4 ≤ 80 then len + 4 else len
def sgX (tx : Nat → Nat) (len n : Nat) : Nat → Nat := if len + 4 ≤ 80 then sg4 tx len n else tx
theorem xc_sign (W : CIk h mk tx len w un us kp ks C row hq sq) {n : Nat} (hn : n < 4294967296) : ∃ h' mk', fX10_sign h 0 (J n) = some (J (sgA len), h') ∧ CIk h' mk' (sgX tx len n) (sgL len) w un us kp ks C row hq sq ∧ On PC0 h h' := by
  obtain ⟨f, t1, t2, t3⟩ := W.2.1
  unfold fX10_sign sgA sgL sgX
  simp (disch := omega) only [x_h W.1, if_true, x_1 W.1, Option.bind_some, l_4, J_add, l_80, J_le]
  by_cases h1 : len + 4 ≤ 80
  · rw [if_pos (by omega), if_pos h1, if_pos h1, if_pos h1]
    have d1 : J 24 + (-8) = J 16 := by decide
    have d2 : J 16 + (-8) = J 8 := by decide
    have d3 : J 8 + (-8) = J 0 := by decide
    have d4 : J 0 + (-8) = J 4294967288 := by decide
    have l24 : (24 : Int32) = J 24 := rfl
    have hF : FU = 4091 + 1 + 1 + 1 + 1 + 1 := rfl
    obtain ⟨g1, e1, W1, O1⟩ := c_sgn (p := 24) (q := 4091 + 1 + 1 + 1 + 1) W (by omega) hn (by decide)
    obtain ⟨g2, e2, W2, O2⟩ := c_sgn (p := 16) (q := 4091 + 1 + 1 + 1) W1 (by omega) hn (by decide)
    obtain ⟨g3, e3, W3, O3⟩ := c_sgn (p := 8) (q := 4091 + 1 + 1) W2 (by omega) hn (by decide)
    obtain ⟨g4, e4, W4, O4⟩ := c_sgn (p := 0) (q := 4091 + 1) W3 (by omega) hn (by decide)
    refine ⟨g4, mk, ?_, W4, ((O1.trans O2).trans O3).trans O4⟩
    rw [l24, hF, e1, d1, e2, d2, e3, d3, e4, d4, fX10_sign_L16]
    simp (disch := omega) only [l_0, J_lt]
    rw [if_pos (by omega), x_1 W4.1, Option.bind_some]
  · rw [if_neg (by omega), if_neg h1, if_neg h1, if_neg h1, m1_J]
    exact ⟨h, mk, rfl, W, On.rf⟩
theorem xm_sign (W : MIv h tx len w un us kp ks ρ rn row hq sq) {n : Nat} (hn : n < 4294967296) : ∃ h', fX11_sign h 145 (J n) = some (J (sgA len), h') ∧ MIv h' (sgX tx len n) (sgL len) w un us kp ks ρ rn row hq sq ∧ On PM0 h h' := by
  obtain ⟨g0, e0, W0, -, O0⟩ := mi_t0 W
  have O0' : On PM0 h g0 := mon O0 (fun k hk => by omega)
  obtain ⟨t0, f, t1, t2⟩ := W0.2.1
  unfold fX11_sign sgA sgL sgX
  simp only [y_h W.1, if_true, e0, y_2 W0.1, Option.bind_some]
  simp (disch := omega) only [l_4, J_add, l_80, J_le]
  by_cases h1 : len + 4 ≤ 80
  · rw [if_pos (by omega), if_pos h1, if_pos h1, if_pos h1]
    have d1 : J 3 + (-1) = J 2 := by decide
    have d2 : J 2 + (-1) = J 1 := by decide
    have d3 : J 1 + (-1) = J 0 := by decide
    have d4 : J 0 + (-1) = J 4294967295 := by decide
    have l3 : (3 : Int32) = J 3 := rfl
    have hF : FU = 4091 + 1 + 1 + 1 + 1 + 1 := rfl
    obtain ⟨g1, e1, W1, O1⟩ := m_sgn (n := n) (p := 24) (v := 3) (q := 4091 + 1 + 1 + 1 + 1) W0 (by omega) (by decide) (by decide) (by decide)
    obtain ⟨g2, e2, W2, O2⟩ := m_sgn (n := n) (p := 16) (v := 2) (q := 4091 + 1 + 1 + 1) W1 (by omega) (by decide) (by decide) (by decide)
    obtain ⟨g3, e3, W3, O3⟩ := m_sgn (n := n) (p := 8) (v := 1) (q := 4091 + 1 + 1) W2 (by omega) (by decide) (by decide) (by decide)
    obtain ⟨g4, e4, W4, O4⟩ := m_sgn (n := n) (p := 0) (v := 0) (q := 4091 + 1) W3 (by omega) (by decide) (by decide) (by decide)
    refine ⟨g4, ?_, W4, (((O0'.trans O1).trans O2).trans O3).trans O4⟩
    rw [l3, hF, e1, d1, e2, d2, e3, d3, e4, d4, fX11_sign_L20]
    simp (disch := omega) only [l_0, J_lt]
    rw [if_pos (by omega), y_2 W4.1, Option.bind_some]
  · rw [if_neg (by omega), if_neg h1, if_neg h1, if_neg h1, m1_J]
    exact ⟨g0, rfl, W0, O0'⟩
end CD
