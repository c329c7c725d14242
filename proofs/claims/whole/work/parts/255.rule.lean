/-! a rule is told -/
theorem sr_0 (x : Int32) : x >>> (J 0 &&& 31) = x := by
  apply Int32.toBitVec.inj
  rw [Int32.toBitVec_shiftRight, sh31 0 (by decide), BitVec.sshiftRight_eq']
  simp
theorem and_255 (n : Nat) : J n &&& 255 = J (n % 256) := by
  have : (255 : Int32) = J 255 := rfl
  rw [this, J_and]
  congr 1
  exact Nat.and_two_pow_sub_one_eq_mod n 8
theorem nb_and (x : Int32) : vp_nar (tyA 3) x &&& 255 = x &&& 255 := by
  obtain ⟨n, hn, rfl⟩ := J_surj x
  show vp_nar .byte _ &&& 255 = _
  have e := by_and (n := n) (p := 0) (by decide)
  rw [sr_0] at e
  rw [vp_nar_byte, and_255]
  exact e
theorem nb_lo {t : Nat} (h : t < 128) : vp_nar (tyA 3) (J t) = J t := by
  show vp_nar .byte _ = _
  have e := by_lo (n := t) (p := 0) (by decide) (by rw [Nat.shiftRight_zero]; omega)
  rw [sr_0] at e
  rw [vp_nar_byte, e, Nat.shiftRight_zero, Nat.mod_eq_of_lt (by omega)]
theorem bt_step {h : AH} {f a : Nat → Int32} {tx : Nat → Nat} {len i P : Nat} (c1 : h.1 147 = some (.inl (3, 80, .inl f))) (T : TXT f tx len) (hl : len ≤ 80) (cP : h.1 P = some (.inl (3, 40, .inl a))) (hi : i < len) (h40 : i < 40) (Ta : TXT a tx i) : ∃ h' a', aI h 3 147 (J i) = some (f i) ∧ sI h 3 P (J i) (f i) = some h' ∧ h'.1 P = some (.inl (3, 40, .inl a')) ∧ TXT a' tx (i + 1) ∧ Ot P (P + 1) h h' := by
  refine ⟨_, fun j => if j = i then vp_nar (tyA 3) (f i) else a j, aI_at c1 (by omega) (by decide), sI_at cP h40 (by decide), ?_, fun j hj => ?_, Ot_hset ⟨Nat.le_refl _, by omega⟩⟩
  · rw [hset_eq]
    congr 5
  · obtain ⟨t1, t2, t3⟩ := T i hi
    by_cases e : j = i
    · subst e
      simp only [if_true]
      refine ⟨t1, (nb_and _).trans t2, fun z => ?_⟩
      rw [t3 z, nb_lo z]
    · simp only [if_neg e]
      exact Ta j (by omega)
theorem rf_mref {k r : Nat} (h : mref k = some r) : ¬ RF k := by
  intro z
  rcases z with z | z | z | z | z | z | z <;> subst z <;> cases h
theorem MF.rd {F F' : Nat → Value} {len rl un rn hl sl : Nat} (M : MF F len rl un rn hl sl) (f2 : F' 2 = .int (J 0)) (e : ∀ k, ¬ RF k → F' k = F k) : MF F' 0 rl un rn hl sl := by
  obtain ⟨m1, m2, m3, m4, m5, m6, m7⟩ := M
  refine ⟨fun k r hk => ?_, f2, ?_, ?_, ?_, ?_, ?_⟩
  · rw [e k (rf_mref hk)]; exact m1 k r hk
  · rw [e _ (by unfold RF; omega)]; exact m3
  · rw [e _ (by unfold RF; omega)]; exact m4
  · rw [e _ (by unfold RF; omega)]; exact m5
  · rw [e _ (by unfold RF; omega)]; exact m6
  · rw [e _ (by unfold RF; omega)]; exact m7
/-- a rule copied by the class -/
theorem c_rcopy {h : AH} {C : List Nat} (U : RU h 126 C) (V : RUw h 123) : ∃ h', fX6_copyFrom h 123 126 = some h' ∧ RU h' 123 C ∧ RU h' 126 C ∧ Ot 123 126 h h' := by
  have U0 := U
  obtain ⟨F, fc, fs, w1, w2, w3, w4, w5, w6, w7, w8⟩ := U
  obtain ⟨G, gc, gs, x, v1, v2, v3, v4, v5, v6⟩ := V
  have e : acI h 127 0 124 0 40 = some (hset h 124 (.inl (0, 40, .inl (va_cpy fc gc 0 0 40)))) := by
    unfold acI
    rw [w5, v5]
    rfl
  have O1 : Ot 123 126 h (hset h 124 (.inl (0, 40, .inl (va_cpy fc gc 0 0 40)))) := Ot_hset ⟨by decide, by decide⟩
  have O1' : On (fun k => k = 124) h (hset h 124 (.inl (0, 40, .inl (va_cpy fc gc 0 0 40)))) := (Ot_hset (lo := 124) (hi := 125) ⟨by decide, by decide⟩).on1 rfl
  have M1 := v1.on O1' (by decide)
  obtain ⟨g2, e2, M2, O2⟩ := ob_p M1 (k := 2) (by decide) (.int (J C.length))
  have OO : Ot 123 126 h g2 := O1.trans (O2.mono (by decide) (by decide))
  refine ⟨g2, ?_, ⟨_, _, gs, M2, by rw [fput_ne (by decide)]; exact v2, by rw [fput_ne (by decide)]; exact v3, fput_eq, (O2.2 124 (by decide)).trans hset_eq, (O2.2 125 (by decide)).trans ((O1'.2 125 (by decide)).trans v6), w7, fun j k hj => ?_⟩, ?_, OO⟩
  · unfold fX6_copyFrom
    simp only [ob_h v1, if_true, ob_r w1 (k := 0) (by decide) w2, ob_r v1 (k := 0) (by decide) v2, Option.bind_some, e, ob_i (w1.on O1' (by decide)) (k := 2) (by decide) w4, e2]
  · have hj' : j < C.length := (List.getElem?_eq_some_iff.mp hj).1
    unfold va_cpy
    show (if 0 ≤ j ∧ j < 0 + 40 then fc (0 + (j - 0)) else gc j) = J k
    rw [if_pos ⟨Nat.zero_le _, by omega⟩, Nat.sub_zero, Nat.zero_add]
    exact w8 j k hj
  · exact U0.on (OO.on (P := fun k => 123 ≤ k ∧ k < 126) (fun k h1 h2 => ⟨h1, h2⟩)) (by omega) (by omega) (by omega)
def ruA (tx : Nat → Nat) (len : Nat) : Nat := if (rin tx len).1 = BIG then 0 else 4294967295 - (rin tx len).1
def ruC (tx : Nat → Nat) (len : Nat) (C : List Nat) : List Nat := if (rin tx len).1 = BIG then (rin tx len).2 else C
def ruT (tx : Nat → Nat) (len : Nat) (ρ : Nat → Nat) : Nat → Nat := if (rin tx len).1 = BIG then tx else ρ
def ruN (tx : Nat → Nat) (len : Nat) (rn : Nat) : Nat := if (rin tx len).1 = BIG then len else rn
theorem ru_rlr {C : List Nat} {ρ tx : Nat → Nat} {rn len : Nat} (L : RLR C ρ rn) (ht : ∀ i, i < len → tx i < 256) : RLR (ruC tx len C) (ruT tx len ρ) (ruN tx len rn) := by
  unfold ruC ruT ruN
  by_cases z : (rin tx len).1 = BIG
  · rw [if_pos z, if_pos z, if_pos z]
    exact rin_rlr ht z
  · rw [if_neg z, if_neg z, if_neg z]
    exact L
theorem rin_40 {tx : Nat → Nat} {len : Nat} (ht : ∀ i, i < len → tx i < 256) (z : (rin tx len).1 = BIG) : len ≤ 40 := by
  rcases rin_rlr ht z with ⟨h1, -⟩ | ⟨-, h2, -⟩ <;> omega
theorem rin_l {tx : Nat → Nat} {len : Nat} : (rin tx len).1 < 4294967296 := by
  by_cases z : (rin tx len).1 = BIG
  · rw [z]; decide
  · have := rin_le z
    omega
section RL
variable {h g : AH} {mk : Nat} {tx : Nat → Nat} {len : Nat} {w : ST} {un : Nat} {us : Nat → ST} {kp : Nat → Bool} {ks : Nat → ST} {C : List Nat} {ρ : Nat → Nat} {rn : Nat} {row : List Int64} {hq : List (Nat × Nat)} {sq : List (Nat × Nat × Bool)}
theorem MIv.prl {ρ' : Nat → Nat} {rn' : Nat} (W : MIv h tx len w un us kp ks ρ rn row hq sq) (O : On (fun k => k = 145 ∨ k = 150) h g) (M : MO g len row.length un rn' hq.length sq.length) (T : MTx g 150 40 ρ' rn') : MIv g tx len w un us kp ks ρ' rn' row hq sq := by
  obtain ⟨w1, w2, w3, w4, w5, w6, w7, w8, w9, w10⟩ := W
  exact ⟨M, w2.on O (by omega), w3.on O (by omega), w4.on O (by omega), w5.on O (by omega) (by omega), T, w7.on O (by omega), w8.on O (by omega) (by omega), w9.on O (by omega) (by omega) (by omega), w10.on O (fun k hk => by omega)⟩
theorem CIk.prd (W : CIk h mk tx len w un us kp ks C row hq sq) (O : On (PQ 129 126) h g) (U : RUw g 126) (D : RD7w g 129) : CIk g mk tx len w un us kp ks C row hq sq := by
  obtain ⟨w1, w2, w3, w4, w5, w6, w7, w8, w9, w10, w11, w12⟩ := W
  exact ⟨w1.on O (by omega), w2.on O (by omega), w3.on O (fun k h1 h2 => by omega), w4.on O (fun k h1 h2 => by omega), w5.on O (fun k h1 h2 => by omega), w6.on O (by omega) (by omega) (by omega), U, D, w9.on O (by omega) (by omega), w10.on O (fun k h1 h2 => by omega), w11.on O (fun k h1 h2 => by omega), w12.on O (by omega) (by omega)⟩
theorem CIk.prul {C' : List Nat} (W : CIk h mk tx len w un us kp ks C row hq sq) (O : On (fun k => 123 ≤ k ∧ k < 126) h g) (U : RU g 123 C') : CIk g mk tx len w un us kp ks C' row hq sq := by
  obtain ⟨w1, w2, w3, w4, w5, w6, w7, w8, w9, w10, w11, w12⟩ := W
  exact ⟨w1.on O (by omega), w2.on O (by omega), w3.on O (fun k h1 h2 => by omega), w4.on O (fun k h1 h2 => by omega), w5.on O (fun k h1 h2 => by omega), U, w7.on O (by omega) (by omega) (by omega), w8.on O (by omega) (by omega) (by omega), w9.on O (by omega) (by omega), w10.on O (fun k h1 h2 => by omega), w11.on O (fun k h1 h2 => by omega), w12.on O (by omega) (by omega)⟩
/-- the text taken: it stays in its row -/
theorem ci_take (W : CIk h mk tx len w un us kp ks C row hq sq) : ∃ g, fX10_takeText h 0 = some (J len, g) ∧ CIk g mk tx 0 w un us kp ks C row hq sq ∧ TC g 1 tx len ∧ On PC0 h g := by
  obtain ⟨f, t1, t2, t3⟩ := W.2.1
  obtain ⟨g1, e1, M1, O1⟩ := x_p1 W.1 0
  have O1' : On (fun k => k = 0 ∨ k = 1) h g1 := O1.on1 (Or.inl rfl)
  refine ⟨g1, ?_, W.ptx O1' M1 ⟨f, (O1.2 _ (by omega)).trans t1, by omega, fun i hi => absurd hi (Nat.not_lt_zero i)⟩, ⟨f, (O1.2 _ (by omega)).trans t1, t2, t3⟩, lon O1' (fun k hk => by omega)⟩
  unfold fX10_takeText
  simp only [x_h W.1, if_true, x_1 W.1, Option.bind_some, l_0, e1]
/-- the draft read out of the text, by the class -/
theorem ci_draft (W : CIk h mk tx 0 w un us kp ks C row hq sq) (T : TC h 1 tx len) : ∃ g, fX7_readRule h 129 1 (J len) 126 = some (J (rin tx len).1, g) ∧ CIk g mk tx 0 w un us kp ks C row hq sq ∧ ((rin tx len).1 = BIG → RU g 126 (rin tx len).2) ∧ On PC0 h g := by
  obtain ⟨g, e, D, U, V, O⟩ := c_readRule (q := 129) (d := 126) (T := 1) (by decide) (by unfold PQ; omega) W.2.2.2.2.2.2.2.1 W.2.2.2.2.2.2.1 T
  exact ⟨g, e, W.prd O U D, V, O.mono (fun k hk => by show k < 145; unfold PQ at hk; omega)⟩
theorem xc_rule (W : CIk h mk tx len w un us kp ks C row hq sq) : ∃ h' mk', fX10_rule h 0 = some (J (ruA tx len), h') ∧ CIk h' mk' tx 0 w un us kp ks (ruC tx len C) row hq sq ∧ On PC0 h h' := by
  have rl := rin_l (tx := tx) (len := len)
  obtain ⟨g1, e1, W1, T1, O1⟩ := ci_take W
  obtain ⟨g2, e2, W2, V2, O2⟩ := ci_draft W1 T1
  unfold fX10_rule ruA ruC
  simp only [x_h W.1, if_true, x_7 W.1, x_0 W.1, Option.bind_some, e1, x_6 W1.1, e2, x_5 W2.1, x_6 W2.1, m1_J]
  have hz : J (rin tx len).1 = J 4294967295 ↔ (rin tx len).1 = BIG := J_inj rl (by decide)
  by_cases z : (rin tx len).1 = BIG
  · obtain ⟨g3, e3, U3, -, O3⟩ := c_rcopy (V2 z) W2.2.2.2.2.2.1.w
    have O3' : On (fun k => 123 ≤ k ∧ k < 126) g2 g3 := O3.on (fun k h1 h2 => ⟨h1, h2⟩)
    rw [if_pos (hz.mpr z), if_pos z, if_pos z]
    refine ⟨g3, mk, ?_, W2.prul O3' U3, (O1.trans O2).trans (lon O3' (fun k hk => by omega))⟩
    simp only [e3, Option.bind_some, l_0]
  · have := rin_le z
    rw [if_neg (fun y => z (hz.mp y)), if_neg z, if_neg z, J_sub (by omega)]
    exact ⟨g2, mk, rfl, W2, O1.trans O2⟩
/-- a text read as a rule, by the reference -/
theorem mi_readRule (W : MIv h tx len w un us kp ks ρ rn row hq sq) : ∃ g, fX11_readRule h 145 = some (decide ((rin tx len).1 = BIG), g) ∧ MIv g tx 0 w un us kp ks ρ rn row hq sq ∧ gI g 11 145 10 = some (J (rin tx len).1) ∧ On (fun k => k = 145) h g := by
  have W0 := W
  obtain ⟨⟨F, M, mf⟩, ⟨t0, f, t1, t2⟩, w3, w4, w5, w6, w7, w8, w9, w10⟩ := W
  obtain ⟨g, F', e, M', f10, f2, fe, O⟩ := m_readRule (T := 147) (τ := tx) (len := len) (Q := 152) M (mf.1 1 _ rfl) mf.2.1 (mf.1 16 _ rfl) (by decide) (by decide) ⟨80, f, t1, t0, by decide, t2⟩ w10.2.2.1
  exact ⟨g, e, W0.ptx (O.mono (fun k hk => Or.inl hk)) ⟨F', M', mf.rd f2 fe⟩ ⟨Nat.zero_le _, f, (O.2 147 (by decide)).trans t1, fun i hi => absurd hi (Nat.not_lt_zero i)⟩, ob_i M' (by decide) f10, O⟩
theorem m_ruleL {f : Nat → Int32} {l2 rl hl sl : Nat} (T : TXT f tx len) (h40 : len ≤ 40) : ∀ m q i g a, i + m = len → m < q → MO g l2 rl un rn hl sl → g.1 147 = some (.inl (3, 80, .inl f)) → g.1 150 = some (.inl (3, 40, .inl a)) → TXT a tx i → ∃ h' a', fX11_rule_L26 q g 145 (J len) (J i) = some (J 0, h') ∧ MO h' l2 rl un len hl sl ∧ h'.1 150 = some (.inl (3, 40, .inl a')) ∧ TXT a' tx len ∧ On (fun k => k = 145 ∨ k = 150) g h'
  | 0, q + 1, i, g, a, e, _, M, c1, c2, Ta => by
    have : i = len := by omega
    subst this
    obtain ⟨g1, e1, M1, O1⟩ := y_p14 M i
    refine ⟨g1, a, ?_, M1, (O1.2 _ (by decide)).trans c2, Ta, O1.mono (fun k hk => Or.inl hk)⟩
    rw [fX11_rule_L26]
    simp (disch := omega) only [J_le]
    rw [if_pos (by omega)]
    simp only [e1, Option.bind_some]
    rfl
  | m + 1, q + 1, i, g, a, e, hm, M, c1, c2, Ta => by
    obtain ⟨g1, a1, r1, e1, c3, T1, O1⟩ := bt_step c1 T (by omega) c2 (show i < len by omega) (by omega) Ta
    have O1' : On (fun k => k = 145 ∨ k = 150) g g1 := O1.on1 (Or.inr rfl)
    obtain ⟨g2, a2, e2, M2, c4, T2, O2⟩ := m_ruleL T h40 m q (i + 1) g1 a1 (by omega) (by omega) (M.on (O1.on1 (P := fun k => k = 150) rfl) (by decide)) ((O1.2 _ (by decide)).trans c1) c3 T1
    refine ⟨g2, a2, ?_, M2, c4, T2, O1'.trans O2⟩
    rw [fX11_rule_L26]
    have ei : J i + 1 = J (i + 1) := by rw [l_1, J_add]
    simp (disch := omega) only [J_le, y_12 M, y_1 M, Option.bind_some, r1, e1, letF, ei]
    rw [if_neg (by omega)]
    exact e2
theorem xm_rule (W : MIv h tx len w un us kp ks ρ rn row hq sq) : ∃ h', fX11_rule h 145 = some (J (ruA tx len), h') ∧ MIv h' tx 0 w un us kp ks (ruT tx len ρ) (ruN tx len rn) row hq sq ∧ On PM0 h h' := by
  obtain ⟨g0, e0, W0, -, O0⟩ := mi_t0 W
  obtain ⟨g1, e1, W1, f10, O1⟩ := mi_readRule W0
  have O01 : On PM0 h g1 := (mon O0 (fun k hk => by omega)).trans (mon O1 (fun k hk => by omega))
  obtain ⟨t0, f, t1, t2⟩ := W0.2.1
  unfold fX11_rule ruA ruT ruN
  simp only [y_h W.1, if_true, e0, y_2 W0.1, Option.bind_some, e1, f10, decide_eq_true_eq]
  by_cases z : (rin tx len).1 = BIG
  · have h40 := rin_40 (fun i hi => (t2 i hi).1) z
    obtain ⟨p0, a, p1, p2⟩ := W1.2.2.2.2.2.1
    obtain ⟨g2, a2, e2, M2, c2, T2, O2⟩ := m_ruleL t2 h40 len FU 0 g1 a (by omega) (FU_gt (by omega)) W1.1 ((O1.2 147 (by decide)).trans t1) p1 (fun i hi => absurd hi (Nat.not_lt_zero i))
    simp only [if_pos z]
    exact ⟨g2, e2, W1.prl O2 M2 ⟨h40, a2, c2, T2⟩, O01.trans (mon O2 (fun k hk => by omega))⟩
  · have := rin_le z
    simp only [if_neg z]
    rw [m1_J, J_sub (by omega)]
    exact ⟨g1, rfl, W1, O01⟩
end RL
