/-! an act of a day, by the reference -/
abbrev PA0 : Nat → Prop := fun k => k = 145 ∨ k = 146 ∨ k = 152
section ACR
variable {h g : AH} {mk : Nat} {tx : Nat → Nat} {len : Nat} {w : ST} {un : Nat} {us : Nat → ST} {kp : Nat → Bool} {ks : Nat → ST} {C : List Nat} {ρ : Nat → Nat} {rn : Nat} {row : List Int64} {hq : List (Nat × Nat)} {sq : List (Nat × Nat × Bool)}
theorem y_refA (W : MIv h tx len w un us kp ks ρ rn row hq sq) (I : INV w) {o p v : Nat} (ho' : o < 4294967296) (hp' : p < 4294967296) (hv' : v < 4294967296) : fX11_refusesArrival h 145 (J o) (J p) (J v) = some (J (if arrN w o p v < 64 then 0 else arrN w o p v)) := by
  have R := I.rg
  have tt := I.frm
  unfold fX11_refusesArrival arrN
  have b1 : bc (bclr (w 7 o) p) ≤ 24 := bc_le _
  simp (disch := omega) only [y_h W.1, if_true, y_isObject W R ho', m_isPage, m_in, l_0, l_99, Option.bind_some, decide_eq_true_eq, Bool.and_eq_true]
  by_cases h0 : ho w o = true
  · obtain ⟨o1, o2⟩ := ho_lt h0
    have r1 := R.2.2.1 o o1
    rw [if_pos h0]
    by_cases h1 : p < 8
    · rw [if_pos h1]
      by_cases h2 : v < 100
      · rw [if_pos (by omega)]
        simp (disch := omega) only [y_0 W.1, l_288, J_add, ra_aw W.2.2.1, Option.bind_some, m_has]
        simp only [if_pos (show ho w o = true ∧ p < 8 ∧ v < 100 from ⟨h0, h1, h2⟩)]
        by_cases h3 : (w 7 o).testBit p = true
        · simp only [if_pos h3]
          simp (disch := omega) only [m_frames W.2.2.1 R, Option.bind_some, l_64, J_inj]
          by_cases h4 : tot w 8 = 64
          · rw [if_pos h4]
            simp only [if_neg (show ¬ tot w 8 < 64 by omega)]
            rw [if_neg (by decide), neg_l5]
          · rw [if_neg h4]
            simp only [if_pos (show tot w 8 < 64 by omega)]
            rw [if_pos (by omega)]
        · simp only [if_neg h3]
          rw [if_neg (by decide), neg_l2]
      · rw [if_neg (by omega)]
        simp only [if_neg (show ¬ (ho w o = true ∧ p < 8 ∧ v < 100) from fun z => h2 z.2.2)]
        rw [if_neg (by decide), m1_J]
    · rw [if_neg h1]
      simp only [if_neg (show ¬ (ho w o = true ∧ p < 8 ∧ v < 100) from fun z => h1 z.2.1)]
      rw [if_neg (by decide), m1_J]
  · rw [if_neg h0]
    simp only [if_neg (show ¬ (ho w o = true ∧ p < 8 ∧ v < 100) from fun z => h0 z.1)]
    rw [if_neg (by decide), m1_J]

theorem y_goA (W : MIv h tx len w un us kp ks ρ rn row hq sq) (I : INV w) {o p v : Nat} (hk : arrN w o p v < 64) : ∃ h' x, fX11_goArrive h 145 (J o) (J p) (J v) = some (x, h') ∧ MIv h' tx len (arrS w o p v) un us kp ks ρ rn row hq sq ∧ On (fun k => k = 146) h h' := by
  have R := I.rg
  have tt := I.frm
  obtain ⟨f1, f2⟩ := arrN_ok (o := o) (p := p) (v := v) I.rg
  obtain ⟨⟨h0, h1, h2⟩, h3, h4⟩ := f1.mpr hk
  obtain ⟨o1, o2⟩ := ho_lt h0
  have r1 := R.2.2.1 o o1
  obtain ⟨g3, e3, R3, O3⟩ := rw_pg W.2.2.1 o1 h1 v
  have O3' : On (fun k => k = 146) h g3 := O3.on1 rfl
  have M3 := W.1.on O3' (by decide)
  have a7 : holdS w o p v 7 o = w 7 o := hold_f (by decide) (by decide)
  obtain ⟨g4, e4, R4, O4⟩ := rw_aw R3 o1 (bclr (w 7 o) p)
  have O4' : On (fun k => k = 146) g3 g4 := O4.on1 rfl
  have M4 := M3.on O4' (by decide)
  have R5 : RA g4 146 (arrS w o p v) := R4.cg (by
    unfold arrS holdS
    refine ⟨?_, ⟨?_, ?_⟩, ?_, ?_, ?_, ?_, ?_, ?_, ?_⟩ <;> (try intro k) <;> simp [put])
  have x3 : aI g3 0 146 (J (288 + o)) = some (J (w 7 o)) := by rw [ra_aw R3 o1, a7]
  have x4 : aI g4 0 146 (J (288 + o)) = some (J (bclr (w 7 o) p)) := by rw [ra_aw R4 o1, put_eq]
  have bl := bclr_lt (n := 8) (p := p) r1.2.2.2.2.1
  refine ⟨g4, J (bc (bclr (w 7 o) p)), ?_, W.pw (O3'.trans O4') R5, O3'.trans O4'⟩
  unfold fX11_goArrive
  simp (disch := omega) only [y_h W.1, if_true, y_0 W.1, Option.bind_some, l_8, J_mul, J_add, e3, y_0 M3, l_288, x3, J_bclr, e4, y_0 M4, x4, bc_J]
theorem y_act (W : MIv h tx 0 w un us kp ks ρ rn row hq sq) (I : INV w) (L : RLR C ρ rn) {a k n : Nat} {f : Nat → Int32} (c : h.1 156 = some (.inl (0, 320, .inl f))) (K : dAk tx n a) (A : ARw tx a f k) (hk : k ≤ 30) (t256 : tx a < 256) : ∃ h', fX11_act h 145 (J (4 * k)) = some (decide ((dAct C tx a w).1 < 2147483648), h') ∧ MIv h' tx 0 (dAct C tx a w).2 un us kp ks ρ rn row hq sq ∧ On PA0 h h' := by
  have R := I.rg
  have G := I.gr
  obtain ⟨a0, a1, a2, a3⟩ := A
  have p1 : J (4 * k) + 1 = J (4 * k + 1) := by rw [l_1, J_add]
  have p2 : J (4 * k) + 2 = J (4 * k + 2) := by rw [show (2 : Int32) = J 2 from rfl, J_add]
  have p3 : J (4 * k) + 3 = J (4 * k + 3) := by rw [show (3 : Int32) = J 3 from rfl, J_add]
  have d0 : aI h 0 156 (J (4 * k)) = some (J (tx a)) := by rw [aI_at c (by omega) (by decide), a0]
  have d1 : aI h 0 156 (J (4 * k + 1)) = some (J (dyX tx a)) := by rw [aI_at c (by omega) (by decide), a1]
  have d2 : aI h 0 156 (J (4 * k + 2)) = some (f (4 * k + 2)) := aI_at c (by omega) (by decide)
  have d3 : aI h 0 156 (J (4 * k + 3)) = some (f (4 * k + 3)) := aI_at c (by omega) (by decide)
  have po : ∀ {g1 g2 : AH}, On (fun k => k = 146) g1 g2 → On PA0 g1 g2 := fun O => O.mono (fun k hk => Or.inr (Or.inl hk))
  have t6 := dL_ltr K.2.1
  have kk : ∀ x : Nat, x < 256 → (J (tx a) = J x ↔ tx a = x) := fun x hx => J_inj (by omega) (by omega)
  have k101 : J (tx a) = 101 ↔ tx a = 101 := kk 101 (by decide)
  have k102 : J (tx a) = 102 ↔ tx a = 102 := kk 102 (by decide)
  have k114 : J (tx a) = 114 ↔ tx a = 114 := kk 114 (by decide)
  have k116 : J (tx a) = 116 ↔ tx a = 116 := kk 116 (by decide)
  have k119 : J (tx a) = 119 ↔ tx a = 119 := kk 119 (by decide)
  have dg : ∀ j, j < dL tx a → dD tx a (j + 1) < 10 ∧ (dHi (dIx (tx a)) j = 55 → dD tx a (j + 1) < 8) := fun j hj => by
    obtain ⟨q1, q2, q3, q4⟩ := dD_r K hj
    have hh := dHi_57 (dIx (tx a)) j
    exact ⟨by omega, fun z => by omega⟩
  have l1 : dD tx a 1 < 10 := (dg 0 K.2.1).1
  unfold fX11_act dAct
  rw [if_pos (y_h W.1), y_23 W.1, Option.bind_some, p1, d1, Option.bind_some, Option.bind_some, p2, d2, Option.bind_some, Option.bind_some, d0, Option.bind_some]
  by_cases c1 : tx a = 97
  · have hl : dL tx a = 5 := by show dLn (dIx (tx a)) = 5; rw [c1]; rfl
    have eX : dyX tx a = 10 * dD tx a 1 + dD tx a 2 := by unfold dyX; rw [if_pos c1]
    have eY : dyY tx a = dD tx a 3 := by unfold dyY; rw [if_pos c1]
    have eZ : dyZ tx a = 10 * dD tx a 4 + dD tx a 5 := by unfold dyZ; rw [if_pos c1]
    have l2 : dD tx a 2 < 10 := (dg 1 (by omega)).1
    have l3 : dD tx a 3 < 10 := (dg 2 (by omega)).1
    have l4 : dD tx a 4 < 10 := (dg 3 (by omega)).1
    have l5 : dD tx a 5 < 10 := (dg 4 (by omega)).1
    rw [if_neg (fun y => by have := k101.1 y; omega), if_neg (fun y => by have := k102.1 y; omega), if_neg (fun y => by have := k114.1 y; omega), if_neg (fun y => by have := k116.1 y; omega), if_neg (fun y => by have := k119.1 y; omega), if_pos c1, Option.bind_some, p3, d3, Option.bind_some, a3 (Or.inl c1), a2 (Or.inl c1), eX, eY, eZ]
    have b1 : 10 * dD tx a 1 + dD tx a 2 < 100 := by omega
    have b3 : 10 * dD tx a 4 + dD tx a 5 < 100 := by omega
    generalize 10 * dD tx a 1 + dD tx a 2 = o at *
    generalize dD tx a 3 = p at *
    generalize hv : 10 * dD tx a 4 + dD tx a 5 = v at *
    rw [y_refA W I (by omega) (by omega) (by omega), Option.bind_some]
    obtain ⟨f1, f2⟩ := arrN_ok (o := o) (p := p) (v := v) R
    by_cases z : arrN w o p v < 64
    · obtain ⟨g1, x, e1, W1, O1⟩ := y_goA W I z
      simp only [if_pos z]
      rw [if_pos (show (0 : Int32) ≤ J 0 by decide), decide_eq_true (show arrN w o p v < 2147483648 by omega), Option.bind_some, d3, Option.bind_some, a3 (Or.inl c1), eZ, e1, Option.bind_some]
      exact ⟨g1, rfl, W1, po O1⟩
    · have q := f2 (fun y => z (f1.mp y))
      simp only [if_neg z]
      rw [if_neg (fun y => by rw [l_0, J_le (by decide) (by omega)] at y; omega), decide_eq_false (show ¬ arrN w o p v < 2147483648 by omega)]
      exact ⟨h, rfl, W, On.rf⟩
  · have eX : dyX tx a = dD tx a 1 := by unfold dyX; rw [if_neg c1]
    have eY : dyY tx a = dD tx a 2 := by unfold dyY; rw [if_neg c1]
    have eZ : dyZ tx a = 10 * dD tx a 3 + dD tx a 4 := by unfold dyZ; rw [if_neg c1]
    rw [if_neg c1, eX]
    by_cases c2 : tx a = 101
    · rw [if_pos (k101.2 c2), if_pos c2, y_0 W.1, Option.bind_some]
      clear eX eY eZ a1 d1 dg
      generalize dD tx a 1 = s at *
      rw [m_hs W.2.2.1 R (by omega), Option.bind_some]
      unfold edN edS
      have el := end_le w s
      by_cases z : hs w s = true
      · obtain ⟨g1, e1, R1, O1⟩ := m_end W.2.2.1 I (hs_lt z).1
        have O1' : On (fun k => k = 146) h g1 := O1.on1 rfl
        simp only [if_pos z]
        rw [decide_eq_true (show (endS w s).1 < 2147483648 by omega), Option.bind_some, e1, Option.bind_some]
        exact ⟨g1, rfl, W.pw O1' R1, po O1'⟩
      · simp only [if_neg z]
        exact ⟨h, rfl, W, On.rf⟩
    · rw [if_neg (fun y => c2 (k101.1 y)), if_neg c2]
      by_cases c3 : tx a = 102
      · rw [if_pos (k102.2 c3), if_pos c3, y_0 W.1, Option.bind_some]
        clear eX eY eZ a1 d1 dg
        generalize dD tx a 1 = s at *
        rw [m_refK W.2.2.1 R G (by omega), rfK_eq, Option.bind_some]
        obtain ⟨f1, f2, f3⟩ := frkN_ok (s := s) R
        by_cases z : frkN w s < 6
        · obtain ⟨g1, e1, R1, O1⟩ := m_fork W.2.2.1 I (f1.mpr z)
          have O1' : On (fun k => k = 146) h g1 := O1.on1 rfl
          simp only [if_pos z]
          rw [if_pos (show (0 : Int32) ≤ J 0 by decide), decide_eq_true (show frkN w s < 2147483648 by omega), Option.bind_some, e1, Option.bind_some]
          exact ⟨g1, rfl, W.pw O1' R1, po O1'⟩
        · have q := f2 (fun y => z (f1.mp y))
          simp only [if_neg z]
          rw [if_neg (fun y => by rw [l_0, J_le (by decide) (by omega)] at y; omega), decide_eq_false (show ¬ frkN w s < 2147483648 by omega)]
          exact ⟨h, rfl, W, On.rf⟩
      · rw [if_neg (fun y => c3 (k102.1 y)), if_neg c3]
        by_cases c4 : tx a = 114
        · have hl : dL tx a = 2 := by show dLn (dIx (tx a)) = 2; rw [c4]; rfl
          have l2 : dD tx a 2 < 8 := (dg 1 (by omega)).2 (by rw [c4]; rfl)
          rw [if_pos (k114.2 c4), if_pos c4, y_0 W.1, Option.bind_some, a2 (Or.inr (Or.inl c4)), eY]
          clear eX eY eZ a1 d1 dg
          generalize dD tx a 1 = s at *
          generalize dD tx a 2 = p at *
          rw [m_hs W.2.2.1 R (by omega), Option.bind_some]
          have tt := I.frm
          by_cases h0 : hs w s = true
          · rw [if_pos h0, Option.bind_some, m_refR W.2.2.1 R G h0 l2, Option.bind_some]
            have ek := pk_rf h0 l2
            have rv := rfF_v w s p
            have fl := ftc_lt R (s := s) l2
            unfold fX11_act_J116
            by_cases hr : rfF w s p = 0
            · rw [if_pos hr] at ek
              by_cases h5 : pgi w s p = true ∧ tot w 8 = 64
              · have er : rfR w s p = 4294967291 := by unfold rfR; rw [if_pos hr, if_pos h5]
                have en : rdN w s p = 4294967291 := by unfold rdN; rw [if_pos ⟨by omega, h5.1, by omega⟩]
                have es : rdS w s p = w := by unfold rdS; rw [if_pos (by omega), if_neg (fun z => by omega)]
                rw [er, en, es, if_neg (by decide), if_neg (by decide)]
                exact ⟨h, rfl, W, On.rf⟩
              · have er : rfR w s p = 0 := by unfold rfR; rw [if_pos hr, if_neg h5]
                have en : rdN w s p = ftc w s p := by
                  unfold rdN
                  rw [if_neg (fun z => h5 ⟨z.2.1, by omega⟩), ek]
                have es : rdS w s p = ftS w s p := by
                  unfold rdS ftS
                  rw [if_pos (by omega), ek]
                  by_cases z : pgi w s p = true
                  · have : tot w 8 < 64 := by
                      have : tot w 8 ≠ 64 := fun y => h5 ⟨z, y⟩
                      omega
                    rw [if_pos z, if_pos ⟨z, this⟩]
                  · rw [if_neg z, if_neg (fun y => z y.1)]
                obtain ⟨g1, e1, R1, O1⟩ := m_goFetch W.2.2.1 R G h0 l2
                have O1' : On (fun k => k = 146) h g1 := O1.on1 rfl
                rw [er, en, es, if_neg (by decide), if_pos (by decide), y_0 W.1, Option.bind_some, e1, Option.bind_some, decide_eq_true (show ftc w s p < 2147483648 by omega)]
                exact ⟨g1, rfl, W.pw O1' R1, po O1'⟩
            · rw [if_neg hr] at ek
              have er : rfR w s p = rfF w s p := by unfold rfR; rw [if_neg hr]
              have en : rdN w s p = rfF w s p := by unfold rdN; rw [if_neg (fun z => by omega), ek]
              rw [er, en, decide_eq_false (show ¬ rfF w s p < 2147483648 by omega)]
              by_cases h3 : rfF w s p = 4294967293
              · have es : rdS w s p = awS w s p := by unfold rdS; rw [if_neg (by omega), if_pos (by omega)]
                obtain ⟨g1, e1, R1, O1⟩ := m_await W.2.2.1 R G h0 l2
                have O1' : On (fun k => k = 146) h g1 := O1.on1 rfl
                rw [es, h3, if_pos (by decide), Option.bind_some, e1, Option.bind_some, if_neg (by decide)]
                exact ⟨g1, rfl, W.pw O1' R1, po O1'⟩
              · have h4 : rfF w s p = 4294967292 := by omega
                have es : rdS w s p = w := by unfold rdS; rw [if_neg (by omega), if_neg (by omega)]
                rw [es, h4, if_neg (by decide), if_neg (by decide)]
                exact ⟨h, rfl, W, On.rf⟩
          · have ek := pk_bad (p := p) (fun z => h0 z.1)
            have en : rdN w s p = 4294967295 := by unfold rdN; rw [if_neg (fun z => by omega), ek]
            have es : rdS w s p = w := by unfold rdS; rw [if_neg (by omega), if_neg (by omega)]
            rw [if_neg h0, en, es]
            exact ⟨h, rfl, W, On.rf⟩
        · rw [if_neg (fun y => c4 (k114.1 y)), if_neg c4]
          by_cases c5 : tx a = 116
          · rw [if_pos (k116.2 c5), if_pos c5, y_0 W.1, Option.bind_some]
            clear eX eY eZ a1 d1 dg
            generalize dD tx a 1 = s at *
            rw [m_hs W.2.2.1 R (by omega), Option.bind_some]
            unfold tiN tiS
            have el := tid_le w s
            by_cases z : hs w s = true
            · obtain ⟨g1, e1, W1, -, -, O1⟩ := mi_tid W I z
              simp only [if_pos z]
              rw [decide_eq_true (show (tidS w s).2.1 + (tidS w s).2.2 < 2147483648 by omega), Option.bind_some, e1, Option.bind_some]
              exact ⟨g1, rfl, W1, O1.mono (fun k hk => by show k = 145 ∨ k = 146 ∨ k = 152; omega)⟩
            · simp only [if_neg z]
              exact ⟨h, rfl, W, On.rf⟩
          · have c6 : tx a = 119 := by omega
            have hl : dL tx a = 4 := by show dLn (dIx (tx a)) = 4; rw [c6]; rfl
            have l2 : dD tx a 2 < 8 := (dg 1 (by omega)).2 (by rw [c6]; rfl)
            have l3 : dD tx a 3 < 10 := (dg 2 (by omega)).1
            have l4 : dD tx a 4 < 10 := (dg 3 (by omega)).1
            rw [if_neg (fun y => c5 (k116.1 y)), if_neg c5, if_pos (k119.2 c6), y_0 W.1, Option.bind_some, a2 (Or.inr (Or.inr c6)), eY]
            have b3 : 10 * dD tx a 3 + dD tx a 4 < 100 := by omega
            have d3' : f (4 * k + 3) = J (10 * dD tx a 3 + dD tx a 4) := by rw [a3 (Or.inr c6), eZ]
            clear eX eY eZ a1 d1 dg a2 a3
            generalize dD tx a 1 = s at *
            generalize dD tx a 2 = p at *
            generalize 10 * dD tx a 3 + dD tx a 4 = v at *
            rw [m_hs W.2.2.1 R (by omega), Option.bind_some]
            by_cases h0 : hs w s = true
            · obtain ⟨s1, s2⟩ := hs_lt h0
              have rl := wrA_no (C := C) h0 l2 b3
              have eA : wrA C w s p v = (if wrN w s p = 0 then (dep (wrS C w s p v) 24 (tp (wrS C w s p v) s), wrS C w s p v) else if wrN w s p = 4294967293 then (4294967293, awS w s p) else (wrN w s p, w)) := by
                unfold wrA
                rw [if_pos ⟨b3, h0, l2⟩]
              have wl : wrN w s p = 0 ∨ (4294967290 ≤ wrN w s p ∧ wrN w s p < 4294967296) := by
                have rv := rfF_v w s p
                unfold wrN
                split
                · split
                  · omega
                  · split <;> omega
                · omega
              rw [if_pos h0, Option.bind_some, m_refW W.2.2.1 R G h0 l2, Option.bind_some]
              unfold fX11_act_J174
              by_cases h1 : wrN w s p = 0
              · rw [if_pos h1] at eA
                have a2 : (wrA C w s p v).2 = wrS C w s p v := by rw [eA]
                obtain ⟨F, X, mf⟩ := mi_rcx W
                obtain ⟨g3, F3, e3, R3, X3, f3, O3⟩ := m_goWrite (by decide) (by decide) (by decide) (by decide) (by decide) (by decide) X L W.2.2.1 I ⟨h0, l2, h1⟩ b3
                have c155 : cel g3 0 155 325 := W.2.2.2.2.2.2.2.2.2.2.2.2.2.1.on O3 (by decide)
                have W3 := rcx_mi W mf X3 f3 O3 (Or.inl rfl) R3 c155
                rw [decide_eq_true (rl.1.2 h1), a2, h1, if_neg (by decide), if_pos (by decide), y_0 W.1, Option.bind_some, y_23 W.1, Option.bind_some, p3, d3, d3', Option.bind_some, e3, Option.bind_some]
                exact ⟨g3, rfl, W3, O3.mono (fun k hk => hk)⟩
              · rw [if_neg h1] at eA
                rw [decide_eq_false (fun y => h1 (rl.1.1 y))]
                by_cases h3 : wrN w s p = 4294967293
                · rw [if_pos h3] at eA
                  have a2 : (wrA C w s p v).2 = awS w s p := by rw [eA]
                  obtain ⟨g1, e1, R1, O1⟩ := m_await W.2.2.1 R G h0 l2
                  have O1' : On (fun k => k = 146) h g1 := O1.on1 rfl
                  rw [a2, h3, if_pos (by decide), Option.bind_some, e1, Option.bind_some, if_neg (by decide)]
                  exact ⟨g1, rfl, W.pw O1' R1, po O1'⟩
                · rw [if_neg h3] at eA
                  have a2 : (wrA C w s p v).2 = w := by rw [eA]
                  rw [a2, if_neg (fun y => by rw [neg_l3, J_inj (by omega) (by decide)] at y; exact h3 y), if_neg (fun y => by rw [l_0, J_le (by decide) (by omega)] at y; omega)]
                  exact ⟨h, rfl, W, On.rf⟩
            · have eA : wrA C w s p v = (4294967295, w) := by unfold wrA; rw [if_neg (fun z => h0 z.2.1)]
              rw [if_neg h0, eA]
              exact ⟨h, rfl, W, On.rf⟩
end ACR
