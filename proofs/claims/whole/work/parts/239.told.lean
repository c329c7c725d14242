/-! what the calls are made of: the row told, what is marked, what is remembered -/
theorem aJ_at {h : AH} {a n i : Nat} {f : Nat → Int64} (e : h.1 a = some (.inl (1, n, .inr (.inl f)))) (hi : i < n) (hn : n ≤ 2147483648) : aJ h a (J i) = some (f i) := by
  unfold aJ
  rw [e]
  simp only
  rw [if_pos ⟨trivial, J_in hi hn⟩, J_clamp (by omega)]
theorem wa_J {h : AH} {a n i : Nat} {f : Nat → Int64} (e : h.1 a = some (.inl (1, n, .inr (.inl f)))) (hi : i < n) (hn : n ≤ 2147483648) (x : Int64) : ∃ h', sJ h a (J i) x = some h' ∧ h'.1 a = some (.inl (1, n, .inr (.inl (fun j => if j = i then x else f j)))) ∧ Ot a (a + 1) h h' := by
  refine ⟨hset h a (.inl (1, n, .inr (.inl (vp_updL f i x)))), ?_, ?_, Ot_hset ⟨Nat.le_refl _, by omega⟩⟩
  · unfold sJ
    rw [e]
    simp only
    rw [if_pos ⟨trivial, J_in hi hn⟩, J_clamp (by omega)]
  · rw [hset_eq]
    congr 5
theorem get_app {α : Type} {l : List α} {x y : α} {i : Nat} (h : (l ++ [x])[i]? = some y) : (i < l.length ∧ l[i]? = some y) ∨ (i = l.length ∧ x = y) := by
  rw [List.getElem?_append] at h
  by_cases e : i < l.length
  · rw [if_pos e] at h
    exact Or.inl ⟨e, h⟩
  · rw [if_neg e] at h
    have h1 : i - l.length = 0 := by
      by_cases z : i - l.length = 0
      · exact z
      · rw [List.getElem?_eq_none (by simp; omega)] at h; cases h
    rw [h1] at h
    have h2 : some x = some y := h
    exact Or.inr ⟨by omega, Option.some.inj h2⟩
section ROW
variable {h : AH} {row : List Int64}
theorem c_clr (W : CRow h row) : ∃ h', fX5_clear h 132 = some h' ∧ CRow h' [] ∧ On (fun k => k = 132) h h' := by
  obtain ⟨F, g, w1, w2, w3, w4, w5, w6⟩ := W
  obtain ⟨g1, e1, M1, O1⟩ := ob_p w1 (k := 1) (by decide) (.int (J 0))
  refine ⟨g1, ?_, ⟨_, g, M1, by rw [fput_ne (by decide)]; exact w2, fput_eq, (O1.2 _ (by omega)).trans w4, Nat.zero_le _, fun i x hx => (by simp at hx)⟩, O1.on1 rfl⟩
  unfold fX5_clear
  simp only [ob_h w1, if_true, l_0, e1, Option.bind_some]
theorem c_add (W : CRow h row) (hl : row.length < 24) (x : Int64) : ∃ h', fX5_add h 132 x = some h' ∧ CRow h' (row ++ [x]) ∧ On (fun k => k = 132 ∨ k = 133) h h' := by
  obtain ⟨F, g, w1, w2, w3, w4, w5, w6⟩ := W
  obtain ⟨g1, e1, c1, O1⟩ := wa_J w4 hl (by decide) x
  have M1 := w1.ot O1 (by omega)
  obtain ⟨g2, e2, M2, O2⟩ := ob_p M1 (k := 1) (by decide) (.int (J (row.length + 1)))
  have aL133 : aL h 1 133 = some (J 24) := aL_at w4
  refine ⟨g2, ?_, ⟨_, _, M2, by rw [fput_ne (by decide)]; exact w2, by rw [fput_eq, List.length_append]; rfl, (O2.2 _ (by omega)).trans c1, by rw [List.length_append]; exact hl, fun i y hy => ?_⟩, (O1.on1 (P := fun k => k = 132 ∨ k = 133) (Or.inr rfl)).trans (O2.on1 (Or.inl rfl))⟩
  · unfold fX5_add
    simp (disch := omega) only [ob_h w1, if_true, ob_i w1 (k := 1) (by decide) w3, Option.bind_some, l_0, J_lt, ob_r w1 (k := 0) (by decide) w2, aL133, J_le]
    rw [if_neg (by omega), if_neg (by omega)]
    simp only [e1, Option.bind_some, ob_i M1 (k := 1) (by decide) w3, l_1, J_add, e2]
  · rcases get_app hy with ⟨h1, h2⟩ | ⟨h1, h2⟩
    · rw [if_neg (by omega)]; exact w6 i y h2
    · rw [if_pos h1]; exact h2
theorem m_tell {len un rn hl sl : Nat} (W : MO h len row.length un rn hl sl) (R : MRow h row) (hr : row.length < 24) (x : Int64) : ∃ h', fX11_tell h 145 x = some h' ∧ MO h' len (row ++ [x]).length un rn hl sl ∧ MRow h' (row ++ [x]) ∧ On (fun k => k = 145 ∨ k = 148) h h' := by
  obtain ⟨r0, g, r1, r2⟩ := R
  obtain ⟨g1, e1, c1, O1⟩ := wa_J r1 hr (by decide) x
  have W1 := W.on (O1.on1 (P := fun k => k = 148) rfl) (by decide)
  obtain ⟨g2, e2, W2, O2⟩ := y_p4 W1 (row.length + 1)
  refine ⟨g2, ?_, by rw [List.length_append]; exact W2, ⟨by rw [List.length_append]; exact hr, _, (O2.2 _ (by decide)).trans c1, fun i y hy => ?_⟩, (O1.on1 (P := fun k => k = 145 ∨ k = 148) (Or.inr rfl)).trans (O2.mono (fun k hk => Or.inl hk))⟩
  · unfold fX11_tell
    simp only [y_h W, if_true, y_3 W, y_4 W, Option.bind_some, e1, y_4 W1, l_1, J_add, e2]
  · rcases get_app hy with ⟨h1, h2⟩ | ⟨h1, h2⟩
    · rw [if_neg (by omega)]; exact r2 i y h2
    · rw [if_pos h1]; exact h2
end ROW
def uN (un : Nat) : Nat := if un < 8 then un + 1 else 8
def uS (un : Nat) (us : Nat → ST) (σ : ST) : Nat → ST := if un < 8 then (fun i => if i = un then σ else us i) else (fun i => if i = 7 then σ else us (i + 1))
section MRK
variable {h : AH} {mk un : Nat} {us : Nat → ST} {kp : Nat → Bool} {ks : Nat → ST} {σ : ST}
theorem aR_at {a n i r : Nat} {f : Nat → Option Nat} (e : h.1 a = some (.inl (5, n, .inr (.inr (.inr (.inr f)))))) (hi : i < n) (hn : n ≤ 2147483648) (hr : f i = some r) : aR h a (J i) = some r := by
  unfold aR
  rw [e]
  simp only
  rw [if_pos ⟨trivial, J_in hi hn⟩, J_clamp (by omega), hr]
theorem c_mark (W : CHk h mk un us kp ks) (R : WR h 2 σ) : ∃ h', fX2_mark h 20 2 = some h' ∧ CHk h' mk un us kp ks ∧ WR h' (24 + 9 * mk) σ ∧ On (fun k => 24 ≤ k ∧ k < 105) h h' := by
  have W0 := W
  obtain ⟨F, fm, fs, fb, w1, w2, w3, w4, w5, w6, w7, w8, w9, w10, w11, w12, w13, w14, w15, w16, w17, w18⟩ := W
  obtain ⟨g1, e1, R1, O1⟩ := c_copy (w15 mk w7) R (by omega)
  have aL21 : aL h 5 21 = some (J 9) := aL_at w9
  have aR21 : aR h 21 (J mk) = some (24 + 9 * mk) := aR_at w9 w7 (by decide) (w10 mk w7)
  have O1' : On (fun k => 24 + 9 * mk ≤ k ∧ k < 24 + 9 * mk + 9) h g1 := O1.on (fun k h1 h2 => ⟨h1, h2⟩)
  refine ⟨g1, ?_, ⟨F, fm, fs, fb, w1.on O1' (by omega), w2, w3, w4, w5, w6, w7, w8, (O1'.2 _ (by omega)).trans w9, w10, (O1'.2 _ (by omega)).trans w11, w12, (O1'.2 _ (by omega)).trans w13, w14, fun i hi => ?_, fun i hi => (w16 i hi).on O1' (fun k h1 h2 => ?_), fun j hj => (w17 j hj).on O1' (fun k h1 h2 => by omega), fun j hj hk => (w18 j hj hk).on O1' (fun k h1 h2 => by omega)⟩, R1, O1'.mono (fun k hk => by omega)⟩
  · unfold fX2_mark
    simp (disch := omega) only [ob_h w1, if_true, ob_i w1 (k := 3) (by decide) w5, Option.bind_some, l_0, J_lt, ob_r w1 (k := 0) (by decide) w2, aL21, J_le]
    rw [if_neg (by omega), if_neg (by omega)]
    simp only [aR21, Option.bind_some, e1]
  · by_cases e : i = mk
    · rw [e]; exact R1.c1
    · exact (w15 i hi).on O1' (fun k h1 h2 => by omega)
  · have : (mk + 9 - un + i) % 9 ≠ mk := by omega
    have : (mk + 9 - un + i) % 9 < 9 := Nat.mod_lt _ (by decide)
    omega
theorem jrem_J {a b : Nat} (ha : a < 2147483648) (hb : 0 < b) (hb2 : b < 2147483648) : jrem (J a) (J b) = some (J (a % b)) := by
  unfold jrem
  have hb0 : ¬ J b = 0 := fun z => by rw [l_0, J_inj (by omega) (by omega)] at z; omega
  rw [if_neg hb0]
  congr 1
  apply Int32.toInt_inj.mp
  have h1 : (J a / J b).toInt = (a / b : Nat) := by
    rw [Int32.toInt_div, J_toInt ha, J_toInt hb2]
    rw [Int.tdiv_eq_ediv_of_nonneg (by omega)]
    have this : ((a : Int) / (b : Int)) = ((a / b : Nat) : Int) := rfl
    have hq : a / b ≤ a := Nat.div_le_self a b
    rw [this, Int.bmod_def]
    clear this
    generalize a / b = q at hq ⊢
    split <;> omega
  have h2 : J a / J b = J (a / b) := by
    apply Int32.toInt_inj.mp
    have : a / b ≤ a := Nat.div_le_self a b
    rw [h1, J_toInt (by omega)]
  have h3 : a / b * b ≤ a := Nat.div_mul_le_self a b
  have h4 := Nat.div_add_mod a b
  rw [Nat.mul_comm] at h4
  rw [h2, J_mul, J_sub h3, show a - a / b * b = a % b by omega]
theorem c_keep (W : CHk h mk un us kp ks) (R : WR h (24 + 9 * mk) σ) : ∃ h', fX2_keepMark h 20 = some h' ∧ CHk h' ((mk + 1) % 9) (uN un) (uS un us σ) kp ks ∧ On (fun k => k = 20) h h' := by
  obtain ⟨F, fm, fs, fb, w1, w2, w3, w4, w5, w6, w7, w8, w9, w10, w11, w12, w13, w14, w15, w16, w17, w18⟩ := W
  obtain ⟨g1, e1, M1, O1⟩ := ob_p w1 (k := 3) (by decide) (.int (J ((mk + 1) % 9)))
  obtain ⟨g2, e2, M2, O2⟩ := ob_p M1 (k := 4) (by decide) (.int (J (uN un)))
  have OO : On (fun k => k = 20) h g2 := (O1.on1 (P := fun k => k = 20) rfl).trans (O2.on1 rfl)
  have em : jmin 8 (J (un + 1)) = J (uN un) := by
    unfold jmin uN
    simp (disch := omega) only [l_8, J_lt]
    by_cases z : un < 8
    · by_cases z2 : un + 1 = 8
      · rw [if_neg (by omega), if_pos z, z2]
      · rw [if_pos (by omega), if_pos z]
    · rw [if_neg (by omega), if_neg z]
  have jr := jrem_J (a := mk + 1) (b := 9) (by omega) (by decide) (by decide)
  have f4 : fput F 3 (.int (J ((mk + 1) % 9))) 4 = .int (J un) := by rw [fput_ne (by decide)]; exact w6
  have uN8 : uN un ≤ 8 := by unfold uN; split <;> omega
  refine ⟨g2, ?_, ⟨_, fm, fs, fb, M2, by rw [fput_ne (by decide), fput_ne (by decide)]; exact w2, by rw [fput_ne (by decide), fput_ne (by decide)]; exact w3, by rw [fput_ne (by decide), fput_ne (by decide)]; exact w4, by rw [fput_ne (by decide), fput_eq], fput_eq, Nat.mod_lt _ (by decide), uN8, (OO.2 _ (by decide)).trans w9, w10, (OO.2 _ (by decide)).trans w11, w12, (OO.2 _ (by decide)).trans w13, w14, fun i hi => (w15 i hi).on OO (fun k h1 h2 => by omega), fun i hi => ?_, fun j hj => (w17 j hj).on OO (fun k h1 h2 => by omega), fun j hj hk => (w18 j hj hk).on OO (fun k h1 h2 => by omega)⟩, OO⟩
  · have l9 : (9 : Int32) = J 9 := rfl
    unfold fX2_keepMark
    simp only [ob_h w1, if_true, ob_i w1 (k := 3) (by decide) w5, Option.bind_some, l_1, J_add, l9, jr, e1, ob_i M1 (k := 4) (by decide) f4, em, e2]
  · have Rg := R.on OO (fun k h1 h2 => by omega)
    unfold uN at hi ⊢
    unfold uS
    by_cases z : un < 8
    · simp only [if_pos z] at hi ⊢
      by_cases e : i = un
      · rw [if_pos e, show ((mk + 1) % 9 + 9 - (un + 1) + i) % 9 = mk by omega]
        exact Rg
      · rw [if_neg e, show ((mk + 1) % 9 + 9 - (un + 1) + i) % 9 = (mk + 9 - un + i) % 9 by omega]
        exact (w16 i (by omega)).on OO (fun k h1 h2 => by omega)
    · simp only [if_neg z] at hi ⊢
      by_cases e : i = 7
      · rw [if_pos e, show ((mk + 1) % 9 + 9 - 8 + i) % 9 = mk by omega]
        exact Rg
      · rw [if_neg e, show ((mk + 1) % 9 + 9 - 8 + i) % 9 = (mk + 9 - un + (i + 1)) % 9 by omega]
        exact (w16 (i + 1) (by omega)).on OO (fun k h1 h2 => by omega)
end MRK
/-! by the reference -/
theorem AS.cg {a b : Nat → Int32} {σ : ST} (S : AS a σ) (e : ∀ k, k < 325 → b k = a k) : AS b σ := by
  obtain ⟨s1, s2, s3, s4, s5, s6, s7, s8, s9⟩ := S
  refine ⟨fun o p ho hp => ?_, fun o ho => ?_, fun o ho => ?_, fun o ho => ?_, fun o ho => ?_, fun o ho => ?_, fun o ho => ?_, fun o ho => ?_, ?_⟩
  · rw [e _ (by omega)]; exact s1 o p ho hp
  · rw [e _ (by omega)]; exact s2 o ho
  · rw [e _ (by omega)]; exact s3 o ho
  · rw [e _ (by omega)]; exact s4 o ho
  · rw [e _ (by omega)]; exact s5 o ho
  · rw [e _ (by omega)]; exact s6 o ho
  · rw [e _ (by omega)]; exact s7 o ho
  · rw [e _ (by omega)]; exact s8 o ho
  · rw [e _ (by omega)]; exact s9
section REM
variable {h : AH} {len rl un rn hl sl : Nat} {us : Nat → ST} {σ : ST} {A : Nat}
theorem m_remember (W : MO h len rl un rn hl sl) (U : MU h un us) (R : RA h A σ) (hA : A ≠ 145 ∧ A ≠ 153) : ∃ h', fX11_remember h 145 A = some h' ∧ MO h' len rl (uN un) rn hl sl ∧ MU h' (uN un) (uS un us σ) ∧ On (fun k => k = 145 ∨ k = 153) h h' := by
  obtain ⟨u0, f, u1, u2⟩ := U
  have j50 : ∀ (g : AH) (n : Nat) (f : Nat → Int32) (vs : Nat → ST), n < 8 → MO g len rl n rn hl sl → RA g A σ → g.1 153 = some (.inl (0, 2600, .inl f)) → (∀ i, i < n → AS (fun k => f (325 * i + k)) (vs i)) → ∃ h', fX11_remember_J50 g 145 A = some h' ∧ MO h' len rl (n + 1) rn hl sl ∧ MU h' (n + 1) (fun i => if i = n then σ else vs i) ∧ On (fun k => k = 145 ∨ k = 153) g h' := by
    intro g n f vs hn W R c S
    obtain ⟨a, ca, sa⟩ := R
    obtain ⟨g1, e1, c1, O1⟩ := m_lay (k := 325 * n) hA.2 ca (show 325 * n + 325 ≤ 2600 by omega) (by decide) c
    have W1 := W.on (O1.on1 (P := fun k => k = 153) rfl) (by decide)
    obtain ⟨g2, e2, W2, O2⟩ := y_p18 W1 (n + 1)
    refine ⟨g2, ?_, W2, ⟨by omega, _, (O2.2 _ (by decide)).trans c1, fun i hi => ?_⟩, (O1.on1 (P := fun k => k = 145 ∨ k = 153) (Or.inr rfl)).trans (O2.mono (fun k hk => Or.inl hk))⟩
    · unfold fX11_remember_J50
      simp only [y_17 W, y_18 W, Option.bind_some, l_325, J_mul, e1, y_18 W1, l_1, J_add, e2]
    · by_cases e : i = n
      · have e0 : (fun i => if i = n then σ else vs i) i = σ := if_pos e
        rw [e0]
        refine sa.cg fun k hk => ?_
        rw [if_pos (by omega), e, Nat.add_sub_cancel_left]
      · have e0 : (fun i => if i = n then σ else vs i) i = vs i := if_neg e
        rw [e0]
        refine (S i (by omega)).cg fun k hk => ?_
        rw [if_neg (by omega)]
  unfold fX11_remember
  simp (disch := omega) only [y_h W, if_true, y_18 W, Option.bind_some, l_8, J_inj]
  by_cases z : un < 8
  · rw [if_neg (by omega)]
    have eN : uN un = un + 1 := by unfold uN; rw [if_pos z]
    have eS : uS un us σ = fun i => if i = un then σ else us i := by unfold uS; rw [if_pos z]
    rw [eN, eS]
    exact j50 h un f us z W R u1 u2
  · have u8 : un = 8 := by omega
    subst u8
    rw [if_pos rfl]
    have eN : uN 8 = 8 := rfl
    have eS : uS 8 us σ = fun i => if i = 7 then σ else us (i + 1) := rfl
    rw [eN, eS]
    have l2275 : (2275 : Int32) = J 2275 := rfl
    have key : ∀ (K : AH → Nat → Nat → Option AH) q n i g, i + q = 2275 → q < n → MO g len rl 8 rn hl sl → g.1 153 = some (.inl (0, 2600, .inl (fun k => if k < i then f (k + 325) else f k))) → ∃ h', fX11_remember_L11 K n g 145 A (J i) = K h' 145 A ∧ h'.1 153 = some (.inl (0, 2600, .inl (fun k => if k < 2275 then f (k + 325) else f k))) ∧ On (fun k => k = 153) g h' := by
      intro K q
      induction q with
      | zero =>
        intro n i g h1 h2 W c
        obtain ⟨n, rfl⟩ : ∃ x, n = x + 1 := ⟨n - 1, by omega⟩
        have hi : i = 2275 := by omega
        subst hi
        refine ⟨g, ?_, c, On.rf⟩
        rw [fX11_remember_L11]
        simp (disch := omega) only [l2275, J_le]
        rw [if_pos (by omega)]
      | succ q ih =>
        intro n i g h1 h2 W c
        obtain ⟨n, rfl⟩ : ∃ x, n = x + 1 := ⟨n - 1, by omega⟩
        obtain ⟨g1, e1, c1, O1⟩ := wa_s c (show i < 2600 by omega) (by decide) (f (i + 325))
        have rd : aI g 0 153 (J (i + 325)) = some (f (i + 325)) := by
          rw [aI_at c (show i + 325 < 2600 by omega) (by decide)]
          rw [if_neg (by omega)]
        have c2 : g1.1 153 = some (.inl (0, 2600, .inl (fun k => if k < i + 1 then f (k + 325) else f k))) := by
          rw [c1]
          congr 5
          funext k
          by_cases e : k = i
          · rw [if_pos e, if_pos (by omega), e]
          · rw [if_neg e]
            by_cases e2 : k < i
            · rw [if_pos e2, if_pos (by omega)]
            · rw [if_neg e2, if_neg (by omega)]
        have O1' : On (fun k => k = 153) g g1 := O1.on1 rfl
        obtain ⟨g2, e2, c3, O2⟩ := ih n (i + 1) g1 (by omega) (by omega) (W.on O1' (by decide)) c2
        refine ⟨g2, ?_, c3, O1'.trans O2⟩
        rw [fX11_remember_L11]
        simp (disch := omega) only [l2275, J_le]
        rw [if_neg (by omega)]
        simp only [y_17 W, Option.bind_some, l_325, J_add, rd, e1, letF, l_1]
        exact e2
    obtain ⟨g1, e1, c1, O1⟩ := key (fun h14 x12 x13 =>
          (gI h14 11 x12 18).bind fun x15 =>
          (pF h14 11 x12 18 (.int (x15 - 1))).bind fun h16 =>
          fX11_remember_J50 h16 x12 x13) 2275 FU 0 h rfl (by decide) W (by
        rw [u1]
        congr 5)
    have W1 := W.on O1 (by decide)
    have R1 := R.on O1 hA.2
    obtain ⟨g2, e2, W2, O2⟩ := y_p18 W1 7
    have R2 := R1.on O2 hA.1
    obtain ⟨g3, e3, W3, U3, O3⟩ := j50 g2 7 _ (fun i => us (i + 1)) (by decide) W2 R2 ((O2.2 _ (by decide)).trans c1) (fun i hi => (u2 (i + 1) (by omega)).cg fun k hk => by
      rw [if_pos (by omega), show 325 * i + k + 325 = 325 * (i + 1) + k by omega])
    refine ⟨g3, ?_, W3, U3, ((O1.mono (fun k hk => Or.inr hk)).trans (O2.mono (fun k hk => Or.inl hk))).trans O3⟩
    have e1' : fX11_remember_L11 (fun h14 x12 x13 =>
          (gI h14 11 x12 18).bind fun x15 =>
          (pF h14 11 x12 18 (.int (x15 - 1))).bind fun h16 =>
          fX11_remember_J50 h16 x12 x13) FU h 145 A 0 = _ := e1
    rw [e1']
    have j7 : J 8 - 1 = J 7 := by decide
    simp only [y_18 W1, Option.bind_some, j7, e2]
    exact e3
end REM
