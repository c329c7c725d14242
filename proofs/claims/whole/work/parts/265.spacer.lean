/-! a space told as a text, by the reference -/
section RSV
variable {h : AH} {m : Nat} {F : Nat → Value} {T : Nat} {τ : Nat → Nat} {len top a w : Nat}
theorem hr_in {i : Nat} (h1 : i < len) (h2 : i < top) : hrf τ len top i = τ i := by unfold hrf; rw [if_pos ⟨h1, h2⟩]
theorem hr_out {i : Nat} (h1 : ¬ (i < len ∧ i < top)) : hrf τ len top i = BIG := by unfold hrf; rw [if_neg h1]
theorem m_wasR_f (W : RS h m F T τ len top a w) (hw : w < BIG) (ha : a < 1000) : fX11_wasRight h m = some (false, h) := by
  have hw' : w < 4294967295 := hw
  have l := rs_len W
  unfold fX11_wasRight
  rw [if_pos (rs_h W), rs_9 W, Option.bind_some, rs_7 W, Option.bind_some]
  have fi : fX11_wasRight_J19 h m = some (false, h) := by
    unfold fX11_wasRight_J19
    rw [m_fine W (by omega), Option.bind_some, decide_eq_false (show ¬ w = BIG from Nat.ne_of_lt hw)]
  by_cases z : len ≤ a
  · rw [if_pos (by rw [J_le (by omega) (by omega)]; omega), fi]
  · rw [if_neg (fun y => by rw [J_le (by omega) (by omega)] at y; omega), Option.bind_some, m_fault_no W hw, Option.bind_some, fi]
/-- two digits -/
theorem m_two_y (W : RS h m F T τ len top a BIG) (h1 : dgc (hrf τ len top a) = true) (h2 : dgc (hrf τ len top (a + 1)) = true) : ∃ h' h'', fX11_oneOf h m (J 48) (J 10) = some (J (hrf τ len top a - 48), h') ∧ fX11_oneOf h' m (J 48) (J 10) = some (J (hrf τ len top (a + 1) - 48), h'') ∧ RS h'' m F T τ len top (a + 2) BIG ∧ On (fun k => k = m) h h'' := by
  have d1 := dgc_r h1
  have d2 := dgc_r h2
  obtain ⟨g1, e1, W1, O1⟩ := m_oneOf_y W (fi := 48) (n := 10) (by decide) (by decide) d1.1 (by omega)
  obtain ⟨g2, e2, W2, O2⟩ := m_oneOf_y W1 (fi := 48) (n := 10) (by decide) (by decide) d2.1 (by omega)
  exact ⟨g1, g2, e1, e2, W2, O1.trans O2⟩
theorem m_two_n1 (W : RS h m F T τ len top a BIG) (ha : a < 500) (h1 : ¬ dgc (hrf τ len top a) = true) : ∃ h', fX11_oneOf h m (J 48) (J 10) = some (J 0, h') ∧ fX11_oneOf h' m (J 48) (J 10) = some (J 0, h') ∧ RS h' m F T τ len top a a ∧ On (fun k => k = m) h h' := by
  have hb : a < BIG := by have : BIG = 4294967295 := rfl; omega
  obtain ⟨g1, e1, W1, O1⟩ := m_oneOf_n W (by omega) (fi := 48) (n := 10) (by decide) (by decide) (fun y => h1 (by unfold dgc; rw [decide_eq_true y.1, decide_eq_true (show hrf τ len top a ≤ 57 by omega)]; rfl))
  exact ⟨g1, e1, m_oneOf_f W1 hb _ _, W1, O1⟩
theorem m_two_n2 (W : RS h m F T τ len top a BIG) (ha : a < 500) (h1 : dgc (hrf τ len top a) = true) (h2 : ¬ dgc (hrf τ len top (a + 1)) = true) : ∃ h' h'', fX11_oneOf h m (J 48) (J 10) = some (J (hrf τ len top a - 48), h') ∧ fX11_oneOf h' m (J 48) (J 10) = some (J 0, h'') ∧ RS h'' m F T τ len top (a + 1) (a + 1) ∧ On (fun k => k = m) h h'' := by
  have d1 := dgc_r h1
  obtain ⟨g1, e1, W1, O1⟩ := m_oneOf_y W (fi := 48) (n := 10) (by decide) (by decide) d1.1 (by omega)
  obtain ⟨g2, e2, W2, O2⟩ := m_oneOf_n W1 (by omega) (fi := 48) (n := 10) (by decide) (by decide) (fun y => h2 (by unfold dgc; rw [decide_eq_true y.1, decide_eq_true (show hrf τ len top (a + 1) ≤ 57 by omega)]; rfl))
  exact ⟨g1, g2, e1, e2, W2, O1.trans O2⟩
theorem m_val_pp (W : RS h m F T τ len top a BIG) (ha : a < 500) (h1 : hrf τ len top a = 46) (h2 : hrf τ len top (a + 1) = 46) : ∃ h', fX11_valueOf h m = some (J 4294967295, h') ∧ RS h' m F T τ len top (a + 2) BIG ∧ On (fun k => k = m) h h' := by
  obtain ⟨g1, e1, W1, O1⟩ := rs_p9 W (a + 1)
  obtain ⟨g2, e2, W2, O2⟩ := rs_p9 W1 (a + 2)
  refine ⟨g2, ?_, W2, O1.trans O2⟩
  unfold fX11_valueOf fX11_valueOf_J36
  rw [if_pos (rs_h W), m_here W (by omega), Option.bind_some, h1, if_pos (show J 46 = 46 from rfl), rs_9 W, Option.bind_some, l_1, J_add, e1, Option.bind_some, m_here W1 (by omega), Option.bind_some, h2, if_pos (show J 46 = 46 from rfl), rs_9 W1, Option.bind_some, J_add, e2, Option.bind_some]
  rfl
theorem m_val_pn (W : RS h m F T τ len top a BIG) (ha : a < 500) (h1 : hrf τ len top a = 46) (h2 : ¬ hrf τ len top (a + 1) = 46) : ∃ h' x, fX11_valueOf h m = some (x, h') ∧ RS h' m F T τ len top (a + 2) (a + 1) ∧ On (fun k => k = m) h h' := by
  have hl := hrf_l W (a + 1)
  obtain ⟨g1, e1, W1, O1⟩ := rs_p9 W (a + 1)
  obtain ⟨g2, e2, W2, O2⟩ := m_fault W1 (a + 1)
  obtain ⟨g3, e3, W3, O3⟩ := rs_p9 W2 (a + 2)
  refine ⟨g3, -1, ?_, W3, (O1.trans O2).trans O3⟩
  unfold fX11_valueOf fX11_valueOf_J36
  rw [if_pos (rs_h W), m_here W (by omega), Option.bind_some, h1, if_pos (show J 46 = 46 from rfl), rs_9 W, Option.bind_some, l_1, J_add, e1, Option.bind_some, m_here W1 (by omega), Option.bind_some, if_neg (show ¬ J (hrf τ len top (a + 1)) = 46 from fun y => h2 ((J_inj hl (by decide)).1 y)), rs_9 W1, Option.bind_some, e2, Option.bind_some, rs_9 W2, Option.bind_some, J_add, e3, Option.bind_some]
theorem m_val_d (W : RS h m F T τ len top a BIG) (ha : a < 500) (h1 : ¬ hrf τ len top a = 46) : fX11_valueOf h m = (fX11_oneOf h m (J 48) (J 10)).bind fun q9 => (fX11_oneOf q9.2 m (J 48) (J 10)).bind fun q10 => some (((10 * q9.1) + q10.1, q10.2)) := by
  have hl := hrf_l W a
  unfold fX11_valueOf
  rw [if_pos (rs_h W), m_here W (by omega), Option.bind_some, if_neg (show ¬ J (hrf τ len top a) = 46 from fun y => h1 ((J_inj hl (by decide)).1 y))]
  rfl
theorem m_val_y (W : RS h m F T τ len top a BIG) (ha : a < 500) (h1 : dgc (hrf τ len top a) = true) (h2 : dgc (hrf τ len top (a + 1)) = true) : ∃ h', fX11_valueOf h m = some (J (10 * (hrf τ len top a - 48) + (hrf τ len top (a + 1) - 48)), h') ∧ RS h' m F T τ len top (a + 2) BIG ∧ On (fun k => k = m) h h' := by
  obtain ⟨g1, g2, e1, e2, W2, O2⟩ := m_two_y W h1 h2
  have := dgc_r h1
  refine ⟨g2, ?_, W2, O2⟩
  rw [m_val_d W ha (by omega), e1, Option.bind_some, e2, Option.bind_some, l_10, J_mul, J_add]
theorem m_val_n (W : RS h m F T τ len top a BIG) (ha : a < 500) (h0 : ¬ hrf τ len top a = 46) (h2 : ¬ (dgc (hrf τ len top a) = true ∧ dgc (hrf τ len top (a + 1)) = true)) : ∃ h' x b, fX11_valueOf h m = some (x, h') ∧ RS h' m F T τ len top b b ∧ b = (if dgc (hrf τ len top a) = true then a + 1 else a) ∧ On (fun k => k = m) h h' := by
  by_cases z : dgc (hrf τ len top a) = true
  · obtain ⟨g1, g2, e1, e2, W2, O2⟩ := m_two_n2 W ha z (fun y => h2 ⟨z, y⟩)
    refine ⟨g2, 10 * J (hrf τ len top a - 48) + J 0, a + 1, ?_, W2, by rw [if_pos z], O2⟩
    rw [m_val_d W ha h0, e1, Option.bind_some, e2, Option.bind_some]
  · obtain ⟨g1, e1, e2, W1, O1⟩ := m_two_n1 W ha z
    refine ⟨g1, 10 * J 0 + J 0, a, ?_, W1, by rw [if_neg z], O1⟩
    rw [m_val_d W ha h0, e1, Option.bind_some, e2, Option.bind_some]
end RSV
def TOLD (tx : Nat → Nat) (f : Nat → Int32) (p : Nat) : Prop := (∀ j, j < p → f j = J (if spN tx j then 4294967295 else spV tx j)) ∧ ∀ j, p ≤ j → j < 8 → f j = J 4294967295
theorem told_s {tx : Nat → Nat} {f : Nat → Int32} {p : Nat} (K : TOLD tx f p) : TOLD tx (fun j => if j = p then J (if spN tx p then 4294967295 else spV tx p) else f j) (p + 1) := by
  refine ⟨fun j hj => ?_, fun j h1 h2 => ?_⟩
  · show (if j = p then J (if spN tx p then 4294967295 else spV tx p) else f j) = _
    by_cases z : j = p
    · rw [if_pos z, z]
    · rw [if_neg z]
      exact K.1 j (by omega)
  · show (if j = p then J (if spN tx p then 4294967295 else spV tx p) else f j) = _
    rw [if_neg (by omega)]
    exact K.2 j (by omega) h2
section RSP
variable {tx : Nat → Nat} {n : Nat} {F : Nat → Value} {x1 x2 : Int32}
theorem y_fillT (F11 : F 11 = .ref 149) {a w' : Nat} {v3 v4 : Int32} : ∀ m q i g f, i + m = 8 → m < q → RS g 145 F 147 tx n 18 a w' → g.1 149 = some (.inl (0, 8, .inl f)) → (∀ j, j < i → f j = J 4294967295) → ∃ g' f', (∀ K : AH → Nat → Int32 → Int32 → Int32 → Int32 → Option (Int32 × AH), fX11_spaces_L36 K q g 145 x1 x2 v3 v4 (J i) = K g' 145 x1 x2 v3 v4) ∧ RS g' 145 F 147 tx n 18 a w' ∧ g'.1 149 = some (.inl (0, 8, .inl f')) ∧ (∀ j, j < 8 → f' j = J 4294967295) ∧ On (fun k => k = 149) g g'
  | 0, q + 1, i, g, f, e, _, W, c, hf => by
    refine ⟨g, f, fun K => ?_, W, c, fun j hj => hf j (by omega), On.rf⟩
    rw [fX11_spaces_L36, if_pos (by rw [l_8, J_le (by decide) (by omega)]; omega)]
  | m + 1, q + 1, i, g, f, e, hq', W, c, hf => by
    obtain ⟨g1, e1, c1, O1⟩ := wa_s c (show i < 8 by omega) (by decide) (J 4294967295)
    have O1' : On (fun k => k = 149) g g1 := O1.on1 rfl
    have W1 := rs_on W O1' (by decide) (by decide)
    obtain ⟨g2, f2, d2, W2, c2, h2, O2⟩ := y_fillT F11 (v3 := v3) (v4 := v4) m q (i + 1) g1 _ (by omega) (by omega) W1 c1 (fun j hj => by
      show (if j = i then J 4294967295 else f j) = J 4294967295
      by_cases z : j = i
      · rw [if_pos z]
      · rw [if_neg z]; exact hf j (by omega))
    refine ⟨g2, f2, fun K => ?_, W2, c2, h2, O1'.trans O2⟩
    have ei : J i + 1 = J (i + 1) := by rw [l_1, J_add]
    have r11 : gR g 11 145 11 = some 149 := ob_r W.2.1 (by decide) (by rw [rs_f W (by decide) (by decide)]; exact F11)
    rw [fX11_spaces_L36, if_neg (fun y => by rw [l_8, J_le (by decide) (by omega)] at y; omega), r11, Option.bind_some, m1_J, e1, Option.bind_some]
    simp only [letF, ei]
    exact d2 K
/-- the loop over the pages that a text tells -/
theorem y_spP (F11 : F 11 = .ref 149) (hn : n ≤ 80) (hS : n ≤ 80 → ∀ i, i < n → tx i < 256) : ∀ m p q g f, p + m = 8 → m + 1 < q → RS g 145 F 147 tx n 18 (2 + 2 * p) BIG → 2 + 2 * p ≤ n → g.1 149 = some (.inl (0, 8, .inl f)) → TOLD tx f p → ∃ g' f' a' w' hh, (∀ K : AH → Nat → Int32 → Int32 → Int32 → Option (Int32 × AH), fX11_spaces_L57 K q g 145 x1 x2 (J p) (J (spH tx p)) = K g' 145 x1 x2 (J hh)) ∧ RS g' 145 F 147 tx n 18 a' w' ∧ g'.1 149 = some (.inl (0, 8, .inl f')) ∧ On (fun k => k = 145 ∨ k = 149) g g' ∧ a' < 100 ∧ ((w' = BIG ∧ a' ≤ n ∧ (a' = n → spP tx n m p = BIG ∧ hh = spH tx (spM n) ∧ TOLD tx f' (spM n)) ∧ (¬ a' = n → spP tx n m p = a')) ∨ (w' < BIG ∧ spP tx n m p = w'))
  | 0, p, q + 1, g, f, e, hq', W, hp, c, K0 => by
    refine ⟨g, f, 2 + 2 * p, BIG, spH tx p, fun K => ?_, W, c, On.rf, by omega, Or.inl ⟨rfl, hp, fun z => ⟨?_, ?_, ?_⟩, fun z => ?_⟩⟩
    · rw [fX11_spaces_L57, m_fine W (by decide), Option.bind_some, if_pos (by decide), if_pos (by rw [l_8, J_le (by decide) (by omega)]; omega)]
    · unfold spP
      rw [if_neg (by omega)]
    · rw [show spM n = p by unfold spM; omega]
    · rw [show spM n = p by unfold spM; omega]
      exact K0
    · unfold spP
      rw [if_pos (by omega)]
      omega
  | m + 1, p, q + 1, g, f, e, hq', W, hp, c, K0 => by
    have big : BIG = 4294967295 := rfl
    have hl0 := hrf_l W (2 + 2 * p)
    have i8 : ¬ (8 : Int32) ≤ J p := fun y => by rw [l_8, J_le (by decide) (by omega)] at y; omega
    have head : ∀ K : AH → Nat → Int32 → Int32 → Int32 → Option (Int32 × AH), fX11_spaces_L57 K (q + 1) g 145 x1 x2 (J p) (J (spH tx p)) = if J (hrf tx n 18 (2 + 2 * p)) = (-1) then K g 145 x1 x2 (J (spH tx p)) else (fX11_valueOf g 145).bind fun q8 => (fX11_fine q8.2 145).bind fun q9 => if q9 = true then (gR q8.2 11 145 11).bind fun x10 => (sI q8.2 0 x10 (J p) q8.1).bind fun h11 => if q8.1 = (-1) then fX11_spaces_J115 (fX11_spaces_L57 K q) h11 145 x1 x2 (J p) 0 (J (spH tx p)) else fX11_spaces_J115 (fX11_spaces_L57 K q) h11 145 x1 x2 (J p) 1 (J (spH tx p)) else fX11_spaces_L57 K q q8.2 145 x1 x2 (J p) (J (spH tx p)) := by
      intro K
      rw [fX11_spaces_L57, m_fine W (by decide), Option.bind_some, if_pos (by decide), if_neg i8, m_here W (by omega), Option.bind_some]
    by_cases z1 : n ≤ 2 + 2 * p
    · have ho := hr_out (τ := tx) (len := n) (top := 18) (i := 2 + 2 * p) (by omega)
      refine ⟨g, f, 2 + 2 * p, BIG, spH tx p, fun K => ?_, W, c, On.rf, by omega, Or.inl ⟨rfl, hp, fun z => ⟨?_, ?_, ?_⟩, fun z => by omega⟩⟩
      · rw [head, ho, if_pos (by rfl)]
      · unfold spP
        rw [if_pos z1]
      · rw [show spM n = p by unfold spM; omega]
      · rw [show spM n = p by unfold spM; omega]
        exact K0
    · have hi := hr_in (τ := tx) (len := n) (top := 18) (i := 2 + 2 * p) (by omega) (by omega)
      have t0 := hS hn (2 + 2 * p) (by omega)
      have nm : ¬ J (hrf tx n 18 (2 + 2 * p)) = (-1) := fun y => by
        rw [hi, m1_J, J_inj (by omega) (by decide)] at y
        omega
      -- a sign that can't stand: the loop ends
      have stop : ∀ (g1 : AH) (a1 b1 : Nat) (x : Int32), fX11_valueOf g 145 = some (x, g1) → RS g1 145 F 147 tx n 18 a1 b1 → On (fun k => k = 145) g g1 → b1 < BIG → a1 < 100 → spP tx n (m + 1) p = b1 → ∃ g' f' a' w' hh, (∀ K : AH → Nat → Int32 → Int32 → Int32 → Option (Int32 × AH), fX11_spaces_L57 K (q + 1) g 145 x1 x2 (J p) (J (spH tx p)) = K g' 145 x1 x2 (J hh)) ∧ RS g' 145 F 147 tx n 18 a' w' ∧ g'.1 149 = some (.inl (0, 8, .inl f')) ∧ On (fun k => k = 145 ∨ k = 149) g g' ∧ a' < 100 ∧ ((w' = BIG ∧ a' ≤ n ∧ (a' = n → spP tx n (m + 1) p = BIG ∧ hh = spH tx (spM n) ∧ TOLD tx f' (spM n)) ∧ (¬ a' = n → spP tx n (m + 1) p = a')) ∨ (w' < BIG ∧ spP tx n (m + 1) p = w')) := by
        intro g1 a1 b1 x ev W1 O1 hb ha es
        have hb' : b1 < 4294967295 := hb
        have df : (decide (b1 = BIG)) = false := decide_eq_false (Nat.ne_of_lt hb)
        refine ⟨g1, f, a1, b1, spH tx p, fun K => ?_, W1, (O1.2 149 (by decide)).trans c, O1.mono (fun k hk => Or.inl hk), ha, Or.inr ⟨hb, es⟩⟩
        obtain ⟨q, rfl⟩ : ∃ z, q = z + 1 := ⟨q - 1, by omega⟩
        rw [head, if_neg nm, ev, Option.bind_some, m_fine W1 (by omega), Option.bind_some, df, if_neg (by decide), fX11_spaces_L57, m_fine W1 (by omega), Option.bind_some, df, if_neg (by decide)]
      -- a page that stands
      have go : ∀ (g1 : AH), fX11_valueOf g 145 = some (J (if spN tx p then 4294967295 else spV tx p), g1) → RS g1 145 F 147 tx n 18 (2 + 2 * p + 2) BIG → On (fun k => k = 145) g g1 → (spN tx p ∨ spV tx p < 100) → 2 + 2 * (p + 1) ≤ n → spP tx n (m + 1) p = spP tx n m (p + 1) → ∃ g' f' a' w' hh, (∀ K : AH → Nat → Int32 → Int32 → Int32 → Option (Int32 × AH), fX11_spaces_L57 K (q + 1) g 145 x1 x2 (J p) (J (spH tx p)) = K g' 145 x1 x2 (J hh)) ∧ RS g' 145 F 147 tx n 18 a' w' ∧ g'.1 149 = some (.inl (0, 8, .inl f')) ∧ On (fun k => k = 145 ∨ k = 149) g g' ∧ a' < 100 ∧ ((w' = BIG ∧ a' ≤ n ∧ (a' = n → spP tx n (m + 1) p = BIG ∧ hh = spH tx (spM n) ∧ TOLD tx f' (spM n)) ∧ (¬ a' = n → spP tx n (m + 1) p = a')) ∨ (w' < BIG ∧ spP tx n (m + 1) p = w')) := by
        intro g1 ev W1 O1 hv h4 es
        obtain ⟨g2, d2, c2, O2⟩ := wa_s ((O1.2 149 (by decide)).trans c) (show p < 8 by omega) (by decide) (J (if spN tx p then 4294967295 else spV tx p))
        have O2' : On (fun k => k = 149) g1 g2 := O2.on1 rfl
        have W2 := rs_on W1 O2' (by decide) (by decide)
        rw [show 2 + 2 * p + 2 = 2 + 2 * (p + 1) by omega] at W2
        obtain ⟨g3, f3, a3, w3, hh, d3, W3, c3, O3, a100, out⟩ := y_spP F11 hn hS m (p + 1) q g2 _ (by omega) (by omega) W2 h4 c2 (told_s K0)
        rw [es]
        refine ⟨g3, f3, a3, w3, hh, fun K => ?_, W3, c3, ((O1.mono (fun k hk => Or.inl hk)).trans (O2'.mono (fun k hk => Or.inr hk))).trans O3, a100, out⟩
        have d3' := d3 K
        have eh : spH tx (p + 1) = spH tx p + (if spN tx p then 0 else 1) := rfl
        have r11 : gR g1 11 145 11 = some 149 := ob_r W1.2.1 (by decide) (by rw [rs_f W1 (by decide) (by decide)]; exact F11)
        have e1 : J p + 1 = J (p + 1) := by rw [l_1, J_add]
        have a0 : J (spH tx p) + 0 = J (spH tx p) := by rw [l_0, J_add]; rfl
        have a1 : J (spH tx p) + 1 = J (spH tx p + 1) := by rw [l_1, J_add]
        rw [head, if_neg nm, ev, Option.bind_some, m_fine W1 (by decide), Option.bind_some, if_pos (by decide), r11, Option.bind_some, d2, Option.bind_some]
        unfold fX11_spaces_J115
        by_cases z : spN tx p
        · rw [if_pos z] at eh
          rw [eh] at d3'
          rw [if_pos (by rw [if_pos z, m1_J])]
          simp only [letF, e1, a0]
          exact d3'
        · rw [if_neg z] at eh
          rw [eh] at d3'
          have hv' := hv.resolve_left z
          rw [if_neg (fun y => by rw [if_neg z, m1_J, J_inj (by omega) (by decide)] at y; omega)]
          simp only [letF, e1, a1]
          exact d3'
      have b2 : ∀ x, x ≤ 100 → x < BIG := fun x hx => by omega
      have e3 : 2 + 2 * p + 1 = 3 + 2 * p := by omega
      by_cases z46 : tx (2 + 2 * p) = 46
      · have s1 : spB tx (2 + 2 * p) = true := by rw [spB_e, decide_eq_true z46, Bool.or_true]
        by_cases zz : hrf tx n 18 (2 + 2 * p + 1) = 46
        · have hin := hrf_lt (τ := tx) (len := n) (top := 18) (i := 2 + 2 * p + 1) (by rw [zz]; decide)
          have hi3 := hr_in (τ := tx) (len := n) (top := 18) hin.1 hin.2
          rw [hi3, e3] at zz
          obtain ⟨g1, ev, W1, O1⟩ := m_val_pp W (by omega) (by rw [hi]; exact z46) (by rw [hi3, e3]; exact zz)
          have s2 : spB tx (3 + 2 * p) = true := by rw [spB_o, if_pos z46]; exact decide_eq_true zz
          refine go g1 (by rw [if_pos (show spN tx p from z46)]; exact ev) W1 O1 (Or.inl z46) (by omega) ?_
          conv => lhs; unfold spP
          rw [if_neg z1, if_neg (fun y => y s1), if_neg (fun y => y.elim (fun x => by omega) (fun x => x s2))]
        · obtain ⟨g1, x, ev, W1, O1⟩ := m_val_pn W (by omega) (by rw [hi]; exact z46) zz
          refine stop g1 _ _ x ev W1 O1 (b2 _ (by omega)) (by omega) ?_
          have s2 : n ≤ 3 + 2 * p ∨ ¬ spB tx (3 + 2 * p) = true := by
            by_cases y : n ≤ 3 + 2 * p
            · exact Or.inl y
            · right
              rw [spB_o, if_pos z46]
              intro u
              have u' := of_decide_eq_true u
              rw [hr_in (by omega) (by omega), e3] at zz
              exact zz u'
          unfold spP
          rw [if_neg z1, if_neg (fun y => y s1), if_pos s2]
          omega
      · have n46 : ¬ hrf tx n 18 (2 + 2 * p) = 46 := by rw [hi]; exact z46
        by_cases zd : dgc (hrf tx n 18 (2 + 2 * p)) = true ∧ dgc (hrf tx n 18 (2 + 2 * p + 1)) = true
        · obtain ⟨g1, ev, W1, O1⟩ := m_val_y W (by omega) zd.1 zd.2
          have r2 := dgc_r zd.2
          have hin := hrf_lt (τ := tx) (len := n) (top := 18) (i := 2 + 2 * p + 1) (by omega)
          have hi3 := hr_in (τ := tx) (len := n) (top := 18) hin.1 hin.2
          rw [hi, hi3, e3] at zd ev
          have s1 : spB tx (2 + 2 * p) = true := by rw [spB_e, zd.1, Bool.true_or]
          have s2 : spB tx (3 + 2 * p) = true := by rw [spB_o, if_neg z46]; exact zd.2
          have r1 := dgc_r zd.1
          have r3 := dgc_r zd.2
          refine go g1 (by rw [if_neg (show ¬ spN tx p from z46)]; exact ev) W1 O1 (Or.inr (by unfold spV; omega)) (by omega) ?_
          conv => lhs; unfold spP
          rw [if_neg z1, if_neg (fun y => y s1), if_neg (fun y => y.elim (fun x => by omega) (fun x => x s2))]
        · obtain ⟨g1, x, b, ev, W1, hb, O1⟩ := m_val_n W (by omega) n46 zd
          by_cases zd1 : dgc (hrf tx n 18 (2 + 2 * p)) = true
          · rw [if_pos zd1] at hb
            have s1 : spB tx (2 + 2 * p) = true := by rw [hi] at zd1; rw [spB_e, zd1, Bool.true_or]
            have s2 : n ≤ 3 + 2 * p ∨ ¬ spB tx (3 + 2 * p) = true := by
              by_cases y : n ≤ 3 + 2 * p
              · exact Or.inl y
              · right
                rw [spB_o, if_neg z46]
                intro u
                refine zd ⟨zd1, ?_⟩
                rw [hr_in (by omega) (by omega), e3]
                exact u
            refine stop g1 b b x ev W1 O1 (by rw [hb]; exact b2 _ (by omega)) (by omega) ?_
            unfold spP
            rw [if_neg z1, if_neg (fun y => y s1), if_pos s2, hb, e3]
          · rw [if_neg zd1] at hb
            have s1 : ¬ spB tx (2 + 2 * p) = true := by
              rw [hi] at zd1
              rw [spB_e, decide_eq_false z46, Bool.or_false]
              exact zd1
            refine stop g1 b b x ev W1 O1 (by rw [hb]; exact b2 _ (by omega)) (by omega) ?_
            unfold spP
            rw [if_neg z1, if_pos s1, hb]
end RSP
section SPM
variable {h g : AH} {mk : Nat} {tx : Nat → Nat} {len : Nat} {w : ST} {un : Nat} {us : Nat → ST} {kp : Nat → Bool} {ks : Nat → ST} {C : List Nat} {ρ : Nat → Nat} {rn : Nat} {row : List Int64} {hq : List (Nat × Nat)} {sq : List (Nat × Nat × Bool)}
theorem MIv.prd (W : MIv h tx len w un us kp ks ρ rn row hq sq) (O : On (fun k => k = 145 ∨ k = 149 ∨ k = 156) h g) (M : MO g 0 row.length un rn hq.length sq.length) (c1 : cel g 0 149 8) (c2 : cel g 0 156 320) : MIv g tx 0 w un us kp ks ρ rn row hq sq := by
  obtain ⟨w1, ⟨t0, f, t1, t2⟩, w3, w4, w5, w6, w7, w8, w9, w10⟩ := W
  obtain ⟨y1, y2, y3, y4, y5, y6, y7, y8⟩ := w10
  exact ⟨M, ⟨Nat.zero_le _, f, (O.2 147 (by omega)).trans t1, fun i hi => absurd hi (Nat.not_lt_zero i)⟩, w3.on O (by omega), w4.on O (by omega), w5.on O (by omega) (by omega), w6.on O (by omega), w7.on O (by omega), w8.on O (by omega) (by omega), w9.on O (by omega) (by omega) (by omega), ⟨c1, y2.on O (by omega), y3.on O (by omega), y4.on O (by omega), y5.on O (by omega), c2, y7.on O (by omega), y8.on O (by omega)⟩⟩
/-- reading begins -/
theorem mi_begin {top : Nat} (htop : top ≤ 100) (W : MIv h tx len w un us kp ks ρ rn row hq sq) : ∃ g F, fX11_beginText h 145 (J top) = some g ∧ RS g 145 F 147 tx len top 0 BIG ∧ F 11 = .ref 149 ∧ F 23 = .ref 156 ∧ (∀ {g' : AH} {a b : Nat}, RS g' 145 F 147 tx len top a b → MO g' 0 row.length un rn hq.length sq.length) ∧ len ≤ 80 ∧ (∀ i, i < len → tx i < 256) ∧ On (fun k => k = 145) h g := by
  obtain ⟨⟨F, M, mf⟩, ⟨t0, f, t1, t2⟩, w3⟩ := W
  obtain ⟨g, e, R, O⟩ := m_beginText (T := 147) (τ := tx) (len := len) (top := top) M (mf.1 1 _ rfl) mf.2.1 (by decide) ⟨80, f, t1, t0, by decide, t2⟩ htop
  refine ⟨g, _, e, R, ?_, ?_, fun {g' a b} R' => ?_, t0, fun i hi => (t2 i hi).1, O⟩
  · rw [fput_ne (by decide), fput_ne (by decide), fput_ne (by decide), fput_ne (by decide)]
    exact mf.1 11 _ rfl
  · rw [fput_ne (by decide), fput_ne (by decide), fput_ne (by decide), fput_ne (by decide)]
    exact mf.1 23 _ rfl
  · refine ⟨_, R'.2.1, mf.rd ?_ (fun k hk => ?_)⟩
    · rw [fput_ne (by decide), fput_ne (by decide), fput_eq]
    · unfold RF at hk
      rw [fput_ne (by omega), fput_ne (by omega), fput_ne (by omega), fput_ne (by omega), fput_ne (by omega), fput_ne (by omega)]
/-- the text read as a space, by the reference -/
theorem y_spR (W : MIv h tx len w un us kp ks ρ rn row hq sq) : ∃ gA gB v1 v2 hh f, ((fX11_beginText h 145 18).bind fun q38 => (fX11_oneOf q38 145 48 4).bind fun q39 => (fX11_oneOf q39.2 145 48 10).bind fun q40 => fX11_spaces_L36 (fun h46 x41 x42 x43 x44 x45 => fX11_spaces_L57 (fun h51 x47 x48 x49 x50 => fX11_spaces_J124 h51 x47 x48 x49 x50) FU h46 x41 x42 x43 x44 x45) FU q40.2 145 q39.1 q40.1 0 0 0) = fX11_spaces_J124 gA 145 (J v1) (J v2) (J hh) ∧ fX11_wasRight gA 145 = some (decide (spF tx len = BIG), gB) ∧ MIv gB tx 0 w un us kp ks ρ rn row hq sq ∧ gI gB 11 145 10 = some (J (spF tx len)) ∧ gB.1 149 = some (.inl (0, 8, .inl f)) ∧ (spF tx len = BIG → v1 = tx 0 - 48 ∧ v2 = tx 1 - 48 ∧ hh = spH tx (spM len) ∧ TOLD tx f (spM len)) ∧ On PM0 h gB := by
  obtain ⟨g1, F, e1, R1, F11, F23, mo, l80, t256, O1⟩ := mi_begin (top := 18) (by decide) W
  obtain ⟨fA, cA⟩ := W.2.2.2.2.2.2.2.2.2.1
  obtain ⟨fB, cB⟩ := W.2.2.2.2.2.2.2.2.2.2.2.2.2.2.1
  have e1' : fX11_beginText h 145 18 = some g1 := e1
  have cA1 : g1.1 149 = some (.inl (0, 8, .inl fA)) := (O1.2 149 (by decide)).trans cA
  -- what is left, once the two signs are read
  have rest : ∀ (g3 : AH) (a b v1 v2 : Nat), RS g3 145 F 147 tx len 18 a b → On (fun k => k = 145) h g3 → g3.1 149 = some (.inl (0, 8, .inl fA)) → ((b < BIG ∧ a < 100 ∧ spF tx len = b) ∨ (b = BIG ∧ a = 2 ∧ 2 ≤ len ∧ spF tx len = spP tx len 8 0 ∧ v1 = tx 0 - 48 ∧ v2 = tx 1 - 48)) → ∃ gA gB hh f, fX11_spaces_L36 (fun h46 x41 x42 x43 x44 x45 => fX11_spaces_L57 (fun h51 x47 x48 x49 x50 => fX11_spaces_J124 h51 x47 x48 x49 x50) FU h46 x41 x42 x43 x44 x45) FU g3 145 (J v1) (J v2) 0 0 0 = fX11_spaces_J124 gA 145 (J v1) (J v2) (J hh) ∧ fX11_wasRight gA 145 = some (decide (spF tx len = BIG), gB) ∧ MIv gB tx 0 w un us kp ks ρ rn row hq sq ∧ gI gB 11 145 10 = some (J (spF tx len)) ∧ gB.1 149 = some (.inl (0, 8, .inl f)) ∧ (spF tx len = BIG → v1 = tx 0 - 48 ∧ v2 = tx 1 - 48 ∧ hh = spH tx (spM len) ∧ TOLD tx f (spM len)) ∧ On PM0 h gB := by
    intro g3 a b v1 v2 R3 O3 c3 hyp
    obtain ⟨g4, f4, d4, R4, c4, h4, O4⟩ := y_fillT (x1 := J v1) (x2 := J v2) (v3 := J 0) (v4 := J 0) F11 8 FU 0 g3 fA rfl (FU_gt (by decide)) R3 c3 (fun j hj => absurd hj (Nat.not_lt_zero j))
    have d4' : ∀ K : AH → Nat → Int32 → Int32 → Int32 → Int32 → Option (Int32 × AH), fX11_spaces_L36 K FU g3 145 (J v1) (J v2) 0 0 0 = K g4 145 (J v1) (J v2) (J 0) (J 0) := fun K => d4 K
    have O34 : On (fun k => k = 145 ∨ k = 149) h g4 := (O3.mono (fun k hk => Or.inl hk)).trans (O4.mono (fun k hk => Or.inr hk))
    -- not fine, or done: what the end comes to
    have fin : ∀ (g5 gB : AH) (f5 : Nat → Int32) (a5 b5 : Nat), On (fun k => k = 145 ∨ k = 149) h gB → RS gB 145 F 147 tx len 18 a5 b5 → gB.1 149 = some (.inl (0, 8, .inl f5)) → spF tx len = b5 → MIv gB tx 0 w un us kp ks ρ rn row hq sq ∧ gI gB 11 145 10 = some (J (spF tx len)) ∧ On PM0 h gB := by
      intro g5 gB f5 a5 b5 OB RB cB' es
      refine ⟨W.prd (OB.mono (fun k hk => by omega)) (mo RB) ⟨f5, cB'⟩ ⟨fB, (OB.2 156 (by decide)).trans cB⟩, ?_, mon OB (fun k hk => by omega)⟩
      rw [es]
      exact rs_10 RB
    rcases hyp with ⟨hb, ha, es⟩ | ⟨hb, ha, h2, es, ev1, ev2⟩
    · have nb : ¬ spF tx len = BIG := by rw [es]; exact Nat.ne_of_lt hb
      have hb' : b < 4294967295 := hb
      obtain ⟨q1, q2, q3⟩ := fin g4 g4 f4 a b O34 R4 c4 es
      refine ⟨g4, g4, 0, f4, ?_, ?_, q1, q2, c4, fun z => absurd z nb, q3⟩
      · rw [d4']
        have hF : FU = 4095 + 1 := rfl
        show fX11_spaces_L57 _ FU g4 145 (J v1) (J v2) (J 0) (J 0) = _
        rw [hF, fX11_spaces_L57, m_fine R4 (by omega), Option.bind_some, decide_eq_false (show ¬ b = BIG from Nat.ne_of_lt hb), if_neg (by decide)]
      · rw [m_wasR_f R4 hb (by omega), decide_eq_false nb]
    · subst hb
      subst ha
      obtain ⟨g5, f5, a5, w5, hh, d5, R5, c5, O5, a100, out⟩ := y_spP (x1 := J v1) (x2 := J v2) F11 l80 (fun _ => t256) 8 0 FU g4 f4 rfl (by decide) R4 h2 c4 ⟨fun j hj => absurd hj (Nat.not_lt_zero j), fun j _ hj => h4 j hj⟩
      have O5' := O34.trans O5
      have lhs : fX11_spaces_L36 (fun h46 x41 x42 x43 x44 x45 => fX11_spaces_L57 (fun h51 x47 x48 x49 x50 => fX11_spaces_J124 h51 x47 x48 x49 x50) FU h46 x41 x42 x43 x44 x45) FU g3 145 (J v1) (J v2) 0 0 0 = fX11_spaces_J124 g5 145 (J v1) (J v2) (J hh) := by
        rw [d4']
        exact d5 _
      rcases out with ⟨hw, hl, hy, hnn⟩ | ⟨hw, hs'⟩
      · subst hw
        obtain ⟨gB, dB, RB, OB⟩ := m_wasRight R5 hl (Or.inl rfl)
        have cB' := (OB.2 149 (by decide)).trans c5
        have OB' : On (fun k => k = 145 ∨ k = 149) h gB := O5'.trans (OB.mono (fun k hk => Or.inl hk))
        have eF : (if BIG = BIG ∧ a5 = len then BIG else a5) = spF tx len := by
          by_cases y : a5 = len
          · rw [if_pos ⟨rfl, y⟩, es, (hy y).1]
          · rw [if_neg (fun z => y z.2), es, hnn y]
        have dd : decide (BIG = BIG ∧ a5 = len) = decide (spF tx len = BIG) := by
          rw [decide_eq_decide]
          by_cases y : a5 = len
          · rw [es, (hy y).1]
            exact ⟨fun _ => rfl, fun _ => ⟨rfl, y⟩⟩
          · rw [es, hnn y]
            exact ⟨fun z => absurd z.2 y, fun z => absurd z (big_40 (by omega))⟩
        obtain ⟨q1, q2, q3⟩ := fin g5 gB f5 a5 _ OB' RB cB' eF.symm
        rw [dd] at dB
        refine ⟨g5, gB, hh, f5, lhs, dB, q1, q2, cB', fun z => ?_, q3⟩
        by_cases y : a5 = len
        · exact ⟨ev1, ev2, (hy y).2.1, (hy y).2.2⟩
        · rw [es, hnn y] at z
          exact absurd z (big_40 (by omega))
      · have nb : ¬ spF tx len = BIG := by rw [es, hs']; exact Nat.ne_of_lt hw
        obtain ⟨q1, q2, q3⟩ := fin g5 g5 f5 a5 w5 O5' R5 c5 (es.trans hs')
        refine ⟨g5, g5, hh, f5, lhs, ?_, q1, q2, c5, fun z => absurd z nb, q3⟩
        rw [m_wasR_f R5 hw (by omega), decide_eq_false nb]
  have b2 : ∀ x, x ≤ 100 → x < BIG := fun x hx => by have : BIG = 4294967295 := rfl; omega
  rw [e1', Option.bind_some]
  by_cases z0 : len = 0 ∨ ¬ spB tx 0 = true
  · have nh : ¬ (48 ≤ hrf tx len 18 0 ∧ hrf tx len 18 0 < 48 + 4) := by
      intro y
      have hin := hrf_lt (τ := tx) (len := len) (top := 18) (i := 0) (fun x => by rw [x] at y; have : BIG = 4294967295 := rfl; omega)
      rw [hr_in hin.1 hin.2] at y
      refine z0.elim (fun x => by omega) (fun x => x ?_)
      unfold spB
      rw [if_pos rfl, decide_eq_true y.1, decide_eq_true (show tx 0 ≤ 51 by omega)]
      rfl
    obtain ⟨g2, d2, R2, O2⟩ := m_oneOf_n R1 (by decide) (fi := 48) (n := 4) (by decide) (by decide) nh
    have d2' : fX11_oneOf g1 145 48 4 = some (J 0, g2) := d2
    have d3 : fX11_oneOf g2 145 48 10 = some (J 0, g2) := m_oneOf_f R2 (b2 0 (by decide)) _ _
    obtain ⟨gA, gB, hh, f, r1, r2⟩ := rest g2 0 0 0 0 R2 (O1.trans O2) ((O2.2 149 (by decide)).trans cA1) (Or.inl ⟨b2 0 (by decide), by decide, by unfold spF; rw [if_pos z0]⟩)
    refine ⟨gA, gB, 0, 0, hh, f, ?_, r2⟩
    rw [d2', Option.bind_some, d3, Option.bind_some]
    exact r1
  · have s0 : spB tx 0 = true := Classical.byContradiction fun y => z0 (Or.inr y)
    have n0 : 0 < len := by have := fun y => z0 (Or.inl y); omega
    have h0 := hr_in (τ := tx) (len := len) (top := 18) (i := 0) n0 (by decide)
    have c0 : 48 ≤ tx 0 ∧ tx 0 ≤ 51 := by
      unfold spB at s0
      rw [if_pos rfl] at s0
      simpa using s0
    obtain ⟨g2, d2, R2, O2⟩ := m_oneOf_y R1 (fi := 48) (n := 4) (by decide) (by decide) (by rw [h0]; exact c0.1) (by rw [h0]; omega)
    rw [h0] at d2
    have d2' : fX11_oneOf g1 145 48 4 = some (J (tx 0 - 48), g2) := d2
    by_cases z1 : len = 1 ∨ ¬ spB tx 1 = true
    · have nh : ¬ (48 ≤ hrf tx len 18 (0 + 1) ∧ hrf tx len 18 (0 + 1) < 48 + 10) := by
        intro y
        have hin := hrf_lt (τ := tx) (len := len) (top := 18) (i := 0 + 1) (fun x => by rw [x] at y; have : BIG = 4294967295 := rfl; omega)
        rw [hr_in hin.1 hin.2] at y
        refine z1.elim (fun x => by omega) (fun x => x ?_)
        unfold spB dgc
        rw [if_neg (by decide), if_pos rfl, decide_eq_true (show 48 ≤ tx 1 from y.1), decide_eq_true (show tx 1 ≤ 57 by have : tx 1 < 48 + 10 := y.2; omega)]
        rfl
      obtain ⟨g3, d3, R3, O3⟩ := m_oneOf_n R2 (by decide) (fi := 48) (n := 10) (by decide) (by decide) nh
      have d3' : fX11_oneOf g2 145 48 10 = some (J 0, g3) := d3
      obtain ⟨gA, gB, hh, f, r1, r2⟩ := rest g3 1 1 (tx 0 - 48) 0 R3 ((O1.trans O2).trans O3) ((O3.2 149 (by decide)).trans ((O2.2 149 (by decide)).trans cA1)) (Or.inl ⟨b2 1 (by decide), by decide, by unfold spF; rw [if_neg z0, if_pos z1]⟩)
      refine ⟨gA, gB, _, 0, hh, f, ?_, r2⟩
      rw [d2', Option.bind_some, d3', Option.bind_some]
      exact r1
    · have s1 : spB tx 1 = true := Classical.byContradiction fun y => z1 (Or.inr y)
      have n1 : 1 < len := by have := fun y => z1 (Or.inl y); omega
      have h1 := hr_in (τ := tx) (len := len) (top := 18) (i := 0 + 1) n1 (by decide)
      have h1' : hrf tx len 18 (0 + 1) = tx 1 := h1
      have c1 : 48 ≤ tx 1 ∧ tx 1 ≤ 57 := by
        unfold spB at s1
        rw [if_neg (by decide), if_pos rfl] at s1
        exact dg_r s1
      obtain ⟨g3, d3, R3, O3⟩ := m_oneOf_y R2 (fi := 48) (n := 10) (by decide) (by decide) (by rw [h1']; exact c1.1) (by rw [h1']; omega)
      rw [h1'] at d3
      have d3' : fX11_oneOf g2 145 48 10 = some (J (tx 1 - 48), g3) := d3
      obtain ⟨gA, gB, hh, f, r1, r2⟩ := rest g3 2 BIG (tx 0 - 48) (tx 1 - 48) R3 ((O1.trans O2).trans O3) ((O3.2 149 (by decide)).trans ((O2.2 149 (by decide)).trans cA1)) (Or.inr ⟨rfl, rfl, by omega, by unfold spF; rw [if_neg z0, if_neg z1], rfl, rfl⟩)
      refine ⟨gA, gB, _, _, hh, f, ?_, r2⟩
      rw [d2', Option.bind_some, d3', Option.bind_some]
      exact r1
theorem y_putL {M : Nat} {f : Nat → Int32} (I : INV w) (K : SPK tx len M) (T : TOLD tx f M) (hO : frO w < 24) {x5 : Int32} : ∀ m p q h, MO h 0 row.length un rn hq.length sq.length → RA h 146 (spS tx w (min p M)) → h.1 149 = some (.inl (0, 8, .inl f)) → p + m = 8 → m < q → ∃ h', (∀ K : AH → Nat → Int32 → Int32 → Option (Int32 × AH), fX11_spaces_L211 K q h 145 x5 (J (frO w)) (J p) = K h' 145 x5 (J (frO w))) ∧ RA h' 146 (spS tx w M) ∧ On (fun k => k = 146) h h'
  | 0, p, q + 1, h, W, R, c, e, _ => by
    have m8 := K.2.1
    rw [show min p M = M by omega] at R
    refine ⟨h, fun K' => ?_, R, On.rf⟩
    rw [fX11_spaces_L211, if_pos (by rw [l_8, J_le (by decide) (by omega)]; omega)]
  | m + 1, p, q + 1, h, W, R, c, e, hq' => by
    have m8 := K.2.1
    have e1 : J p + 1 = J (p + 1) := by rw [l_1, J_add]
    have rd : aI h 0 149 (J p) = some (f p) := aI_at c (by omega) (by decide)
    have r11 : gR h 11 145 11 = some 149 := y_11 W
    have step : ∀ (x : Int32) (g1 : AH), f p = x → sI h 0 146 (J (8 * frO w + p)) x = some g1 → RA g1 146 (spS tx w (min (p + 1) M)) → Ot 146 (146 + 1) h g1 → ∃ h', (∀ K : AH → Nat → Int32 → Int32 → Option (Int32 × AH), fX11_spaces_L211 K (q + 1) h 145 x5 (J (frO w)) (J p) = K h' 145 x5 (J (frO w))) ∧ RA h' 146 (spS tx w M) ∧ On (fun k => k = 146) h h' := by
      intro x g1 fx d1 R1 O1
      have O1' : On (fun k => k = 146) h g1 := O1.on1 rfl
      obtain ⟨g2, d2, R2, O2⟩ := y_putL I K T hO (x5 := x5) m (p + 1) q g1 (W.on O1' (by decide)) R1 ((O1'.2 149 (by decide)).trans c) (by omega) (by omega)
      refine ⟨g2, fun K' => ?_, R2, O1'.trans O2⟩
      rw [fX11_spaces_L211, if_neg (fun y => by rw [l_8, J_le (by decide) (by omega)] at y; omega), y_0 W, Option.bind_some, r11, Option.bind_some, rd, Option.bind_some, fx, l_8, J_mul, J_add, d1, Option.bind_some]
      simp only [letF, e1]
      exact d2 K'
    have nob : ∀ k, k ≤ p → (spS tx w k 8 (frO w)).testBit p = false := fun k hk => by
      have := spZ_8 (tx := tx) I.rg hO k p hk
      have e8 : spZ tx w k 8 (frO w) = spS tx w k 8 (frO w) := by unfold spZ; rw [put_f (by decide), put_f (by decide)]
      rw [e8] at this
      exact this
    have same : f p = J 4294967295 → spS tx w (min (p + 1) M) = spS tx w (min p M) → ∃ h', (∀ K : AH → Nat → Int32 → Int32 → Option (Int32 × AH), fX11_spaces_L211 K (q + 1) h 145 x5 (J (frO w)) (J p) = K h' 145 x5 (J (frO w))) ∧ RA h' 146 (spS tx w M) ∧ On (fun k => k = 146) h h' := by
      intro fx es
      have rr : aI h 0 146 (J (8 * frO w + p)) = some (J 4294967295) := by
        rw [ra_pg R hO (by omega)]
        unfold pv
        rw [nob _ (Nat.min_le_left _ _), if_neg (by decide)]
      obtain ⟨g1, d1, R1, O1⟩ := rw_same R (show 8 * frO w + p < 325 by omega) rr
      exact step _ g1 fx d1 (by rw [es]; exact R1) O1
    by_cases z : p < M
    · have fx := T.1 p z
      have es : spS tx w (p + 1) = if spN tx p then spS tx w p else holdS (spS tx w p) (frO w) p (spV tx p) := rfl
      have em : min p M = p := by omega
      have em1 : min (p + 1) M = p + 1 := by omega
      by_cases y : spN tx p
      · rw [if_pos y] at fx es
        exact same fx (by rw [em, em1, es])
      · rw [if_neg y] at fx es
        rw [em] at R
        obtain ⟨g1, d1, R1, O1⟩ := rw_pg R hO (show p < 8 by omega) (spV tx p)
        exact step _ g1 fx d1 (by rw [em1, es]; exact R1) O1
    · exact same (T.2 p (by omega) (by omega)) (by rw [show min (p + 1) M = min p M by omega])
theorem xm_spaces (W : MIv h tx len w un us kp ks ρ rn row hq sq) (I : INV w) : ∃ h', fX11_spaces h 145 = some (J (sppA tx w len), h') ∧ MIv h' tx 0 (spW tx w len) (kN (spO tx w len) un) (kS (spO tx w len) un us w) kp ks ρ rn row hq sq ∧ On PM0 h h' := by
  have R := I.rg
  have G := I.gr
  obtain ⟨g0, e0, W0, -, O0⟩ := mi_t0 W
  have O0' : On PM0 h g0 := mon O0 (fun k hk => by omega)
  obtain ⟨gA, gB, v1, v2, hh, f, r1, r2, WB, f10, cB, ok, OB⟩ := y_spR W0
  have OB' := O0'.trans OB
  unfold fX11_spaces
  rw [if_pos (y_h W.1), e0, Option.bind_some, r1]
  unfold fX11_spaces_J124
  rw [r2, Option.bind_some]
  have bad : ∀ x, spO tx w len = false → sppA tx w len = x → ∃ h', some (J x, gB) = some (J (sppA tx w len), h') ∧ MIv h' tx 0 (spW tx w len) (kN (spO tx w len) un) (kS (spO tx w len) un us w) kp ks ρ rn row hq sq ∧ On PM0 h h' := fun x z ex => by
    unfold spW
    rw [z, if_neg (by decide), ex]
    exact ⟨gB, rfl, WB, OB'⟩
  have b1 := frS_le R
  have b2 := frO_le R
  have tl := I.frm
  by_cases hB : spF tx len = BIG
  · obtain ⟨o1, o2, o3, o4⟩ := ok hB
    subst o1
    subst o2
    subst o3
    have K := spM_ok hB
    have sh := spH_le tx (spM len)
    have m8 := K.2.1
    rw [if_pos (decide_eq_true hB), y_0 WB.1, Option.bind_some, m_frS WB.2.2.1 R, Option.bind_some, m1_J]
    by_cases h1 : frS w < 6
    · have en6 : n6 (frS w) = frS w := by unfold n6; rw [if_neg (by omega)]
      rw [en6, if_neg (fun y => by rw [J_inj (by omega) (by decide)] at y; omega), Option.bind_some, m_frO WB.2.2.1 R, Option.bind_some]
      by_cases h2 : frO w < 24
      · rw [nn_id h2, if_neg (fun y => by rw [J_inj (by omega) (by decide)] at y; omega), Option.bind_some, m_frames WB.2.2.1 R, Option.bind_some, J_add]
        by_cases h3 : tot w 8 + spH tx (spM len) ≤ 64
        · have okk : spO tx w len = true := decide_eq_true ⟨hB, h1, h2, h3⟩
          have eA : sppA tx w len = frS w := by
            unfold sppA
            rw [if_pos hB, if_pos h1, if_pos h2, if_pos h3]
          rw [if_pos (by rw [l_64, J_le (by omega) (by decide)]; omega), Option.bind_some]
          obtain ⟨g2, e2, W2, O2⟩ := mi_rem WB
          have s0 := K.2.2.1
          have p0 : tx 0 - 48 < 4 := by
            unfold spB at s0
            rw [if_pos rfl] at s0
            simp at s0
            omega
          obtain ⟨g3, e3, R3, O3⟩ := m_comes (t := 24) W2.2.2.1 R (pg := tx 0 - 48) (dg := tx 1 - 48) h2 p0
          have O3' : On (fun k => k = 146) g2 g3 := O3.on1 rfl
          have cs : put (comeS w (frO w) (tx 0 - 48) (tx 1 - 48)) 4 (frO w) 24 = spS tx w 0 := put_id (by
            have : comeS w (frO w) (tx 0 - 48) (tx 1 - 48) 4 (frO w) = w 4 (frO w) := by simp [comeS, put]
            rw [this]
            exact (fro_miss R h2).2.1)
          rw [cs] at R3
          have M3 := W2.1.on O3' (by decide)
          have c3 : g3.1 149 = some (.inl (0, 8, .inl f)) := (O3'.2 149 (by decide)).trans ((O2.2 149 (by decide)).trans cB)
          obtain ⟨g4, d4, R4, O4⟩ := y_putL (x5 := J (frS w)) I K o4 h2 8 0 FU g3 M3 (by rw [Nat.zero_min]; exact R3) c3 rfl (FU_gt (by decide))
          obtain ⟨rgS, hoS⟩ := spS_rg R K h2 (spM len) (Nat.le_refl _)
          have M4 := M3.on O4 (by decide)
          obtain ⟨g5, d5, R5, O5⟩ := rw_tp R4 h1 (frO w)
          rw [nn_id h2] at d5
          have O5' : On (fun k => k = 146) g4 g5 := O5.on1 rfl
          have M5 := M4.on O5' (by decide)
          have sb0 : (w 1 0).testBit (frS w) = false := by
            have f24 := frS_spec R h1
            by_cases y : (w 1 0).testBit (frS w) = true
            · have := I.sb _ h1 y
              omega
            · simpa using y
          have r318 : aI g5 0 146 (J (318 + frS w)) = some (J 0) := by
            rw [ra_sr R5 h1]
            unfold sb
            have e10 : put (spS tx w (spM len)) 0 (frS w) (frO w) 1 0 = w 1 0 := by
              rw [put_f (by decide), spS_f (by decide) (by decide)]
              simp [comeS, put]
            rw [e10, sb0, if_neg (by decide)]
          obtain ⟨g6, d6, R6, O6⟩ := rw_same R5 (show 318 + frS w < 325 by omega) r318
          have O6' : On (fun k => k = 146) g5 g6 := O6.on1 rfl
          have R7 : RA g6 146 (spW tx w len) := by
            unfold spW
            rw [if_pos okk]
            refine R6.cg ?_
            unfold spZ
            have key : ∀ f k, ¬ (f = 1 ∧ k = 1) → put (spS tx w (spM len)) 0 (frS w) (frO w) f k = put (put (spS tx w (spM len)) 1 1 (bset (spS tx w (spM len) 1 1) (frS w))) 0 (frS w) (frO w) f k := fun f k hfk => by
              by_cases y : f = 0 ∧ k = frS w
              · obtain ⟨rfl, rfl⟩ := y
                rw [put_eq, put_eq]
              · have p1 : ∀ τ : ST, put τ 0 (frS w) (frO w) f k = τ f k := fun τ => by simp [put, y]
                have p2 : ∀ (τ : ST) b, put τ 1 1 b f k = τ f k := fun τ b => by simp [put, hfk]
                rw [p1, p1, p2]
            exact ⟨fun k => key 0 k (by omega), ⟨key 1 0 (by omega), key 1 3 (by omega)⟩, fun k => key 2 k (by omega), fun k => key 3 k (by omega), fun k => key 4 k (by omega), fun k => key 5 k (by omega), fun k => key 6 k (by omega), fun k => key 7 k (by omega), fun k => key 8 k (by omega)⟩
          have OO : On (fun k => k = 146) g2 g6 := ((O3'.trans O4).trans O5').trans O6'
          have W6 := W2.pw OO R7
          rw [okk, eA]
          refine ⟨g6, ?_, W6, (OB'.trans (mon O2 (fun k hk => by omega))).trans (mon OO (fun k hk => by omega))⟩
          have e3' : fX11_comes g2 146 (J (tx 0 - 48)) (J (tx 1 - 48)) (J 4294967295) = some (J (frO w), g3) := e3
          rw [e2, Option.bind_some, y_0 W2.1, Option.bind_some, e3', Option.bind_some]
          refine Eq.trans (d4 _) ?_
          have d6' : sI g5 0 146 (J (318 + frS w)) 0 = some g6 := d6
          rw [y_0 M4, Option.bind_some, l_312, J_add, d5, Option.bind_some, y_0 M5, Option.bind_some, l_318, J_add, d6', Option.bind_some]
        · rw [if_neg (fun y => by rw [l_64, J_le (by omega) (by decide)] at y; omega), n102]
          exact bad _ (decide_eq_false (fun y => h3 y.2.2.2)) (by unfold sppA; rw [if_pos hB, if_pos h1, if_pos h2, if_neg h3])
      · rw [if_pos (by rw [show frO w = 24 by omega]; rfl), n101]
        exact bad _ (decide_eq_false (fun y => h2 y.2.2.1)) (by unfold sppA; rw [if_pos hB, if_pos h1, if_neg h2])
    · rw [if_pos (by rw [show frS w = 6 by omega]; rfl), n100]
      exact bad _ (decide_eq_false (fun y => h1 y.2.1)) (by unfold sppA; rw [if_pos hB, if_neg h1])
  · have hl := (spF_r tx len).resolve_left hB
    rw [if_neg (fun y => hB (of_decide_eq_true y)), f10, Option.bind_some, m1_J, J_sub (by omega)]
    exact bad _ (decide_eq_false (fun y => hB y.1)) (by unfold sppA; rw [if_neg hB])
end SPM
