/-! tidies, reads, writes -/
theorem WRk.on {h h' : AH} {w c b : Nat} {σ : ST} {P : Nat → Prop} (W : WRk h w σ c b) (O : On P h h') (hP : ∀ k, w ≤ k → k < w + 9 → ¬ P k) : WRk h' w σ c b := by
  obtain ⟨A, I, C, S⟩ := W
  refine ⟨A, I, ?_, S⟩
  unfold WC at C ⊢
  rw [O.2 w (hP _ (by omega) (by omega)), O.2 (w + 1) (hP _ (by omega) (by omega)), O.2 (w + 2) (hP _ (by omega) (by omega)), O.2 (w + 3) (hP _ (by omega) (by omega)), O.2 (w + 4) (hP _ (by omega) (by omega)), O.2 (w + 5) (hP _ (by omega) (by omega)), O.2 (w + 6) (hP _ (by omega) (by omega)), O.2 (w + 7) (hP _ (by omega) (by omega)), O.2 (w + 8) (hP _ (by omega) (by omega))]
  exact C
theorem td_le : ∀ k (σ : ST) x c b, (tdS k σ x c b).2.1 + (tdS k σ x c b).2.2 ≤ c + b + k
  | 0, _, _, _, _ => Nat.le_refl _
  | k + 1, σ, x, c, b => by
    unfold tdS
    split
    · split
      · have := td_le k (bypS σ x 24) x c (b + 1); omega
      · split
        · have := td_le k (clpS σ x (σ 4 x)) x (c + 1) b; omega
        · split
          · have := td_le k (bypS σ x (σ 4 (σ 4 x))) x c (b + 1); omega
          · have := td_le k σ (σ 4 x) c b; omega
    · show c + b ≤ _
      omega
theorem tid_le (σ : ST) (s : Nat) : (tidS σ s).2.1 + (tidS σ s).2.2 ≤ 24 := by
  have := td_le 24 σ (tp σ s) 0 0
  unfold tidS
  omega
theorem gF_pF {h h' : AH} {c a k j : Nat} {v : Value} (e : pF h c a k v = some h') (hj : j ≠ k) : gF h' c a j = gF h c a j := by
  unfold pF at e
  split at e
  · rename_i c' fs h1
    split at e
    · rename_i h2
      cases e
      unfold gF
      rw [hset_eq, h1, h2.1]
      simp only [if_true]
      rw [List.getElem?_set_ne (Ne.symm hj)]
    · cases e
  · cases e
theorem gI_pF {h h' : AH} {c a k j : Nat} {v : Value} (e : pF h c a k v = some h') (hj : j ≠ k) : gI h' c a j = gI h c a j := by
  unfold gI
  rw [gF_pF e hj]
theorem gI_on {h h' : AH} {c a j : Nat} {P : Nat → Prop} (O : On P h h') (ha : ¬ P a) : gI h' c a j = gI h c a j := by
  unfold gI gF
  rw [O.2 a ha]
def tiR (w : ST) (s : Nat) : List Int64 := [Int32.toInt64 (J (tidS w s).2.1), Int32.toInt64 (J (tidS w s).2.2), Int32.toInt64 (J (dep (tidS w s).1 24 (tp (tidS w s).1 s)))]
def tiN (w : ST) (s : Nat) : Nat := if hs w s = true then (tidS w s).2.1 + (tidS w s).2.2 else 4294967295
def tiS (w : ST) (s : Nat) : ST := if hs w s = true then (tidS w s).1 else w
section CB
variable {h g : AH} {mk : Nat} {tx : Nat → Nat} {len : Nat} {w : ST} {un : Nat} {us : Nat → ST} {kp : Nat → Bool} {ks : Nat → ST} {C : List Nat} {ρ : Nat → Nat} {rn : Nat} {row : List Int64} {hq : List (Nat × Nat)} {sq : List (Nat × Nat × Bool)}
/-- how a tidying is told, by the class -/
theorem c_tellTid {a c b : Nat} {τ : ST} {s : Nat} (W : CIk h mk tx len w un us kp ks C row hq sq) (K : WRk h a τ c b) (R : RG τ) (ha : a = 2 ∨ a = 11) (hs' : s < 4294967296) : ∃ g, fX10_tellTidying h 0 a (J s) = some g ∧ CIk g mk tx len w un us kp ks C [Int32.toInt64 (J c), Int32.toInt64 (J b), Int32.toInt64 (J (dep τ 24 (tp τ s)))] hq sq ∧ On (fun k => k = 132 ∨ k = 133) h g := by
  obtain ⟨g1, e1, W1, O1⟩ := ci_clr W
  have K1 := K.on O1 (fun k h1 h2 => by omega)
  obtain ⟨g2, e2, W2, O2⟩ := ci_add W1 (by simp) (Int32.toInt64 (J c))
  have K2 := K1.on O2 (fun k h1 h2 => by omega)
  obtain ⟨g3, e3, W3, O3⟩ := ci_add W2 (by simp) (Int32.toInt64 (J b))
  have K3 := K2.on O3 (fun k h1 h2 => by omega)
  obtain ⟨g4, e4, W4, O4⟩ := ci_add W3 (by simp) (Int32.toInt64 (J (dep τ 24 (tp τ s))))
  refine ⟨g4, ?_, W4, ((O1.trans O2).trans O3).trans O4⟩
  unfold fX10_tellTidying fX9_collapseTotal fX9_bypassTotal
  simp (disch := omega) only [x_h W.1, if_true, x_8 W.1, e1, Option.bind_some, x_8 W1.1, wr_h K1.wr, wk_i12 K1, e2, x_8 W2.1, wr_h K2.wr, wk_i13 K2, e3, x_8 W3.1, c_chain K3.wr R, e4]
theorem xc_tidies (W : CIk h mk tx len w un us kp ks C row hq sq) (I : INV w) {s : Nat} (hs' : s < 4294967296) : ∃ h' mk', fX10_tidies h 0 (J s) = some (J (tiN w s), h') ∧ CIk h' mk' tx len (tiS w s) (kN (hs w s) un) (kS (hs w s) un us w) kp ks C (if hs w s = true then tiR w s else row) hq sq ∧ On PC0 h h' := by
  obtain ⟨g1, e1, W1, R1, O1⟩ := ci_mark W
  unfold fX10_tidies fX10_tidies_J33 fX10_tidies_J43
  simp only [x_h W.1, if_true, x_4 W.1, x_2 W.1, x_2 W1.1, Option.bind_some, e1]
  by_cases h0 : hs w s = true
  · obtain ⟨c, b, K1⟩ := W1.2.2.1.wk
    obtain ⟨g2, e2, K2, O2⟩ := c_tidy K1 I.rg h0
    have O2' : On (fun k => 2 ≤ k ∧ k < 11) g1 g2 := O2.on (fun k h1 h2 => ⟨h1, h2⟩)
    have W2 := W1.pw O2' K2.wr
    have R2 := wr_mark R1 W1.mk9 O2' (fun k h1 h2 => by omega)
    obtain ⟨g3, e3, W3, O3⟩ := c_tellTid W2 K2 (inv_tid I h0).rg (Or.inl rfl) hs'
    have R3 := wr_mark R2 W1.mk9 O3 (fun k h1 h2 => by omega)
    obtain ⟨g4, mk4, e4, W4, O4⟩ := ci_keepIf W3 true (fun _ => R3)
    have tl := tid_le w s
    unfold tiN tiS
    rw [h0, if_pos rfl, if_pos rfl, if_pos rfl]
    refine ⟨g4, mk4, ?_, W4, ((O1.trans (O2'.mono (fun k hk => by show k < 145; omega))).trans (O3.mono (fun k hk => by show k < 145; omega))).trans O4⟩
    simp (disch := omega) only [e2, Option.bind_some, l_0, J_lt]
    rw [if_neg (by omega)]
    simp (disch := omega) only [x_2 W2.1, e3, Option.bind_some, J_lt]
    rw [if_neg (by omega), i2z_1]
    simp only [Option.bind_some, e4]
  · obtain ⟨g3, mk3, e3, W3, O3⟩ := ci_keepIf (σ := w) W1 false (fun z => by cases z)
    have h0' : hs w s = false := by simpa using h0
    unfold tiN tiS
    rw [h0', if_neg (by decide), if_neg (by decide), if_neg (by decide)]
    refine ⟨g3, mk3, ?_, W3, O1.trans O3⟩
    simp (disch := omega) only [c_tidy_no W1.2.2.1 I.rg hs' h0, Option.bind_some]
    rw [if_pos (by decide), if_pos (by decide), i2z_0]
    simp only [Option.bind_some, e3]
    rfl
theorem mi_tell2 (W : MIv h tx len w un us kp ks ρ rn row hq sq) (hr : row.length < 24) (x : Int64) : ∃ g, fX11_tell h 145 x = some g ∧ MIv g tx len w un us kp ks ρ rn (row ++ [x]) hq sq ∧ (∀ k, k ≠ 4 → gI g 11 145 k = gI h 11 145 k) ∧ On (fun k => k = 145 ∨ k = 148) h g := by
  obtain ⟨g, e, M, O⟩ := mi_tell W hr x
  refine ⟨g, e, M, fun k hk => ?_, O⟩
  have r7 := W.2.2.2.2.2.2.1
  obtain ⟨r0, f, r1, r2⟩ := r7
  obtain ⟨g1, e1, c1, O1⟩ := wa_J r1 hr (by decide) x
  have O1' : On (fun k => k = 148) h g1 := O1.on1 rfl
  have M1 := W.1.on O1' (by decide)
  obtain ⟨g2, e2, W2, O2⟩ := y_p4 M1 (row.length + 1)
  have e' : fX11_tell h 145 x = some g2 := by
    unfold fX11_tell
    simp only [y_h W.1, if_true, y_3 W.1, y_4 W.1, Option.bind_some, e1, y_4 M1, l_1, J_add, e2]
  rw [e'] at e
  cases e
  rw [gI_pF e2 hk, gI_on O1' (by decide)]
theorem mi_clr2 (W : MIv h tx len w un us kp ks ρ rn row hq sq) : ∃ g, pF h 11 145 4 (.int 0) = some g ∧ MIv g tx len w un us kp ks ρ rn [] hq sq ∧ (∀ k, k ≠ 4 → gI g 11 145 k = gI h 11 145 k) ∧ On (fun k => k = 145) h g := by
  obtain ⟨g, e, M, O⟩ := mi_clr W
  exact ⟨g, e, M, fun k hk => gI_pF e hk, O⟩
/-- the reference tidies a row of its, told in its fields -/
theorem y_tidy {A : Nat} {τ : ST} (W : MO h len rn un rn hq.length sq.length) : True := trivial
theorem mi_tid (W : MIv h tx len w un us kp ks ρ rn row hq sq) (I : INV w) {s : Nat} (h0 : hs w s = true) : ∃ g, fX11_goTidy h 145 146 (J s) = some g ∧ MIv g tx len (tidS w s).1 un us kp ks ρ rn row hq sq ∧ gI g 11 145 21 = some (J (tidS w s).2.1) ∧ gI g 11 145 22 = some (J (tidS w s).2.2) ∧ On (fun k => k = 146 ∨ k = 145) h g := by
  obtain ⟨rk, IV, H⟩ := I
  have W0 := W
  obtain ⟨⟨F, M, mf⟩, w2, w3, w4⟩ := W
  obtain ⟨g, e, R, M', -, -, O⟩ := m_tidy (show (145 : Nat) ≠ 146 by decide) w3 M IV H h0
  refine ⟨g, e, W0.pwo O ⟨_, M', (mf.p (k := 21) (by unfold NF; omega) _).p (k := 22) (by unfold NF; omega) _⟩ R, ob_i M' (by decide) (by rw [fput_ne (by decide), fput_eq]), ob_i M' (by decide) fput_eq, O⟩
theorem xm_tidies (W : MIv h tx len w un us kp ks ρ rn row hq sq) (I : INV w) {s : Nat} (hs' : s < 4294967296) : ∃ h', fX11_tidies h 145 (J s) = some (J (tiN w s), h') ∧ MIv h' tx len (tiS w s) (kN (hs w s) un) (kS (hs w s) un us w) kp ks ρ rn (if hs w s = true then tiR w s else row) hq sq ∧ On PM0 h h' := by
  have pm : ∀ {g1 g2 : AH} {P : Nat → Prop}, On P g1 g2 → (∀ k, P k → 145 ≤ k ∧ k < 166) → On PM0 g1 g2 := fun O hP => O.mono hP
  obtain ⟨g1, e1, W1, -, O1⟩ := mi_t0 W
  have O1' : On PM0 h g1 := pm O1 (fun k hk => by omega)
  unfold fX11_tidies
  simp only [y_h W.1, if_true, e1, y_0 W1.1, Option.bind_some, m_hs W1.2.2.1 I.rg hs']
  unfold tiN tiS
  by_cases h0 : hs w s = true
  · obtain ⟨s1, s2⟩ := hs_lt h0
    obtain ⟨g2, e2, W2, O2⟩ := mi_rem W1
    obtain ⟨g3, e3, W3, a21, a22, O3⟩ := mi_tid W2 I h0
    have I3 := inv_tid I h0
    obtain ⟨g4, e4, W4, q4, O4⟩ := mi_clr2 W3
    obtain ⟨g5, e5, W5, q5, O5⟩ := mi_tell2 W4 (by simp) (Int32.toInt64 (J (tidS w s).2.1))
    obtain ⟨g6, e6, W6, q6, O6⟩ := mi_tell2 W5 (by simp) (Int32.toInt64 (J (tidS w s).2.2))
    obtain ⟨g7, e7, W7, q7, O7⟩ := mi_tell2 W6 (by simp) (Int32.toInt64 (J (dep (tidS w s).1 24 (tp (tidS w s).1 s))))
    have b4 := (q4 21 (by decide)).trans a21
    have b5 := (q5 22 (by decide)).trans ((q4 22 (by decide)).trans a22)
    have c7 := (q7 21 (by decide)).trans ((q6 21 (by decide)).trans ((q5 21 (by decide)).trans b4))
    have d7 := (q7 22 (by decide)).trans ((q6 22 (by decide)).trans b5)
    rw [h0, if_pos rfl, if_pos rfl, if_pos rfl, if_pos rfl]
    refine ⟨g7, ?_, W7, (((((O1'.trans (pm O2 (fun k hk => by omega))).trans (pm O3 (fun k hk => by omega))).trans (pm O4 (fun k hk => by omega))).trans (pm O5 (fun k hk => by omega))).trans (pm O6 (fun k hk => by omega))).trans (pm O7 (fun k hk => by omega))⟩
    simp only [e2, y_0 W2.1, Option.bind_some, e3, e4, b4, e5, b5, e6, y_0 W6.1, m_len W6.2.2.1 I3.rg I3.gr s1, e7, c7, d7, J_add]
  · have h0' : hs w s = false := by simpa using h0
    rw [h0', if_neg (by decide), if_neg (by decide), if_neg (by decide), if_neg (by decide), m1_J]
    exact ⟨g1, rfl, W1, O1'⟩
/-! 10 -/
def rdK (w : ST) (s p : Nat) : Bool := decide (rdN w s p < 2147483648 ∨ rdN w s p = 4294967293)
def rdR (w : ST) (s p : Nat) (row : List Int64) : List Int64 := if rdN w s p < 2147483648 then [Int32.toInt64 (J (plh w p 24 (tp w s)))] else row
theorem rdN_lt (R : RG w) {s p : Nat} (hp' : p < 4294967296) : rdN w s p < 100 ∨ (4294967290 ≤ rdN w s p ∧ rdN w s p < 4294967296) := by
  have := pkv_lt R s p hp'
  unfold rdN
  split <;> omega
theorem plc_le {σ : ST} {x : Nat} : ∀ k o, plc σ x k o ≤ k
  | 0, _ => Nat.le_refl _
  | k + 1, o => by
    unfold plc
    split
    · have := plc_le (σ := σ) (x := x) k (σ 4 o); omega
    · omega
theorem xc_reads (W : CIk h mk tx len w un us kp ks C row hq sq) (I : INV w) {s p : Nat} (hs' : s < 4294967296) (hp' : p < 4294967296) : ∃ h' mk', fX10_reads h 0 (J s) (J p) = some (J (rdN w s p), h') ∧ CIk h' mk' tx len (rdS w s p) (kN (rdK w s p) un) (kS (rdK w s p) un us w) kp ks C (rdR w s p row) hq sq ∧ On PC0 h h' := by
  have R := I.rg
  have G := I.gr
  have rl := rdN_lt R (s := s) hp'
  obtain ⟨g1, e1, W1, R1, O1⟩ := ci_mark W
  obtain ⟨c, b, K1⟩ := W1.2.2.1.wk
  obtain ⟨g2, e2, K2, O2⟩ := c_read K1 R hs' hp'
  have O2' : On (fun k => 2 ≤ k ∧ k < 11) g1 g2 := O2.on (fun k h1 h2 => ⟨h1, h2⟩)
  have W2 := W1.pw O2' K2.wr
  have R2 := wr_mark R1 W1.mk9 O2' (fun k h1 h2 => by omega)
  have fl := fir_le (σ := w) s p
  have ep : plc w (fir w s p) 24 (tp w s) = plh w p 24 (tp w s) := plc_fh 24 _ (chn_tp R G s)
  have hpl : fX9_placeOf g1 2 (J s) (J (fir w s p)) = some (J (plh w p 24 (tp w s))) := by rw [c_place W1.2.2.1 R hs' (by omega), ep]
  have hfh : fX9_firstHolder g1 2 (J s) (J p) = some (J (fir w s p)) := c_fh W1.2.2.1 R hs' hp'
  unfold fX10_reads
  simp (disch := omega) only [x_h W.1, if_true, x_4 W.1, x_2 W.1, x_2 W1.1, Option.bind_some, e1, hfh, hpl, e2, l_0, J_lt]
  unfold fX10_reads_J61 fX10_reads_J79 rdR
  by_cases hk : rdN w s p < 2147483648
  · rw [if_neg (by omega), if_pos hk]
    obtain ⟨g3, e3, W3, O3⟩ := ci_clr W2
    obtain ⟨g4, e4, W4, O4⟩ := ci_add W3 (by simp) (Int32.toInt64 (J (plh w p 24 (tp w s))))
    have R4 := wr_mark (wr_mark R2 W1.mk9 O3 (fun k h1 h2 => by omega)) W1.mk9 O4 (fun k h1 h2 => by omega)
    obtain ⟨g5, mk5, e5, W5, O5⟩ := ci_keepIf W4 true (fun _ => R4)
    have ek : rdK w s p = true := by unfold rdK; exact decide_eq_true (Or.inl hk)
    rw [ek]
    refine ⟨g5, mk5, ?_, W5, (((O1.trans (O2'.mono (fun k hk => by show k < 145; omega))).trans (O3.mono (fun k hk => by show k < 145; omega))).trans (O4.mono (fun k hk => by show k < 145; omega))).trans O5⟩
    simp (disch := omega) only [x_8 W2.1, e3, x_8 W3.1, e4, Option.bind_some, l_0, J_le]
    rw [if_pos (by omega), i2z_1]
    simp only [Option.bind_some, e5]
  · rw [if_pos (by omega), if_neg hk]
    have ek : rdK w s p = decide (rdN w s p = 4294967293) := by
      unfold rdK
      rw [decide_eq_decide]
      exact ⟨fun z => z.resolve_left hk, fun z => Or.inr z⟩
    rw [ek]
    obtain ⟨g5, mk5, e5, W5, O5⟩ := ci_keepIf W2 (decide (rdN w s p = 4294967293)) (fun _ => R2)
    refine ⟨g5, mk5, ?_, W5, (O1.trans (O2'.mono (fun k hk => by show k < 145; omega))).trans O5⟩
    simp (disch := omega) only [l_0, J_le, neg_l3, J_inj]
    rw [if_neg (by omega)]
    by_cases h3 : rdN w s p = 4294967293
    · rw [decide_eq_true h3] at e5
      rw [if_pos h3, i2z_1]
      simp only [Option.bind_some, e5]
    · rw [decide_eq_false h3] at e5
      rw [if_neg h3, show i2z (J 0) = some false from rfl]
      simp only [Option.bind_some, e5]
theorem inv_rd (I : INV w) {s p : Nat} (hp' : p < 4294967296) : INV (rdS w s p) := by
  unfold rdS
  by_cases h1 : pk w s p < 2147483648
  · rw [if_pos h1]
    obtain ⟨h0, hp⟩ := pk_p h1
    by_cases h2 : pgi w s p = true ∧ tot w 8 < 64
    · rw [if_pos h2]
      have rf : rfF w s p = 0 := by
        have e := pk_rf h0 hp
        have rv := rfF_v w s p
        by_cases z : rfF w s p = 0
        · exact z
        · rw [if_neg z] at e; omega
      have e := pk_rf h0 hp
      rw [if_pos rf] at e
      have it := inv_ft I h0 hp (by rw [if_pos h2.1]; omega)
      have ef : ftS w s p = holdS w (las w s) p (pk w s p) := by unfold ftS; rw [if_pos h2.1, e]
      rw [← ef]
      exact it.1
    · rw [if_neg h2]; exact I
  · rw [if_neg h1]
    by_cases h3 : pk w s p = 4294967293
    · rw [if_pos h3]
      obtain ⟨q1, q2⟩ := pk_3 I.rg hp' h3
      exact inv_aw I q1 q2
    · rw [if_neg h3]; exact I
theorem xm_reads (W : MIv h tx len w un us kp ks ρ rn row hq sq) (I : INV w) {s p : Nat} (hs' : s < 4294967296) (hp' : p < 4294967296) : ∃ h', fX11_reads h 145 (J s) (J p) = some (J (rdN w s p), h') ∧ MIv h' tx len (rdS w s p) (kN (rdK w s p) un) (kS (rdK w s p) un us w) kp ks ρ rn (rdR w s p row) hq sq ∧ On PM0 h h' := by
  have pm : ∀ {g1 g2 : AH} {P : Nat → Prop}, On P g1 g2 → (∀ k, P k → 145 ≤ k ∧ k < 166) → On PM0 g1 g2 := fun O hP => O.mono hP
  have R := I.rg
  have G := I.gr
  have tt := I.frm
  obtain ⟨g1, e1, W1, -, O1⟩ := mi_t0 W
  have O1' : On PM0 h g1 := pm O1 (fun k hk => by omega)
  unfold fX11_reads
  simp only [y_h W.1, if_true, e1, y_0 W1.1, Option.bind_some, m_hs W1.2.2.1 R hs', m_isPage hp', decide_eq_true_eq]
  by_cases hsp : hs w s = true ∧ p < 8
  · obtain ⟨h0, hp⟩ := hsp
    obtain ⟨s1, s2⟩ := hs_lt h0
    rw [if_pos h0, if_pos hp]
    have ek := pk_rf h0 hp
    have rv := rfF_v w s p
    have fl := ftc_lt R (s := s) hp
    simp only [m_refR W1.2.2.1 R G h0 hp, Option.bind_some]
    by_cases hr : rfF w s p = 0
    · rw [if_pos hr] at ek
      by_cases h5 : pgi w s p = true ∧ tot w 8 = 64
      · have er : rfR w s p = 4294967291 := by unfold rfR; rw [if_pos hr, if_pos h5]
        have en : rdN w s p = 4294967291 := by unfold rdN; rw [if_pos ⟨by omega, h5.1, by omega⟩]
        have es : rdS w s p = w := by unfold rdS; rw [if_pos (by omega), if_neg (fun z => by omega)]
        have ekk : rdK w s p = false := by unfold rdK; rw [en]; decide
        unfold rdR
        rw [er, en, es, ekk]
        simp only [neg_l3]
        rw [if_neg (by decide), if_neg (by decide)]
        unfold fX11_reads_J58
        rw [if_neg (by decide)]
        exact ⟨g1, rfl, W1, O1'⟩
      · have er : rfR w s p = 0 := by unfold rfR; rw [if_pos hr, if_neg h5]
        have en : rdN w s p = ftc w s p := by
          unfold rdN
          rw [if_neg (fun z => h5 ⟨z.2.1, by omega⟩), ek]
        have es : rdS w s p = ftS w s p := by
          unfold rdS ftS
          rw [if_pos (by omega), ek]
          by_cases z : pgi w s p = true
          · have : tot w 8 < 64 := by
              have : tot w 8 ≠ 64 := fun y => h5 ⟨z, y⟩
              omega
            rw [if_pos z, if_pos ⟨z, this⟩]
          · rw [if_neg z, if_neg (fun y => z y.1)]
        have ekk : rdK w s p = true := by unfold rdK; rw [en]; exact decide_eq_true (Or.inl (by omega))
        obtain ⟨g2, e2, W2, O2⟩ := mi_rem W1
        obtain ⟨g3, e3, R3, O3⟩ := m_goFetch W2.2.2.1 R G h0 hp
        have O3' : On (fun k => k = 146) g2 g3 := O3.on1 rfl
        have W3 := W2.pw O3' R3
        obtain ⟨g4, e4, W4, O4⟩ := mi_clr W3
        obtain ⟨g5, e5, W5, O5⟩ := mi_tell W4 (by simp) (Int32.toInt64 (J (plh w p 24 (tp w s))))
        unfold rdR
        rw [er, es, ekk, en, if_pos (show ftc w s p < 2147483648 by omega)]
        simp only [neg_l3]
        rw [if_neg (by decide)]
        refine ⟨g5, ?_, W5, ((((O1'.trans (pm O2 (fun k hk => by omega))).trans (pm O3' (fun k hk => by omega))).trans (pm O4 (fun k hk => by omega))).trans (pm O5 (fun k hk => by omega)))⟩
        unfold fX11_reads_J58
        rw [if_pos (by decide)]
        simp only [y_0 W1.1, e2, Option.bind_some, y_0 W2.1, m_place W2.2.2.1 R G s1 hp, m_fetch W2.2.2.1 R G h0 hp, e3, e4, e5]
    · rw [if_neg hr] at ek
      have er : rfR w s p = rfF w s p := by unfold rfR; rw [if_neg hr]
      have en : rdN w s p = rfF w s p := by unfold rdN; rw [if_neg (fun z => by omega), ek]
      unfold rdR
      rw [er, en, if_neg (show ¬ rfF w s p < 2147483648 by omega)]
      by_cases h3 : rfF w s p = 4294967293
      · have es : rdS w s p = awS w s p := by unfold rdS; rw [if_neg (by omega), if_pos (by omega)]
        have ekk : rdK w s p = true := by unfold rdK; rw [en, h3]; decide
        obtain ⟨g2, e2, W2, O2⟩ := mi_rem W1
        obtain ⟨g3, e3, R3, O3⟩ := m_await W2.2.2.1 R G h0 hp
        have O3' : On (fun k => k = 146) g2 g3 := O3.on1 rfl
        have W3 := W2.pw O3' R3
        rw [es, ekk, h3]
        simp only [neg_l3, if_true]
        refine ⟨g3, ?_, W3, (O1'.trans (pm O2 (fun k hk => by omega))).trans (pm O3' (fun k hk => by omega))⟩
        simp only [e2, y_0 W2.1, Option.bind_some, e3]
        unfold fX11_reads_J58
        rw [if_neg (by decide)]
      · have h4 : rfF w s p = 4294967292 := by omega
        have es : rdS w s p = w := by unfold rdS; rw [if_neg (by omega), if_neg (by omega)]
        have ekk : rdK w s p = false := by unfold rdK; rw [en, h4]; decide
        rw [es, ekk, h4]
        simp only [neg_l3]
        rw [if_neg (by decide)]
        unfold fX11_reads_J58
        rw [if_neg (by decide)]
        exact ⟨g1, rfl, W1, O1'⟩
  · have ek := pk_bad hsp
    have en : rdN w s p = 4294967295 := by unfold rdN; rw [if_neg (fun z => by omega), ek]
    have es : rdS w s p = w := by unfold rdS; rw [if_neg (by omega), if_neg (by omega)]
    have ekk : rdK w s p = false := by unfold rdK; rw [en]; decide
    unfold rdR
    rw [es, ekk, en, if_neg (show ¬ 4294967295 < 2147483648 by decide)]
    by_cases h0 : hs w s = true
    · rw [if_pos h0, if_neg (fun z => hsp ⟨h0, z⟩), m1_J]
      exact ⟨g1, rfl, W1, O1'⟩
    · rw [if_neg h0, m1_J]
      exact ⟨g1, rfl, W1, O1'⟩
/-! 11 -/
theorem wrA_lt (R : RG w) {s p v : Nat} : (wrA C w s p v).1 ≤ 24 ∨ (4294967290 ≤ (wrA C w s p v).1 ∧ (wrA C w s p v).1 < 4294967296) := by
  have rv := rfF_v w s p
  have wl : wrN w s p = 0 ∨ (4294967290 ≤ wrN w s p ∧ wrN w s p < 4294967296) := by
    unfold wrN
    split
    · split
      · omega
      · split <;> omega
    · omega
  unfold wrA
  by_cases h0 : v < 100 ∧ hs w s = true ∧ p < 8
  · rw [if_pos h0]
    by_cases h1 : wrN w s p = 0
    · rw [if_pos h1]
      exact Or.inl (dep_le (σ := wrS C w s p v) 24 (tp (wrS C w s p v) s))
    · rw [if_neg h1]
      right
      by_cases h2 : wrN w s p = 4294967293
      · rw [if_pos h2]
        show 4294967290 ≤ 4294967293 ∧ 4294967293 < 4294967296
        omega
      · rw [if_neg h2]
        exact wl.resolve_left h1
  · rw [if_neg h0]
    right
    show 4294967290 ≤ 4294967295 ∧ 4294967295 < 4294967296
    omega
def wrK (C : List Nat) (w : ST) (s p v : Nat) : Bool := decide ((wrA C w s p v).1 < 2147483648 ∨ (wrA C w s p v).1 = 4294967293)
def wrR (C : List Nat) (w : ST) (s p v : Nat) (row : List Int64) : List Int64 := if (wrA C w s p v).1 < 2147483648 then [Int32.toInt64 (J (tot (wrA C w s p v).2 8)), Int32.toInt64 (J (bc ((wrA C w s p v).2 1 2)))] else row
theorem xc_writes (W : CIk h mk tx len w un us kp ks C row hq sq) (I : INV w) (gC : GR1 C) {s p v : Nat} (hs' : s < 4294967296) (hp' : p < 4294967296) (hv' : v < 4294967296) : ∃ h' mk', fX10_writes h 0 (J s) (J p) (J v) = some (J (wrA C w s p v).1, h') ∧ CIk h' mk' tx len (wrA C w s p v).2 (kN (wrK C w s p v) un) (kS (wrK C w s p v) un us w) kp ks C (wrR C w s p v row) hq sq ∧ On PC0 h h' := by
  have R := I.rg
  have rl := wrA_lt (C := C) R (s := s) (p := p) (v := v)
  have I2 := inv_wrA C I (s := s) (p := p) (v := v)
  obtain ⟨g1, e1, W1, R1, O1⟩ := ci_mark W
  obtain ⟨c, b, K1⟩ := W1.2.2.1.wk
  obtain ⟨g2, c2, b2, e2, K2, U2, O2⟩ := c_write K1 I W1.2.2.2.2.2.1 gC (by omega) hs' hp' hv'
  have W2 := W1.pwr O2 K2.wr U2
  have R2 := wr_mark R1 W1.mk9 O2 (fun k h1 h2 => by omega)
  have O2' : On PC0 g1 g2 := O2.mono (fun k hk => by show k < 145; omega)
  unfold fX10_writes
  simp (disch := omega) only [x_h W.1, if_true, x_4 W.1, x_2 W.1, x_2 W1.1, x_5 W1.1, Option.bind_some, e1, e2, l_0, J_lt]
  unfold fX10_writes_J69 fX10_writes_J87 wrR
  by_cases hk : (wrA C w s p v).1 < 2147483648
  · rw [if_neg (by omega), if_pos hk]
    obtain ⟨g3, e3, W3, O3⟩ := ci_clr W2
    obtain ⟨g4, e4, W4, O4⟩ := ci_add W3 (by simp) (Int32.toInt64 (J (tot (wrA C w s p v).2 8)))
    obtain ⟨g5, e5, W5, O5⟩ := ci_add W4 (by simp) (Int32.toInt64 (J (bc ((wrA C w s p v).2 1 2))))
    have R5 := wr_mark (wr_mark (wr_mark R2 W1.mk9 O3 (fun k h1 h2 => by omega)) W1.mk9 O4 (fun k h1 h2 => by omega)) W1.mk9 O5 (fun k h1 h2 => by omega)
    obtain ⟨g6, mk6, e6, W6, O6⟩ := ci_keepIf W5 true (fun _ => R5)
    have ek : wrK C w s p v = true := by unfold wrK; exact decide_eq_true (Or.inl hk)
    rw [ek]
    refine ⟨g6, mk6, ?_, W6, ((((O1.trans O2').trans (O3.mono (fun k hk => by show k < 145; omega))).trans (O4.mono (fun k hk => by show k < 145; omega))).trans (O5.mono (fun k hk => by show k < 145; omega))).trans O6⟩
    simp (disch := omega) only [x_8 W2.1, e3, x_8 W3.1, x_2 W3.1, c_frameTotal W3.2.2.1 I2.rg, e4, x_8 W4.1, x_2 W4.1, c_objectTotal W4.2.2.1 I2.rg, e5, Option.bind_some, l_0, J_le]
    rw [if_pos (by omega), i2z_1]
    simp only [Option.bind_some, e6]
  · rw [if_pos (by omega), if_neg hk]
    have ek : wrK C w s p v = decide ((wrA C w s p v).1 = 4294967293) := by
      unfold wrK
      rw [decide_eq_decide]
      exact ⟨fun z => z.resolve_left hk, fun z => Or.inr z⟩
    rw [ek]
    obtain ⟨g5, mk5, e5, W5, O5⟩ := ci_keepIf W2 (decide ((wrA C w s p v).1 = 4294967293)) (fun _ => R2)
    refine ⟨g5, mk5, ?_, W5, (O1.trans O2').trans O5⟩
    simp (disch := omega) only [l_0, J_le, neg_l3, J_inj]
    rw [if_neg (by omega)]
    by_cases h3 : (wrA C w s p v).1 = 4294967293
    · rw [decide_eq_true h3] at e5
      rw [if_pos h3, i2z_1]
      simp only [Option.bind_some, e5]
    · rw [decide_eq_false h3] at e5
      rw [if_neg h3, show i2z (J 0) = some false from rfl]
      simp only [Option.bind_some, e5]
theorem wf_nf {k : Nat} (h : WF k) : NF k := by
  unfold WF at h
  unfold NF
  omega
theorem mi_rcx (W : MIv h tx len w un us kp ks ρ rn row hq sq) : ∃ F, RCX h 145 F 150 152 rn ρ ∧ MF F len row.length un rn hq.length sq.length := by
  obtain ⟨⟨F, M, mf⟩, w2, w3, w4, w5, ⟨r0, f, r1, r2⟩, w7, w8, w9, w10⟩ := W
  exact ⟨F, ⟨M, mf.1 12 _ rfl, mf.2.2.2.1, mf.1 16 _ rfl, ⟨40, f, r1, r0, by decide, r2⟩, w10.2.2.1⟩, mf⟩
theorem rcx_mi {F F' : Nat → Value} {w' : ST} {A : Nat} (W : MIv h tx len w un us kp ks ρ rn row hq sq) (mf : MF F len row.length un rn hq.length sq.length) (X : RCX g 145 F' 150 152 rn ρ) (f : ∀ k, ¬ WF k → F' k = F k) (O : On (fun k => k = 145 ∨ k = A ∨ k = 152) h g) (hA : A = 146 ∨ A = 155) (R : RA g 146 w') (h155 : cel g 0 155 325) : MIv g tx len w' un us kp ks ρ rn row hq sq := by
  obtain ⟨w1, w2, w3, w4, w5, w6, w7, w8, w9, w10⟩ := W
  refine ⟨⟨F', X.1, mf.cg (fun k hk => f k (fun z => hk (wf_nf z)))⟩, w2.on O (by omega), R, w4.on O (by omega), w5.on O (by omega) (by omega), w6.on O (by omega), w7.on O (by omega), w8.on O (by omega) (by omega), w9.on O (by omega) (by omega) (by omega), ?_⟩
  obtain ⟨y1, y2, y3, y4, y5, y6, y7, y8⟩ := w10
  exact ⟨y1.on O (by omega), y2.on O (by omega), X.2.2.2.2.2, y4.on O (by omega), h155, y6.on O (by omega), y7.on O (by omega), y8.on O (by omega)⟩

theorem xm_writes (W : MIv h tx len w un us kp ks ρ rn row hq sq) (I : INV w) (L : RLR C ρ rn) {s p v : Nat} (hs' : s < 4294967296) (hp' : p < 4294967296) (hv' : v < 4294967296) : ∃ h', fX11_writes h 145 (J s) (J p) (J v) = some (J (wrA C w s p v).1, h') ∧ MIv h' tx len (wrA C w s p v).2 (kN (wrK C w s p v) un) (kS (wrK C w s p v) un us w) kp ks ρ rn (wrR C w s p v row) hq sq ∧ On PM0 h h' := by
  have pm : ∀ {g1 g2 : AH} {P : Nat → Prop}, On P g1 g2 → (∀ k, P k → 145 ≤ k ∧ k < 166) → On PM0 g1 g2 := fun O hP => O.mono hP
  have R := I.rg
  have G := I.gr
  obtain ⟨g1, e1, W1, -, O1⟩ := mi_t0 W
  have O1' : On PM0 h g1 := pm O1 (fun k hk => by omega)
  unfold fX11_writes
  simp only [y_h W.1, if_true, e1, y_0 W1.1, Option.bind_some, m_hs W1.2.2.1 R hs', m_isPage hp']
  simp (disch := omega) only [l_0, l_99, m_in, Option.bind_some, decide_eq_true_eq, Bool.and_eq_true]
  have bad : ¬ (v < 100 ∧ hs w s = true ∧ p < 8) → ∃ h', some (J 4294967295, g1) = some (J (wrA C w s p v).1, h') ∧ MIv h' tx len (wrA C w s p v).2 (kN (wrK C w s p v) un) (kS (wrK C w s p v) un us w) kp ks ρ rn (wrR C w s p v row) hq sq ∧ On PM0 h h' := by
    intro hb
    have eA : wrA C w s p v = (4294967295, w) := by unfold wrA; rw [if_neg hb]
    have ek : wrK C w s p v = false := by unfold wrK; rw [eA]; exact decide_eq_false (show ¬ (4294967295 < 2147483648 ∨ 4294967295 = 4294967293) by decide)
    unfold wrR
    rw [ek, eA, if_neg (show ¬ 4294967295 < 2147483648 by decide)]
    exact ⟨g1, rfl, W1, O1'⟩
  by_cases h0 : hs w s = true
  · rw [if_pos h0]
    by_cases hp : p < 8
    · rw [if_pos hp]
      by_cases hv : v < 100
      · rw [if_pos (by omega)]
        obtain ⟨s1, s2⟩ := hs_lt h0
        have eA : wrA C w s p v = (if wrN w s p = 0 then (dep (wrS C w s p v) 24 (tp (wrS C w s p v) s), wrS C w s p v) else if wrN w s p = 4294967293 then (4294967293, awS w s p) else (wrN w s p, w)) := by
          unfold wrA
          rw [if_pos ⟨hv, h0, hp⟩]
        have rl := wrA_lt (C := C) R (s := s) (p := p) (v := v)
        have rv := rfF_v w s p
        have wl : wrN w s p = 0 ∨ (4294967290 ≤ wrN w s p ∧ wrN w s p < 4294967296) := by
          unfold wrN
          split
          · split
            · omega
            · split <;> omega
          · omega
        simp (disch := omega) only [m_refW W1.2.2.1 R G h0 hp, Option.bind_some, neg_l3, J_inj]
        unfold fX11_writes_J70
        by_cases h1 : wrN w s p = 0
        · rw [if_neg (by omega), h1, if_pos (by decide)]
          rw [if_pos h1] at eA
          have I2 : INV (wrS C w s p v) := inv_wr C I ⟨h0, hp, h1⟩ hv
          have dl := dep_le (σ := wrS C w s p v) 24 (tp (wrS C w s p v) s)
          have a1 : (wrA C w s p v).1 = dep (wrS C w s p v) 24 (tp (wrS C w s p v) s) := by rw [eA]
          have a2 : (wrA C w s p v).2 = wrS C w s p v := by rw [eA]
          have alt : (wrA C w s p v).1 < 2147483648 := by rw [a1]; omega
          have ek : wrK C w s p v = true := decide_eq_true (Or.inl alt)
          have er : wrR C w s p v row = [Int32.toInt64 (J (tot (wrS C w s p v) 8)), Int32.toInt64 (J (bc (wrS C w s p v 1 2)))] := by
            unfold wrR
            rw [if_pos alt, a2]
          obtain ⟨g2, e2, W2, O2⟩ := mi_rem W1
          obtain ⟨F, X, mf⟩ := mi_rcx W2
          obtain ⟨g3, F3, e3, R3, X3, f3, O3⟩ := m_goWrite (by decide) (by decide) (by decide) (by decide) (by decide) (by decide) X L W2.2.2.1 I ⟨h0, hp, h1⟩ hv
          have c155 : cel g3 0 155 325 := W2.2.2.2.2.2.2.2.2.2.2.2.2.2.1.on O3 (by decide)
          have W3 := rcx_mi W2 mf X3 f3 O3 (Or.inl rfl) R3 c155
          obtain ⟨g4, e4, W4, O4⟩ := mi_clr W3
          obtain ⟨g5, e5, W5, O5⟩ := mi_tell W4 (by simp) (Int32.toInt64 (J (tot (wrS C w s p v) 8)))
          obtain ⟨g6, e6, W6, O6⟩ := mi_tell W5 (by simp) (Int32.toInt64 (J (bc (wrS C w s p v 1 2))))
          have o24 := I2.rg.2.1.2.2.1
          rw [ek, er, a1, a2]
          refine ⟨g6, ?_, W6, ((((O1'.trans (pm O2 (fun k hk => by omega))).trans (pm O3 (fun k hk => by omega))).trans (pm O4 (fun k hk => by omega))).trans (pm O5 (fun k hk => by omega))).trans (pm O6 (fun k hk => by omega))⟩
          have x1 := m_frames W4.2.2.1 I2.rg
          have x2 := m_objects W5.2.2.1 I2.rg
          have x3 := m_len W6.2.2.1 I2.rg I2.gr s1
          have x4 : fJ6_bitCount_0f7a4 g5 (J (wrS C w s p v 1 2)) = some (J (bc (wrS C w s p v 1 2))) := bc_J o24
          clear eA a1 a2 alt ek er dl o24 R3 W3 I2
          generalize wrS C w s p v = τ at *
          rw [y_0 W1.1, Option.bind_some]
          rw [e2, Option.bind_some]
          rw [y_0 W2.1, Option.bind_some]
          rw [e3, Option.bind_some]
          rw [e4, Option.bind_some]
          rw [y_0 W4.1, Option.bind_some]
          rw [x1, Option.bind_some]
          rw [e5, Option.bind_some]
          rw [y_0 W5.1, Option.bind_some]
          rw [x2, Option.bind_some]
          rw [x4, Option.bind_some]
          rw [e6, Option.bind_some]
          rw [y_0 W6.1, Option.bind_some]
          rw [x3, Option.bind_some]

        · rw [if_neg h1] at eA
          by_cases h3 : wrN w s p = 4294967293
          · rw [if_pos h3] at eA
            have ek : wrK C w s p v = true := by unfold wrK; rw [eA]; exact decide_eq_true (show 4294967293 < 2147483648 ∨ 4294967293 = 4294967293 from Or.inr rfl)
            obtain ⟨g2, e2, W2, O2⟩ := mi_rem W1
            obtain ⟨g3, e3, R3, O3⟩ := m_await W2.2.2.1 R G h0 hp
            have O3' : On (fun k => k = 146) g2 g3 := O3.on1 rfl
            have W3 := W2.pw O3' R3
            unfold wrR
            rw [ek, eA, if_neg (show ¬ 4294967293 < 2147483648 by decide), if_pos h3, h3]
            refine ⟨g3, ?_, W3, (O1'.trans (pm O2 (fun k hk => by omega))).trans (pm O3' (fun k hk => by omega))⟩
            simp only [e2, y_0 W2.1, Option.bind_some, e3]
            rw [if_neg (by decide)]
          · rw [if_neg h3] at eA
            have ek : wrK C w s p v = false := by unfold wrK; rw [eA]; exact decide_eq_false (show ¬ (wrN w s p < 2147483648 ∨ wrN w s p = 4294967293) by omega)
            unfold wrR
            rw [ek, eA, if_neg (show ¬ wrN w s p < 2147483648 by omega), if_neg h3]
            simp (disch := omega) only [l_0, J_le]
            rw [if_neg (by omega)]
            exact ⟨g1, rfl, W1, O1'⟩
      · rw [if_neg (by omega), m1_J]
        exact bad (fun z => hv z.1)
    · rw [if_neg hp, m1_J]
      exact bad (fun z => hp z.2.2)
  · rw [if_neg h0, m1_J]
    exact bad (fun z => h0 z.2.1)
end CB
