/-! which page it was -/
def agF (w : ST) (a b o p : Nat) : Bool := if a = 0 then decide (o = b) else if a = 1 then decide (p = b) else if a = 2 then decide (10 * b ≤ w 6 (8 * o + p)) else decide (fir w b p = o)
def agG (w : ST) (a b f : Nat) : Bool := agF w a b (f / 8) (f % 8)
def hdF (w : ST) (f : Nat) : Bool := hd w (f / 8) (f % 8)
def ffB (w : ST) (hq : List (Nat × Nat)) (f : Nat) : Bool := hdF w f && hq.all (fun q => agG w q.1 q.2 f)
def HHQ (hq : List (Nat × Nat)) : Prop := ∀ (i : Nat) (q : Nat × Nat), hq[i]? = some q → q.1 < 4 ∧ q.2 < hbN q.1
def fL (w : ST) (hq : List (Nat × Nat)) : Nat → List Nat
  | 0 => []
  | k + 1 => if ffB w hq k = true then fL w hq k ++ [k] else fL w hq k
theorem fL_len (w : ST) (hq : List (Nat × Nat)) : ∀ k, (fL w hq k).length = cnt (ffB w hq) k
  | 0 => rfl
  | k + 1 => by
    have ih := fL_len w hq k
    unfold fL
    by_cases z : ffB w hq k = true
    · rw [if_pos z, cnt_yes z, List.length_append, ih]; rfl
    · rw [if_neg z, cnt_no z, ih]
theorem fL_cnt (w : ST) (hq : List (Nat × Nat)) (P : Nat → Bool) : ∀ k, (fL w hq k).countP P = cnt (fun f => ffB w hq f && P f) k
  | 0 => rfl
  | k + 1 => by
    have ih := fL_cnt w hq P k
    unfold fL
    by_cases z : ffB w hq k = true
    · rw [if_pos z, List.countP_append, ih]
      by_cases y : P k = true
      · rw [cnt_yes (by simp [z, y])]
        simp [y]
      · rw [cnt_no (by simp [y])]
        simp [y]
    · rw [if_neg z, cnt_no (by simp [z]), ih]
theorem fL_mem (w : ST) (hq : List (Nat × Nat)) : ∀ k, ∀ y ∈ fL w hq k, y < k ∧ ffB w hq y = true
  | 0, y, h => by cases h
  | k + 1, y, h => by
    unfold fL at h
    by_cases z : ffB w hq k = true
    · rw [if_pos z] at h
      rcases List.mem_append.mp h with h1 | h1
      · have := fL_mem w hq k y h1
        exact ⟨by omega, this.2⟩
      · have : y = k := by simpa using h1
        rw [this]
        exact ⟨by omega, z⟩
    · rw [if_neg z] at h
      have := fL_mem w hq k y h
      exact ⟨by omega, this.2⟩
theorem fL_none {w : ST} {hq : List (Nat × Nat)} : ∀ k, (∀ l, l < k → ¬ ffB w hq l = true) → fL w hq k = []
  | 0, _ => rfl
  | k + 1, h => by
    unfold fL
    rw [if_neg (h k (by omega))]
    exact fL_none k (fun l hl => h l (by omega))
theorem fL_first {w : ST} {hq : List (Nat × Nat)} {k : Nat} (h : ∀ l, l < k → ¬ ffB w hq l = true) (hk : ffB w hq k = true) : ∀ n, (fL w hq (k + 1 + n))[0]? = some k
  | 0 => by
    have e : fL w hq (k + 1) = [] ++ [k] := by
      conv => lhs; unfold fL
      rw [if_pos hk, fL_none k h]
    show (fL w hq (k + 1))[0]? = some k
    rw [e]
    rfl
  | n + 1 => by
    have ih := fL_first h hk n
    have e : fL w hq (k + 1 + (n + 1)) = if ffB w hq (k + 1 + n) = true then fL w hq (k + 1 + n) ++ [k + 1 + n] else fL w hq (k + 1 + n) := rfl
    rw [e]
    by_cases z : ffB w hq (k + 1 + n) = true
    · rw [if_pos z, List.getElem?_append_left]
      · exact ih
      · exact (List.getElem?_eq_some_iff.mp ih).1
    · rw [if_neg z]
      exact ih
theorem bc_8 {n : Nat} (hn : n < 256) : bc n = cnt (fun i => n.testBit i) 8 := by
  unfold bc
  have := cnt_add (fun i => n.testBit i) 8 16
  rw [this, cnt_congr (f := fun i => n.testBit (8 + i)) (g := fun _ => false) (fun i hi => Nat.testBit_lt_two_pow (Nat.lt_of_lt_of_le hn (show 2 ^ 8 ≤ 2 ^ (8 + i) from Nat.pow_le_pow_right (by decide) (by omega)))), cnt_z, Nat.add_zero]
theorem hdF_cnt {w : ST} (R : RG w) : ∀ n, n ≤ 24 → cnt (hdF w) (8 * n) = sm (fun o => bc (w 8 o)) n
  | 0, _ => rfl
  | n + 1, h => by
    have ih := hdF_cnt R n (by omega)
    have e : 8 * (n + 1) = 8 * n + 8 := by omega
    rw [e, cnt_add, ih]
    show _ = sm (fun o => bc (w 8 o)) n + bc (w 8 n)
    congr 1
    rw [bc_8 (R.2.2.1 n (by omega)).2.2.2.2.2]
    refine cnt_congr fun i hi => ?_
    unfold hdF hd
    rw [show (8 * n + i) / 8 = n by omega, show (8 * n + i) % 8 = i by omega, decide_eq_true (show n < 24 by omega), decide_eq_true hi]
    rfl
theorem cnt_ext {f : Nat → Bool} {k n : Nat} (h : k ≤ n) : cnt f k ≤ cnt f n := by
  obtain ⟨d, rfl⟩ := Nat.exists_eq_add_of_le h
  rw [cnt_add]
  omega
theorem ff_64 {w : ST} (I : INV w) (hq : List (Nat × Nat)) : cnt (ffB w hq) 192 ≤ 64 := by
  have h1 : cnt (ffB w hq) 192 ≤ cnt (hdF w) 192 := cnt_mono fun i z => (Bool.and_eq_true_iff.mp z).1
  have h2 := hdF_cnt I.rg 24 (Nat.le_refl _)
  have h3 := I.frm
  have h4 : cnt (hdF w) 192 = tot w 8 := h2
  omega
def akT (w : ST) (hq : List (Nat × Nat)) : Nat := cnt (ffB w hq) 192
def akY (w : ST) (hq : List (Nat × Nat)) (a b : Nat) : Nat := cnt (fun f => ffB w hq f && agG w a b f) 192
def akK (w : ST) (hq : List (Nat × Nat)) (a b : Nat) : Nat := max (akY w hq a b) (akT w hq - akY w hq a b)
def akV (a b : Nat) : Nat := 100 * a + b
theorem akY_le (w : ST) (hq : List (Nat × Nat)) (a b : Nat) : akY w hq a b ≤ akT w hq ∧ akT w hq ≤ 192 := by
  have := cnt_split (ffB w hq) (agG w a b) 192
  exact ⟨by unfold akY akT; omega, cnt_le⟩
theorem akK_le (w : ST) (hq : List (Nat × Nat)) (a b : Nat) : akK w hq a b ≤ akT w hq := by
  obtain ⟨h1, h2⟩ := akY_le w hq a b
  unfold akK
  omega
theorem c_numOf {h : AH} {a : Nat} (ha : a < 4294967296) : fX1_numbersOf h (J a) = some (J (hbN a)) := by
  unfold fX1_numbersOf hbN
  simp (disch := omega) only [l_0, l_1, l_2, l_3, J_inj]
  split
  · rfl
  · split
    · rfl
    · split
      · rfl
      · split <;> rfl
theorem c_agr {h : AH} {w : ST} (W : WR h 2 w) (R : RG w) {f a b : Nat} (hf : f < 192) (hh : hdF w f = true) (ha : a < 4) (hb : b < 24) : fX1_agrees h 2 (J a) (J b) (J f) = some (agG w a b f) := by
  have q1 : jdiv (J f) 8 = some (J (f / 8)) := jdiv_J (by omega) (by decide) (by decide)
  have q2 : jrem (J f) 8 = some (J (f % 8)) := jrem_J (by omega) (by decide) (by decide)
  have h8 : f % 8 < 8 := Nat.mod_lt _ (by decide)
  have hh' : hd w (f / 8) (f % 8) = true := hh
  have v6 := R.2.2.2.1 (8 * (f / 8) + f % 8) (by omega)
  have cv := c_val W R (n := f / 8) (p := f % 8) (by omega) (by omega)
  rw [if_pos hh'] at cv
  have cf : fX9_firstHolder h 2 (J b) (J (f % 8)) = some (J (fir w b (f % 8))) := c_fh W R (by omega) (by omega)
  have fl := fir_le (σ := w) b (f % 8)
  unfold fX1_agrees agG agF
  rw [q1, Option.bind_some, q2, Option.bind_some]
  simp (disch := omega) only [l_0, l_1, l_2, J_inj]
  by_cases a0 : a = 0
  · rw [if_pos a0, if_pos a0]
    by_cases z : f / 8 = b
    · rw [if_pos z, decide_eq_true z]
    · rw [if_neg z, decide_eq_false z]
  · rw [if_neg a0, if_neg a0]
    by_cases a1 : a = 1
    · rw [if_pos a1, if_pos a1]
      by_cases z : f % 8 = b
      · rw [if_pos z, decide_eq_true z]
      · rw [if_neg z, decide_eq_false z]
    · rw [if_neg a1, if_neg a1]
      by_cases a2 : a = 2
      · rw [if_pos a2, if_pos a2, cv, Option.bind_some, l_10, J_mul]
        by_cases z : 10 * b ≤ w 6 (8 * (f / 8) + f % 8)
        · rw [if_neg (fun y => by rw [J_lt (by omega) (by omega)] at y; omega), decide_eq_true z]
        · rw [if_pos (by rw [J_lt (by omega) (by omega)]; omega), decide_eq_false z]
      · rw [if_neg a2, if_neg a2, cf, Option.bind_some]
        by_cases z : fir w b (f % 8) = f / 8
        · rw [if_pos (by rw [z]), decide_eq_true z]
        · rw [if_neg (fun y => z ((J_inj (by omega) (by omega)).1 y)), decide_eq_false z]
/-- what was gathered -/
def FGk (h : AH) (L : List Nat) : Prop := gI h 1 134 4 = some (J L.length) ∧ ∃ f3, h.1 137 = some (.inl (0, 64, .inl f3)) ∧ ∀ i y, L[i]? = some y → f3 i = J y
theorem FGk.on {h g : AH} {L : List Nat} {P : Nat → Prop} (G : FGk h L) (O : On P h g) (h1 : ¬ P 134) (h2 : ¬ P 137) : FGk g L := by
  obtain ⟨g1, f3, g2, g3⟩ := G
  exact ⟨by rw [gI_on O h1]; exact g1, f3, (O.2 _ h2).trans g2, g3⟩
section FT
variable {h g : AH} {mk : Nat} {tx : Nat → Nat} {len : Nat} {w : ST} {un : Nat} {us : Nat → ST} {kp : Nat → Bool} {ks : Nat → ST} {C : List Nat} {ρ : Nat → Nat} {rn : Nat} {row : List Int64} {hq : List (Nat × Nat)} {sq : List (Nat × Nat × Bool)}
theorem CIk.hr (W : CIk h mk tx len w un us kp ks C row hq sq) : hasC h 1 134 = true ∧ gR h 1 134 0 = some 135 ∧ gR h 1 134 1 = some 136 ∧ gR h 1 134 2 = some 137 ∧ gI h 1 134 3 = some (J hq.length) ∧ aL h 0 137 = some (J 64) := by
  obtain ⟨F, f1, f2, f3, x, w1, w2, w3, w4, w5, w6, w7, w8, w9, w10, w11⟩ := W.2.2.2.2.2.2.2.2.2.1
  exact ⟨ob_h w1, ob_r w1 (by decide) w2, ob_r w1 (by decide) w3, ob_r w1 (by decide) w4, ob_i w1 (by decide) w5, aL_at w9⟩
theorem c_fitsA (W : CIk h mk tx len w un us kp ks C row hq sq) (I : INV w) (Hh : HHQ hq) {f : Nat} (hf : f < 192) (hh : hdF w f = true) : fX1_fitsAll h 134 2 (J f) = some (hq.all (fun q => agG w q.1 q.2 f)) := by
  have W0 := W
  obtain ⟨F, f1, f2, f3, x, w1, w2, w3, w4, w5, w6, w7, w8, w9, w10, w11⟩ := W.2.2.2.2.2.2.2.2.2.1
  have e : ∀ m q i, i + m = hq.length → m < q → fX1_fitsAll_L2 h q 134 2 (J f) (J i) = some ((hq.drop i).all (fun q => agG w q.1 q.2 f)) := by
    intro m
    induction m with
    | zero =>
      intro q i e hq'
      obtain ⟨q, rfl⟩ : ∃ z, q = z + 1 := ⟨q - 1, by omega⟩
      rw [fX1_fitsAll_L2]
      simp (disch := omega) only [ob_i w1 (k := 3) (by decide) w5, Option.bind_some, J_le]
      rw [if_pos (by omega), List.drop_of_length_le (by omega)]
      rfl
    | succ m ih =>
      intro q i e hq'
      obtain ⟨q, rfl⟩ : ∃ z, q = z + 1 := ⟨q - 1, by omega⟩
      obtain ⟨y, hy, hd⟩ := drop_s (l := hq) (i := i) (by omega)
      obtain ⟨v1, v2⟩ := w11 i y hy
      obtain ⟨u1, u2⟩ := Hh i y hy
      have hl := hbN_le y.1
      have r1 : aI h 0 135 (J i) = some (J y.1) := by rw [aI_at w7 (by omega) (by decide), v1]
      have r2 : aI h 0 136 (J i) = some (J y.2) := by rw [aI_at w8 (by omega) (by decide), v2]
      have ag := c_agr W0.2.2.1 I.rg hf hh u1 (show y.2 < 24 by omega)
      have e1 : J i + 1 = J (i + 1) := by rw [l_1, J_add]
      rw [fX1_fitsAll_L2]
      simp (disch := omega) only [ob_i w1 (k := 3) (by decide) w5, Option.bind_some, J_le, l_12]
      rw [if_neg (by omega), if_neg (by omega)]
      simp only [ob_r w1 (k := 0) (by decide) w2, ob_r w1 (k := 1) (by decide) w3, Option.bind_some, r1, r2, ag, letF, e1]
      rw [hd, List.all_cons]
      by_cases z : agG w y.1 y.2 f = true
      · rw [if_pos z, ih q (i + 1) (by omega) (by omega), z]
        rfl
      · rw [if_neg z]
        have : agG w y.1 y.2 f = false := by simpa using z
        rw [this, Bool.false_and]
  have := e hq.length FU 0 (by omega) (FU_gt (by omega))
  unfold fX1_fitsAll
  rw [if_pos (ob_h w1)]
  exact this
theorem c_ftS (W : CIk h mk tx len w un us kp ks C row hq sq) {L : List Nat} (G : FGk h L) (hL : L.length < 64) (k : Nat) : ∃ g1 g2, sI h 0 137 (J L.length) (J k) = some g1 ∧ gI g1 1 134 4 = some (J L.length) ∧ pF g1 1 134 4 (.int (J (L.length + 1))) = some g2 ∧ CIk g2 mk tx len w un us kp ks C row hq sq ∧ FGk g2 (L ++ [k]) ∧ On PC0 h g2 := by
  obtain ⟨F, f1, f2, f3, x, w1, w2, w3, w4, w5, w6, w7, w8, w9, w10, w11⟩ := W.2.2.2.2.2.2.2.2.2.1
  obtain ⟨q1, fq, q2, q3⟩ := G
  obtain ⟨g1, e1, c1, O1⟩ := wa_s q2 hL (by decide) (J k)
  have O1' : On (fun j => j = 137) h g1 := O1.on1 rfl
  have M1 := w1.on O1' (by decide)
  obtain ⟨g2, e2, M2, O2⟩ := ob_p M1 (k := 4) (by decide) (.int (J (L.length + 1)))
  have O2' : On (fun j => j = 134) g1 g2 := O2.on1 rfl
  have OO : On (fun j => 134 ≤ j ∧ j < 138) h g2 := (O1'.mono (fun j hj => by omega)).trans (O2'.mono (fun j hj => by omega))
  refine ⟨g1, g2, e1, by rw [gI_on O1' (by decide)]; exact q1, e2, W.phear OO ⟨_, f1, f2, _, _, M2, by rw [fput_ne (by decide)]; exact w2, by rw [fput_ne (by decide)]; exact w3, by rw [fput_ne (by decide)]; exact w4, by rw [fput_ne (by decide)]; exact w5, fput_eq, (O2'.2 _ (by decide)).trans ((O1'.2 _ (by decide)).trans w7), (O2'.2 _ (by decide)).trans ((O1'.2 _ (by decide)).trans w8), (O2'.2 _ (by decide)).trans c1, w10, w11⟩, ⟨?_, _, (O2'.2 _ (by decide)).trans c1, fun i y hy => ?_⟩, lon OO (fun k hk => by omega)⟩
  · rw [List.length_append]
    exact ob_i M2 (by decide) fput_eq
  · show (if i = L.length then J k else fq i) = J y
    rcases get_app hy with ⟨h1, h2⟩ | ⟨h1, h2⟩
    · rw [if_neg (by omega)]
      exact q3 i y h2
    · rw [if_pos h1, h2]
theorem c_gatH (I : INV w) (Hh : HHQ hq) : ∀ m q k h, CIk h mk tx len w un us kp ks C row hq sq → FGk h (fL w hq k) → k + m = 192 → m < q → ∃ h', fX1_gather_L7 q h 134 2 (J k) = some (J (fL w hq 192).length, h') ∧ CIk h' mk tx len w un us kp ks C row hq sq ∧ FGk h' (fL w hq 192) ∧ On PC0 h h'
  | 0, q + 1, k, h, W, G, e, _ => by
    have : k = 192 := by omega
    subst this
    refine ⟨h, ?_, W, G, On.rf⟩
    rw [fX1_gather_L7]
    simp (disch := omega) only [l_192, J_le]
    rw [if_pos (by omega), G.1, Option.bind_some]
  | m + 1, q + 1, k, h, W, G, e, hn => by
    have R := I.rg
    obtain ⟨r0, r1, r2, r3, r4, r5⟩ := W.hr
    have fl := fL_len w hq k
    have f64 := ff_64 I hq
    have e1 : J k + 1 = J (k + 1) := by rw [l_1, J_add]
    have q1 : jdiv (J k) 8 = some (J (k / 8)) := jdiv_J (by omega) (by decide) (by decide)
    have q2 : jrem (J k) 8 = some (J (k % 8)) := jrem_J (by omega) (by decide) (by decide)
    have hh : fX9_holds h 2 (J (k / 8)) (J (k % 8)) = some (hdF w k) := c_hd W.2.2.1 R (by omega) (by omega)
    have es : fL w hq (k + 1) = if ffB w hq k = true then fL w hq k ++ [k] else fL w hq k := rfl
    have no : ¬ ffB w hq k = true → ∃ h', fX1_gather_L7 q h 134 2 (J (k + 1)) = some (J (fL w hq 192).length, h') ∧ CIk h' mk tx len w un us kp ks C row hq sq ∧ FGk h' (fL w hq 192) ∧ On PC0 h h' := fun z => by
      rw [if_neg z] at es
      exact c_gatH I Hh m q (k + 1) h W (by rw [es]; exact G) (by omega) (by omega)
    rw [fX1_gather_L7]
    simp (disch := omega) only [l_192, J_le, q1, q2, hh, Option.bind_some, letF, e1]
    rw [if_neg (by omega)]
    by_cases z1 : hdF w k = true
    · rw [if_pos z1, c_fitsA W I Hh (by omega) z1, Option.bind_some]
      by_cases z2 : hq.all (fun q => agG w q.1 q.2 k) = true
      · have z : ffB w hq k = true := by unfold ffB; rw [z1, z2]; rfl
        rw [if_pos z] at es
        have ll : (fL w hq k).length < 64 := by
          have h1 := cnt_ext (f := ffB w hq) (k := k + 1) (n := 192) (by omega)
          rw [cnt_yes z] at h1
          omega
        obtain ⟨ga, gb, d1, d2, d3, W1, G1, O1⟩ := c_ftS W G ll k
        obtain ⟨g3, e3, W3, G3, O3⟩ := c_gatH I Hh m q (k + 1) gb W1 (by rw [es]; exact G1) (by omega) (by omega)
        refine ⟨g3, ?_, W3, G3, O1.trans O3⟩
        have a1 : J (fL w hq k).length + 1 = J ((fL w hq k).length + 1) := by rw [l_1, J_add]
        rw [if_pos z2]
        simp (disch := omega) only [G.1, Option.bind_some, l_0, J_lt, r3, r5, J_le]
        rw [if_neg (by omega), if_neg (by omega)]
        simp only [d1, Option.bind_some, d2, a1, d3]
        exact e3
      · rw [if_neg z2]
        exact no (by unfold ffB; simp [z2])
    · rw [if_neg z1]
      exact no (by unfold ffB; simp [z1])
theorem ci_gather (W : CIk h mk tx len w un us kp ks C row hq sq) (I : INV w) (Hh : HHQ hq) : ∃ h', fX1_gather h 134 2 = some (J (akT w hq), h') ∧ CIk h' mk tx len w un us kp ks C row hq sq ∧ FGk h' (fL w hq 192) ∧ On PC0 h h' := by
  have W0 := W
  obtain ⟨F, f1, f2, f3, x, w1, w2, w3, w4, w5, w6, w7, w8, w9, w10, w11⟩ := W.2.2.2.2.2.2.2.2.2.1
  obtain ⟨g1, e1, M1, O1⟩ := ob_p w1 (k := 4) (by decide) (.int (J 0))
  have O1' : On (fun j => j = 134) h g1 := O1.on1 rfl
  have c9 : g1.1 137 = some (.inl (0, 64, .inl f3)) := (O1'.2 _ (by decide)).trans w9
  have W1 : CIk g1 mk tx len w un us kp ks C row hq sq := W0.phear (O1'.mono (fun j hj => by omega)) ⟨_, f1, f2, f3, _, M1, by rw [fput_ne (by decide)]; exact w2, by rw [fput_ne (by decide)]; exact w3, by rw [fput_ne (by decide)]; exact w4, by rw [fput_ne (by decide)]; exact w5, fput_eq, (O1'.2 _ (by decide)).trans w7, (O1'.2 _ (by decide)).trans w8, c9, w10, w11⟩
  have G1 : FGk g1 (fL w hq 0) := ⟨ob_i M1 (by decide) fput_eq, f3, c9, fun i y hy => by cases hy⟩
  obtain ⟨g2, e2, W2, G2, O2⟩ := c_gatH I Hh 192 FU 0 g1 W1 G1 rfl (FU_gt (by decide))
  refine ⟨g2, ?_, W2, G2, (lon O1' (fun k hk => by omega)).trans O2⟩
  rw [fL_len] at e2
  unfold fX1_gather
  rw [if_pos (ob_h w1), l_0, e1, Option.bind_some]
  exact e2
def ftK (r : Option Nat) : List Int64 := match r with
  | none => []
  | some y => [Int32.toInt64 (J (y / 8)), Int32.toInt64 (J (y % 8))]
def ftR (w : ST) (hq : List (Nat × Nat)) : List Int64 := ftK (fL w hq 192)[0]?
theorem ft_get {w : ST} {hq : List (Nat × Nat)} : (akT w hq = 0 → (fL w hq 192)[0]? = none) ∧ (0 < akT w hq → ∃ y, (fL w hq 192)[0]? = some y ∧ y < 192) := by
  have fl := fL_len w hq 192
  have fl' : (fL w hq 192).length = akT w hq := fl
  constructor
  · intro z
    exact List.getElem?_eq_none (by omega)
  · intro z
    refine ⟨(fL w hq 192)[0], List.getElem?_eq_getElem (by omega), ?_⟩
    exact (fL_mem w hq 192 _ (List.getElem_mem (by omega))).1
theorem xc_fits (W : CIk h mk tx len w un us kp ks C row hq sq) (I : INV w) (Hh : HHQ hq) : ∃ h' mk', fX10_fits h 0 = some (J (akT w hq), h') ∧ CIk h' mk' tx len w un us kp ks C (ftR w hq) hq sq ∧ On PC0 h h' := by
  obtain ⟨g1, e1, W1, G1, O1⟩ := ci_gather W I Hh
  obtain ⟨g2, e2, W2, O2⟩ := ci_clr W1
  have G2 := G1.on O2 (by omega) (by omega)
  have tl := (akY_le w hq 0 0).2
  obtain ⟨t1, t2⟩ := ft_get (w := w) (hq := hq)
  unfold fX10_fits ftR
  rw [if_pos (x_h W.1), x_9 W.1, Option.bind_some, x_2 W.1, Option.bind_some, e1, Option.bind_some, x_8 W1.1, Option.bind_some, e2, Option.bind_some]
  by_cases z : akT w hq = 0
  · rw [if_pos (by rw [l_0, J_le (by omega) (by decide)]; omega), t1 z]
    exact ⟨g2, mk, rfl, W2, O1.trans (lon O2 (fun k hk => by omega))⟩
  · rw [if_neg (fun y => by rw [l_0, J_le (by omega) (by decide)] at y; omega)]
    obtain ⟨y, hy, hl⟩ := t2 (by omega)
    rw [hy]
    obtain ⟨g3, e3, W3, O3⟩ := ci_add W2 (by simp) (Int32.toInt64 (J (y / 8)))
    have G3 := G2.on O3 (by omega) (by omega)
    obtain ⟨g4, e4, W4, O4⟩ := ci_add W3 (by simp) (Int32.toInt64 (J (y % 8)))
    have rd : ∀ {g : AH}, FGk g (fL w hq 192) → aI g 0 137 0 = some (J y) := fun G => by
      obtain ⟨q1, fq, q2, q3⟩ := G
      rw [l_0, aI_at q2 (by decide) (by decide), q3 0 y hy]
    have q1 : jdiv (J y) 8 = some (J (y / 8)) := jdiv_J (by omega) (by decide) (by decide)
    have q2 : jrem (J y) 8 = some (J (y % 8)) := jrem_J (by omega) (by decide) (by decide)
    obtain ⟨a0, a1, a2, a3, a4, a5⟩ := W2.hr
    obtain ⟨b0, b1, b2, b3, b4, b5⟩ := W3.hr
    have d1 : fX1_gatheredObject g2 134 0 = some (J (y / 8)) := by
      unfold fX1_gatheredObject
      rw [if_pos a0, if_neg (by decide), a3, Option.bind_some, a5, Option.bind_some, if_neg (by decide), Option.bind_some, rd G2, Option.bind_some, q1, Option.bind_some]
    have d2 : fX1_gatheredPage g3 134 0 = some (J (y % 8)) := by
      unfold fX1_gatheredPage
      rw [if_pos b0, if_neg (by decide), b3, Option.bind_some, b5, Option.bind_some, if_neg (by decide), Option.bind_some, rd G3, Option.bind_some, q2, Option.bind_some]
    refine ⟨g4, mk, ?_, W4, ((O1.trans (lon O2 (fun k hk => by omega))).trans (lon O3 (fun k hk => by omega))).trans (lon O4 (fun k hk => by omega))⟩
    simp only [x_8 W2.1, x_9 W2.1, Option.bind_some, d1, e3, x_8 W3.1, x_9 W3.1, d2, e4]
theorem take_s {L : List Nat} {i y : Nat} (h : L[i]? = some y) (P : Nat → Bool) : (L.take (i + 1)).countP P = (L.take i).countP P + (if P y = true then 1 else 0) := by
  rw [List.take_add_one, h, List.countP_append]
  congr 1
  by_cases z : P y = true
  · simp [z]
  · simp [z]
theorem c_agreeing (W : CIk h mk tx len w un us kp ks C row hq sq) (I : INV w) (G : FGk h (fL w hq 192)) {a b : Nat} (ha : a < 4) (hb : b < 24) : fX1_agreeing h 134 2 (J a) (J b) = some (J (akY w hq a b)) := by
  obtain ⟨r0, r1, r2, r3, r4, r5⟩ := W.hr
  have fl := fL_len w hq 192
  have f64 := ff_64 I hq
  obtain ⟨q1, fq, q2, q3⟩ := G
  have ey : akY w hq a b = ((fL w hq 192).take (fL w hq 192).length).countP (agG w a b) := by
    rw [List.take_length, fL_cnt]
    rfl
  unfold fX1_agreeing
  rw [if_pos r0, l_0, ey]
  exact loop_rec (fun q k x => fX1_agreeing_L6 h q 134 2 (J a) (J b) (J x) (J k)) (fL w hq 192).length (fun k => ((fL w hq 192).take k).countP (agG w a b)) _ (fun q k hk => by
    try dsimp only
    have hy : (fL w hq 192)[k]? = some (fL w hq 192)[k] := List.getElem?_eq_getElem hk
    obtain ⟨m1, m2⟩ := fL_mem w hq 192 _ (List.getElem_mem hk)
    generalize (fL w hq 192)[k] = y at hy m1 m2
    have rd : aI h 0 137 (J k) = some (J y) := by rw [aI_at q2 (by omega) (by decide), q3 k y hy]
    have ag := c_agr W.2.2.1 I.rg m1 (Bool.and_eq_true_iff.mp m2).1 ha hb
    have e1 : J k + 1 = J (k + 1) := by rw [l_1, J_add]
    have a0 : ∀ x : Nat, J x + 0 = J x := fun x => by rw [l_0, J_add, Nat.add_zero]
    have a1 : ∀ x : Nat, J x + 1 = J (x + 1) := fun x => by rw [l_1, J_add]
    rw [take_s hy, fX1_agreeing_L6]
    unfold fX1_agreeing_J48
    simp (disch := omega) only [q1, r3, r5, Option.bind_some, J_le, rd, ag, letF, e1, a0]
    rw [if_neg (by omega), if_neg (by omega)]
    by_cases z : agG w a b y = true
    · rw [if_pos z, if_pos z, a1]
    · rw [if_neg z, if_neg z]
      rfl) (fun q => by
    try dsimp only
    rw [fX1_agreeing_L6]
    simp (disch := omega) only [q1, Option.bind_some, J_le]
    rw [if_pos (by omega)]) (fL w hq 192).length FU 0 (by omega) (FU_gt (by omega))
theorem c_askP (W : CIk h mk tx len w un us kp ks C row hq sq) (I : INV w) (G : FGk h (fL w hq 192)) {x : Nat} (hx : x < 4) (K : AH → Nat → Int32 → Int32 → Int32 → Int32 → Option (Int32 × AH)) {st : Nat × Nat} (hst : st.2 ≤ 1000000) : ∀ m n k, k + m = hbN x → m < n → fX10_asks_L37 K n h 0 (J (akT w hq)) (J (slP akV (akK w hq) x k st).1) (J (slP akV (akK w hq) x k st).2) (J x) (J k) = K h 0 (J (akT w hq)) (J (slP akV (akK w hq) x (hbN x) st).1) (J (slP akV (akK w hq) x (hbN x) st).2) (J x)
  | 0, n + 1, k, e, _ => by
    have hl := hbN_le x
    have ek : k = hbN x := by omega
    rw [fX10_asks_L37]
    simp (disch := omega) only [c_numOf, Option.bind_some, J_le]
    rw [if_pos (by omega), ek]
  | m + 1, n + 1, k, e, hn => by
    have hl := hbN_le x
    have ih := c_askP W I G hx K hst m n (k + 1) (by omega) (by omega)
    have sl := slP_le (V := akV) (K := akK w hq) (x := x) (st := st) k
    obtain ⟨y1, y2⟩ := akY_le w hq x k
    have k1 := akK_le w hq x k
    have e1 : J k + 1 = J (k + 1) := by rw [l_1, J_add]
    have ek : jmax (J (akY w hq x k)) (J (akT w hq - akY w hq x k)) = J (akK w hq x k) := jmax_J (by omega) (by omega)
    have ev : 100 * J x + J k = J (akV x k) := by rw [l_100, J_mul, J_add]; rfl
    have es : slP akV (akK w hq) x (k + 1) st = sel (akV x k) (akK w hq x k) (slP akV (akK w hq) x k st) := rfl
    rw [es] at ih
    rw [fX10_asks_L37]
    simp (disch := omega) only [c_numOf, Option.bind_some, J_le, x_9 W.1, x_2 W.1, c_agreeing W I G, J_sub, ek, ev, letF, e1]
    rw [if_neg (by omega)]
    unfold sel at ih
    by_cases z : akK w hq x k < (slP akV (akK w hq) x k st).2
    · rw [if_pos z] at ih
      rw [if_neg (by omega)]
      exact ih
    · rw [if_neg z] at ih
      rw [if_pos (by omega)]
      exact ih
theorem c_askO (W : CIk h mk tx len w un us kp ks C row hq sq) (I : INV w) (G : FGk h (fL w hq 192)) (K : AH → Nat → Int32 → Int32 → Option (Int32 × AH)) {st : Nat × Nat} (hst : st.2 ≤ 1000000) : ∀ m n k, k + m = 4 → m < n → fX10_asks_L28 K n h 0 (J (akT w hq)) (J (slO akV (akK w hq) hbN k st).1) (J (slO akV (akK w hq) hbN k st).2) (J k) = K h 0 (J (slO akV (akK w hq) hbN 4 st).1) (J (slO akV (akK w hq) hbN 4 st).2)
  | 0, n + 1, k, e, _ => by
    have : k = 4 := by omega
    subst this
    rw [fX10_asks_L28]
    simp (disch := omega) only [l_4, J_le]
    rw [if_pos (by omega)]
  | m + 1, n + 1, k, e, hn => by
    have ih := c_askO W I G K hst m n (k + 1) (by omega) (by omega)
    have sl := slO_le (V := akV) (K := akK w hq) (m := hbN) (st := st) k
    have hl := hbN_le k
    have e1 : J k + 1 = J (k + 1) := by rw [l_1, J_add]
    have e2 := c_askP W I G (x := k) (by omega) (fun h14 x9 x10 x11 x12 x13 => letF (x13 + 1 : Int32) fun x15 => fX10_asks_L28 K n h14 x9 x10 x11 x12 x15) (st := slO akV (akK w hq) hbN k st) (by omega) (hbN k) FU 0 (Nat.zero_add _) (FU_gt (by omega))
    rw [fX10_asks_L28]
    simp (disch := omega) only [l_4, J_le]
    rw [if_neg (by omega)]
    refine Eq.trans e2 ?_
    simp only [letF, e1]
    exact ih
def akB (w : ST) (hq : List (Nat × Nat)) : Nat × Nat := slO akV (akK w hq) hbN 4 (0, akT w hq + 1)
def akA (w : ST) (hq : List (Nat × Nat)) : Nat := if akT w hq = 0 then 4294967294 else (akB w hq).1
def akR (w : ST) (hq : List (Nat × Nat)) (row : List Int64) : List Int64 := if akT w hq = 0 then row else [Int32.toInt64 (J (akB w hq).2)]
theorem xc_asks (W : CIk h mk tx len w un us kp ks C row hq sq) (I : INV w) (Hh : HHQ hq) : ∃ h' mk', fX10_asks h 0 = some (J (akA w hq), h') ∧ CIk h' mk' tx len w un us kp ks C (akR w hq row) hq sq ∧ On PC0 h h' := by
  obtain ⟨g1, e1, W1, G1, O1⟩ := ci_gather W I Hh
  have tl := (akY_le w hq 0 0).2
  have hz : J (akT w hq) = 0 ↔ akT w hq = 0 := by rw [l_0]; exact J_inj (by omega) (by decide)
  unfold fX10_asks akA akR
  rw [if_pos (x_h W.1), x_9 W.1, Option.bind_some, x_2 W.1, Option.bind_some, e1, Option.bind_some]
  by_cases z : akT w hq = 0
  · rw [if_pos (hz.2 z), if_pos z, if_pos z]
    exact ⟨g1, mk, rfl, W1, O1⟩
  · rw [if_neg (fun y => z (hz.1 y)), if_neg z, if_neg z]
    obtain ⟨g2, e2, W2, O2⟩ := ci_clr W1
    obtain ⟨g3, e3, W3, O3⟩ := ci_add W2 (by simp) (Int32.toInt64 (J (akB w hq).2))
    refine ⟨g3, mk, ?_, W3, (O1.trans (lon O2 (fun k hk => by omega))).trans (lon O3 (fun k hk => by omega))⟩
    have a1 : J (akT w hq) + 1 = J (akT w hq + 1) := by rw [l_1, J_add]
    simp only [letF, a1]
    have e4 := fun K => c_askO W1 I G1 K (st := (0, akT w hq + 1)) (by show akT w hq + 1 ≤ 1000000; omega) 4 FU 0 rfl (FU_gt (by decide))
    have e4' : ∀ K : AH → Nat → Int32 → Int32 → Option (Int32 × AH), fX10_asks_L28 K FU g1 0 (J (akT w hq)) 0 (J (akT w hq + 1)) 0 = K g1 0 (J (akB w hq).1) (J (akB w hq).2) := fun K => e4 K
    rw [e4']
    simp only [x_8 W1.1, Option.bind_some, e2, x_8 W2.1, e3]
/-! by the reference -/
theorem y_isSo (W : MIv h tx len w un us kp ks ρ rn row hq sq) (I : INV w) {f a b : Nat} (hf : f < 192) (hh : hdF w f = true) (ha : a < 4) (hb : b < hbN a) : fX11_isSo h 145 (J (f / 8)) (J (f % 8)) (J a) (J b) = some (agG w a b f) := by
  have R := I.rg
  have hl := hbN_le a
  have h8 : f % 8 < 8 := Nat.mod_lt _ (by decide)
  have hh' : hd w (f / 8) (f % 8) = true := hh
  have v6 := R.2.2.2.1 (8 * (f / 8) + f % 8) (by omega)
  have tb := (hd_lt hh').2.2
  have rv : aI h 0 146 (J (8 * (f / 8) + f % 8)) = some (J (w 6 (8 * (f / 8) + f % 8))) := by
    rw [ra_pg W.2.2.1 (by omega) h8]
    unfold pv
    rw [if_pos tb]
  have bl := bts_lt (hvB w (f / 8) (f % 8)) 6
  unfold fX11_isSo agG agF
  rw [if_pos (y_h W.1)]
  simp (disch := omega) only [l_0, l_1, l_2, J_inj]
  by_cases a0 : a = 0
  · rw [if_pos a0, if_pos a0]
    by_cases z : f / 8 = b
    · rw [if_pos z, decide_eq_true z]
    · rw [if_neg z, decide_eq_false z]
  · rw [if_neg a0, if_neg a0]
    by_cases a1 : a = 1
    · rw [if_pos a1, if_pos a1]
      by_cases z : f % 8 = b
      · rw [if_pos z, decide_eq_true z]
      · rw [if_neg z, decide_eq_false z]
    · rw [if_neg a1, if_neg a1]
      by_cases a2 : a = 2
      · rw [if_pos a2, if_pos a2, y_0 W.1, Option.bind_some, l_8, J_mul, J_add, rv, Option.bind_some, l_10, J_mul]
        by_cases z : 10 * b ≤ w 6 (8 * (f / 8) + f % 8)
        · rw [if_neg (fun y => by rw [J_lt (by omega) (by omega)] at y; omega), decide_eq_true z]
        · rw [if_pos (by rw [J_lt (by omega) (by omega)]; omega), decide_eq_false z]
      · have b6 : b < 6 := by
          have : a = 3 := by omega
          subst this
          exact hb
        rw [if_neg a2, if_neg a2, y_havers W I (show f / 8 < 24 by omega) h8, Option.bind_some, m_has (by omega) (by omega), Option.bind_some, bts_tb]
        congr 1
        unfold hvB
        rw [decide_eq_true b6, Bool.true_and]
        by_cases z : hs w b = true
        · rw [z, Bool.true_and]
        · have := fir_no (f % 8) z R
          have z' : hs w b = false := by simpa using z
          rw [z', Bool.false_and, this, decide_eq_false (by omega)]
theorem y_fitting (W : MIv h tx len w un us kp ks ρ rn row hq sq) (I : INV w) (Hh : HHQ hq) {f : Nat} (hf : f < 192) : fX11_isFitting h 145 (J (f / 8)) (J (f % 8)) = some (ffB w hq f) := by
  have R := I.rg
  have h8 : f % 8 < 8 := Nat.mod_lt _ (by decide)
  obtain ⟨t0, f1, f2, t1, t2, t3⟩ := W.2.2.2.2.2.2.2.1
  have eh : hdF w f = (w 8 (f / 8)).testBit (f % 8) := by
    unfold hdF hd
    rw [decide_eq_true (show f / 8 < 24 by omega), decide_eq_true h8]
    rfl
  unfold fX11_isFitting
  rw [if_pos (y_h W.1), y_0 W.1, Option.bind_some, m_hd W.2.2.1 R (by omega) h8, Option.bind_some, ← eh]
  unfold ffB
  by_cases hh : hdF w f = true
  · rw [if_pos hh, hh, Bool.true_and]
    have e : ∀ m q i, i + m = hq.length → m < q → fX11_isFitting_L16 h q 145 (J (f / 8)) (J (f % 8)) (J i) = some ((hq.drop i).all (fun q => agG w q.1 q.2 f)) := by
      intro m
      induction m with
      | zero =>
        intro q i e hq'
        obtain ⟨q, rfl⟩ : ∃ z, q = z + 1 := ⟨q - 1, by omega⟩
        rw [fX11_isFitting_L16]
        simp (disch := omega) only [y_26 W.1, Option.bind_some, J_le]
        rw [if_pos (by omega), List.drop_of_length_le (by omega)]
        rfl
      | succ m ih =>
        intro q i e hq'
        obtain ⟨q, rfl⟩ : ∃ z, q = z + 1 := ⟨q - 1, by omega⟩
        obtain ⟨y, hy, hd⟩ := drop_s (l := hq) (i := i) (by omega)
        obtain ⟨v1, v2⟩ := t3 i y hy
        obtain ⟨u1, u2⟩ := Hh i y hy
        have r1 : aI h 0 157 (J i) = some (J y.1) := by rw [aI_at t1 (by omega) (by decide), v1]
        have r2 : aI h 0 158 (J i) = some (J y.2) := by rw [aI_at t2 (by omega) (by decide), v2]
        have e1 : J i + 1 = J (i + 1) := by rw [l_1, J_add]
        rw [fX11_isFitting_L16]
        simp (disch := omega) only [y_26 W.1, Option.bind_some, J_le]
        rw [if_neg (by omega)]
        simp only [y_24 W.1, y_25 W.1, Option.bind_some, r1, r2, y_isSo W I hf hh u1 u2, letF, e1]
        rw [hd, List.all_cons]
        by_cases z : agG w y.1 y.2 f = true
        · rw [if_pos z, ih q (i + 1) (by omega) (by omega), z]
          rfl
        · rw [if_neg z]
          have : agG w y.1 y.2 f = false := by simpa using z
          rw [this, Bool.false_and]
    exact e hq.length FU 0 (by omega) (FU_gt (by omega))
  · rw [if_neg hh]
    have : hdF w f = false := by simpa using hh
    rw [this, Bool.false_and]
def MFk (h : AH) (w : ST) (hq : List (Nat × Nat)) (k : Nat) : Prop := ∃ f, h.1 159 = some (.inl (4, 192, .inl f)) ∧ ∀ l, l < k → f l = b2i (ffB w hq l)
theorem MFk.on {h g : AH} {k : Nat} {P : Nat → Prop} (G : MFk h w hq k) (O : On P h g) (h1 : ¬ P 159) : MFk g w hq k := by
  obtain ⟨f, g1, g2⟩ := G
  exact ⟨f, (O.2 _ h1).trans g1, g2⟩
theorem mf_rd (G : MFk h w hq 192) {k : Nat} (hk : k < 192) : aZ h 159 (J k) = some (ffB w hq k) := by
  obtain ⟨f, g1, g2⟩ := G
  unfold aZ
  rw [aI_at g1 hk (by decide), Option.bind_some, g2 k hk, i2z_b2]
theorem y_layS (W : MIv h tx len w un us kp ks ρ rn row hq sq) {k : Nat} (hk : k < 192) (G : MFk h w hq k) : ∃ gg, sI h 4 159 (J k) (b2i (ffB w hq k)) = some gg ∧ MIv gg tx len w un us kp ks ρ rn row hq sq ∧ MFk gg w hq (k + 1) ∧ aZ gg 159 (J k) = some (ffB w hq k) ∧ On PM0 h gg := by
  obtain ⟨f, g1, g2⟩ := G
  obtain ⟨gg, d, c, O⟩ := wa_t g1 hk (by decide) (x := b2i (ffB w hq k)) (nar_b2i _)
  have O' : On (fun j => j = 159) h gg := O.on1 rfl
  have W1 : MIv gg tx len w un us kp ks ρ rn row hq sq := by
    obtain ⟨w1, w2, w3, w4, w5, w6, w7, w8, w9, w10⟩ := W
    obtain ⟨y1, y2, y3, y4, y5, y6, y7, y8⟩ := w10
    exact ⟨w1.on O' (by omega), w2.on O' (by omega), w3.on O' (by omega), w4.on O' (by omega), w5.on O' (by omega) (by omega), w6.on O' (by omega), w7.on O' (by omega), w8.on O' (by omega) (by omega), w9.on O' (by omega) (by omega) (by omega), ⟨y1.on O' (by omega), y2.on O' (by omega), y3.on O' (by omega), y4.on O' (by omega), y5.on O' (by omega), y6.on O' (by omega), ⟨_, c⟩, y8.on O' (by omega)⟩⟩
  have rd : aZ gg 159 (J k) = some (ffB w hq k) := by
    unfold aZ
    rw [aI_at c hk (by decide), Option.bind_some]
    show i2z (if k = k then b2i (ffB w hq k) else f k) = _
    rw [if_pos (Eq.refl k), i2z_b2]
  refine ⟨gg, d, W1, ⟨_, c, fun l hl => ?_⟩, rd, mon O' (fun k hk => by omega)⟩
  show (if l = k then b2i (ffB w hq k) else f l) = b2i (ffB w hq l)
  by_cases z : l = k
  · rw [if_pos z, z]
  · rw [if_neg z]
    exact g2 l (by omega)
theorem y_layP (I : INV w) (Hh : HHQ hq) {o : Nat} (ho' : o < 24) (K : AH → Nat → Int32 → Int32 → Option (Int32 × AH)) : ∀ m q p h, MIv h tx len w un us kp ks ρ rn row hq sq → MFk h w hq (8 * o + p) → p + m = 8 → m < q → ∃ h', fX11_layFits_L12 K q h 145 (J (cnt (ffB w hq) (8 * o + p))) (J o) (J p) = K h' 145 (J (cnt (ffB w hq) (8 * (o + 1)))) (J o) ∧ MIv h' tx len w un us kp ks ρ rn row hq sq ∧ MFk h' w hq (8 * (o + 1)) ∧ On PM0 h h'
  | 0, q + 1, p, h, W, G, e, _ => by
    have e8 : 8 * o + p = 8 * (o + 1) := by omega
    rw [e8] at G ⊢
    refine ⟨h, ?_, W, G, On.rf⟩
    rw [fX11_layFits_L12]
    simp (disch := omega) only [l_8, J_le]
    rw [if_pos (by omega)]
  | m + 1, q + 1, p, h, W, G, e, hn => by
    obtain ⟨gg, d, W1, G1, rd, O1⟩ := y_layS W (show 8 * o + p < 192 by omega) G
    obtain ⟨g3, e3, W3, G3, O3⟩ := y_layP I Hh ho' K m q (p + 1) gg W1 G1 (by omega) (by omega)
    refine ⟨g3, ?_, W3, G3, O1.trans O3⟩
    have ft := y_fitting W I Hh (show 8 * o + p < 192 by omega)
    rw [show (8 * o + p) / 8 = o by omega, show (8 * o + p) % 8 = p by omega] at ft
    have e1 : J p + 1 = J (p + 1) := by rw [l_1, J_add]
    have ei : 8 * J o + J p = J (8 * o + p) := by rw [l_8, J_mul, J_add]
    have e3' : fX11_layFits_L12 K q gg 145 (J (cnt (ffB w hq) (8 * o + p + 1))) (J o) (J (p + 1)) = K g3 145 (J (cnt (ffB w hq) (8 * (o + 1)))) (J o) := e3
    rw [fX11_layFits_L12]
    unfold fX11_layFits_J55
    simp (disch := omega) only [y_27 W.1, ft, Option.bind_some, ei, d, y_27 W1.1, rd, letF, e1]
    rw [if_neg (fun y => by rw [l_8, J_le (by decide) (by omega)] at y; omega)]
    by_cases z : ffB w hq (8 * o + p) = true
    · rw [cnt_yes z] at e3'
      rw [if_pos z, show J (cnt (ffB w hq) (8 * o + p)) + 1 = J (cnt (ffB w hq) (8 * o + p) + 1) by rw [l_1, J_add]]
      exact e3'
    · rw [cnt_no z] at e3'
      rw [if_neg z, show J (cnt (ffB w hq) (8 * o + p)) + 0 = J (cnt (ffB w hq) (8 * o + p)) by rw [l_0, J_add, Nat.add_zero]]
      exact e3'
theorem y_layO (I : INV w) (Hh : HHQ hq) : ∀ m q o h, MIv h tx len w un us kp ks ρ rn row hq sq → MFk h w hq (8 * o) → o + m = 24 → m < q → ∃ h', fX11_layFits_L4 q h 145 (J (cnt (ffB w hq) (8 * o))) (J o) = some (J (cnt (ffB w hq) (8 * 24)), h') ∧ MIv h' tx len w un us kp ks ρ rn row hq sq ∧ MFk h' w hq (8 * 24) ∧ On PM0 h h'
  | 0, q + 1, o, h, W, G, e, _ => by
    have eo : o = 24 := by omega
    rw [eo] at G ⊢
    refine ⟨h, ?_, W, G, On.rf⟩
    rw [fX11_layFits_L4, if_pos (by decide)]
  | m + 1, q + 1, o, h, W, G, e, hn => by
    have e1 : J o + 1 = J (o + 1) := by rw [l_1, J_add]
    obtain ⟨g1, e2, W1, G1, O1⟩ := y_layP I Hh (o := o) (by omega) (fun h11 x8 x9 x10 => letF (x10 + 1 : Int32) fun x12 => fX11_layFits_L4 q h11 x8 x9 x12) 8 FU 0 h W G rfl (FU_gt (by decide))
    obtain ⟨g2, e3, W2, G2, O2⟩ := y_layO I Hh m q (o + 1) g1 W1 G1 (by omega) (by omega)
    refine ⟨g2, ?_, W2, G2, O1.trans O2⟩
    rw [fX11_layFits_L4, if_neg (fun y => by rw [l_24, J_le (by decide) (by omega)] at y; omega)]
    refine Eq.trans e2 ?_
    simp only [letF, e1]
    exact e3
theorem mi_layF (W : MIv h tx len w un us kp ks ρ rn row hq sq) (I : INV w) (Hh : HHQ hq) : ∃ h', fX11_layFits h 145 = some (J (akT w hq), h') ∧ MIv h' tx len w un us kp ks ρ rn row hq sq ∧ MFk h' w hq 192 ∧ On PM0 h h' := by
  obtain ⟨f, c⟩ := W.2.2.2.2.2.2.2.2.2.2.2.2.2.2.2.1
  obtain ⟨g2, e2, W2, G2, O2⟩ := y_layO I Hh 24 FU 0 h W ⟨f, c, fun l hl => absurd hl (Nat.not_lt_zero l)⟩ rfl (FU_gt (by decide))
  refine ⟨g2, ?_, W2, G2, O2⟩
  unfold fX11_layFits
  rw [if_pos (y_h W.1)]
  exact e2
theorem y_fitL (x1 : Int32) : ∀ m q k h, MIv h tx len w un us kp ks ρ rn [] hq sq → MFk h w hq 192 → (∀ l, l < k → ¬ ffB w hq l = true) → k + m = 192 → m + 1 < q → ∃ h', fX11_fits_L17 q h 145 x1 (J k) = some (x1, h') ∧ MIv h' tx len w un us kp ks ρ rn (ftR w hq) hq sq ∧ On PM0 h h'
  | 0, q + 1, k, h, W, G, N, e, _ => by
    have ek : k = 192 := by omega
    rw [ek] at N
    refine ⟨h, ?_, ?_, On.rf⟩
    · rw [fX11_fits_L17, if_pos (by rw [l_192, J_le (by decide) (by omega)]; omega)]
    · have : ftR w hq = [] := by unfold ftR; rw [fL_none 192 N]; rfl
      rw [this]
      exact W
  | m + 1, q + 1, k, h, W, G, N, e, hn => by
    have e1 : J k + 1 = J (k + 1) := by rw [l_1, J_add]
    have q1 : jdiv (J k) 8 = some (J (k / 8)) := jdiv_J (by omega) (by decide) (by decide)
    have q2 : jrem (J k) 8 = some (J (k % 8)) := jrem_J (by omega) (by decide) (by decide)
    rw [fX11_fits_L17, if_neg (fun y => by rw [l_192, J_le (by decide) (by omega)] at y; omega)]
    have z0 : gI h 11 145 4 = some (J 0) := y_4 W.1
    rw [z0, Option.bind_some, if_pos (show J 0 = 0 from rfl), y_27 W.1, Option.bind_some, mf_rd G (by omega), Option.bind_some]
    by_cases z : ffB w hq k = true
    · rw [if_pos z, q1, Option.bind_some]
      obtain ⟨g2, e2, W2, O2⟩ := mi_tell W (by simp) (Int32.toInt64 (J (k / 8)))
      obtain ⟨g3, e3, W3, O3⟩ := mi_tell W2 (by simp) (Int32.toInt64 (J (k % 8)))
      have ef : ftR w hq = [Int32.toInt64 (J (k / 8)), Int32.toInt64 (J (k % 8))] := by
        have := fL_first N z (191 - k)
        rw [show k + 1 + (191 - k) = 192 by omega] at this
        unfold ftR
        rw [this]
        rfl
      refine ⟨g3, ?_, by rw [ef]; exact W3, (mon O2 (fun k hk => by omega)).trans (mon O3 (fun k hk => by omega))⟩
      obtain ⟨q, rfl⟩ : ∃ z, q = z + 1 := ⟨q - 1, by omega⟩
      have z2 : gI g3 11 145 4 = some (J 2) := y_4 W3.1
      rw [e2, Option.bind_some, q2, Option.bind_some, e3, Option.bind_some]
      simp only [letF, e1]
      rw [fX11_fits_L17, z2, Option.bind_some, if_neg (show ¬ J 2 = 0 by decide)]
      split <;> rfl
    · rw [if_neg z]
      simp only [letF, e1]
      exact y_fitL x1 m q (k + 1) h W G (fun l hl => by
        by_cases y : l = k
        · rw [y]; exact z
        · exact N l (by omega)) (by omega) (by omega)
theorem xm_fits (W : MIv h tx len w un us kp ks ρ rn row hq sq) (I : INV w) (Hh : HHQ hq) : ∃ h', fX11_fits h 145 = some (J (akT w hq), h') ∧ MIv h' tx len w un us kp ks ρ rn (ftR w hq) hq sq ∧ On PM0 h h' := by
  obtain ⟨g0, e0, W0, -, O0⟩ := mi_t0 W
  obtain ⟨g1, e1, W1, G1, O1⟩ := mi_layF W0 I Hh
  obtain ⟨g2, e2, W2, O2⟩ := mi_clr W1
  have G2 := G1.on O2 (by decide)
  obtain ⟨g3, e3, W3, O3⟩ := y_fitL (J (akT w hq)) 192 FU 0 g2 W2 G2 (fun l hl => absurd hl (Nat.not_lt_zero l)) rfl (FU_gt (by decide))
  refine ⟨g3, ?_, W3, (((mon O0 (fun k hk => by omega)).trans O1).trans (mon O2 (fun k hk => by omega))).trans O3⟩
  unfold fX11_fits
  rw [if_pos (y_h W.1), e0, Option.bind_some, e1, Option.bind_some, e2, Option.bind_some]
  exact e3
theorem y_askC (W : MIv h tx len w un us kp ks ρ rn row hq sq) (I : INV w) (G : MFk h w hq 192) {a b : Nat} (ha : a < 4) (hb : b < hbN a) {x1 x2 x3 : Int32} (K : AH → Nat → Int32 → Int32 → Int32 → Int32 → Int32 → Int32 → Option (Int32 × AH)) : ∀ m q k, k + m = 192 → m < q → fX11_asks_L51 K q h 145 x1 x2 x3 (J a) (J b) (J (cnt (fun f => ffB w hq f && agG w a b f) k)) (J k) = K h 145 x1 x2 x3 (J a) (J b) (J (akY w hq a b))
  | 0, q + 1, k, e, _ => by
    have ek : k = 192 := by omega
    rw [ek, fX11_asks_L51, if_pos (by decide)]
    rfl
  | m + 1, q + 1, k, e, hq' => by
    have ih := y_askC W I G ha hb (x1 := x1) (x2 := x2) (x3 := x3) K m q (k + 1) (by omega) (by omega)
    have e1 : J k + 1 = J (k + 1) := by rw [l_1, J_add]
    have a0 : ∀ x : Nat, J x + 0 = J x := fun x => by rw [l_0, J_add, Nat.add_zero]
    have a1 : ∀ x : Nat, J x + 1 = J (x + 1) := fun x => by rw [l_1, J_add]
    have q1 : jdiv (J k) 8 = some (J (k / 8)) := jdiv_J (by omega) (by decide) (by decide)
    have q2 : jrem (J k) 8 = some (J (k % 8)) := jrem_J (by omega) (by decide) (by decide)
    rw [fX11_asks_L51, if_neg (fun y => by rw [l_192, J_le (by decide) (by omega)] at y; omega)]
    unfold fX11_asks_J97
    simp only [y_27 W.1, Option.bind_some, mf_rd G (show k < 192 by omega), letF, e1, a0]
    by_cases z : ffB w hq k = true
    · rw [if_pos z, q1, Option.bind_some, q2, Option.bind_some, y_isSo W I (by omega) (Bool.and_eq_true_iff.mp z).1 ha hb, Option.bind_some]
      by_cases y : agG w a b k = true
      · rw [cnt_yes (by simp [z, y])] at ih
        rw [if_pos y, a1]
        exact ih
      · rw [cnt_no (by simp [y])] at ih
        rw [if_neg y]
        exact ih
    · rw [cnt_no (by simp [z])] at ih
      rw [if_neg z]
      exact ih
theorem y_askP (W : MIv h tx len w un us kp ks ρ rn row hq sq) (I : INV w) (G : MFk h w hq 192) {x : Nat} (hx : x < 4) (K : AH → Nat → Int32 → Int32 → Int32 → Int32 → Option (Int32 × AH)) {st : Nat × Nat} (hst : st.2 ≤ 1000000) : ∀ m n k, k + m = hbN x → m < n → fX11_asks_L35 K n h 145 (J (akT w hq)) (J (slP akV (akK w hq) x k st).1) (J (slP akV (akK w hq) x k st).2) (J x) (J k) = K h 145 (J (akT w hq)) (J (slP akV (akK w hq) x (hbN x) st).1) (J (slP akV (akK w hq) x (hbN x) st).2) (J x)
  | 0, n + 1, k, e, _ => by
    have hl := hbN_le x
    have h0 : 0 < hbN x := by unfold hbN; split; decide; split; decide; split; decide; split; decide; omega
    have ek : k = hbN x := by omega
    rw [fX11_asks_L35]
    simp (disch := omega) only [m_highOf hx, Option.bind_some, J_lt]
    rw [if_pos (by omega), ek]
  | m + 1, n + 1, k, e, hn => by
    have hl := hbN_le x
    have ih := y_askP W I G hx K hst m n (k + 1) (by omega) (by omega)
    have sl := slP_le (V := akV) (K := akK w hq) (x := x) (st := st) k
    obtain ⟨y1, y2⟩ := akY_le w hq x k
    have k1 := akK_le w hq x k
    have e1 : J k + 1 = J (k + 1) := by rw [l_1, J_add]
    have ek : jmax (J (akY w hq x k)) (J (akT w hq - akY w hq x k)) = J (akK w hq x k) := jmax_J (by omega) (by omega)
    have ev : 100 * J x + J k = J (akV x k) := by rw [l_100, J_mul, J_add]; rfl
    have es : slP akV (akK w hq) x (k + 1) st = sel (akV x k) (akK w hq x k) (slP akV (akK w hq) x k st) := rfl
    rw [es] at ih
    have ec := fun K => y_askC W I G hx (show k < hbN x by omega) (x1 := J (akT w hq)) (x2 := J (slP akV (akK w hq) x k st).1) (x3 := J (slP akV (akK w hq) x k st).2) K 192 FU 0 rfl (FU_gt (by decide))
    have ec' : ∀ K : AH → Nat → Int32 → Int32 → Int32 → Int32 → Int32 → Int32 → Option (Int32 × AH), fX11_asks_L51 K FU h 145 (J (akT w hq)) (J (slP akV (akK w hq) x k st).1) (J (slP akV (akK w hq) x k st).2) (J x) (J k) 0 0 = K h 145 (J (akT w hq)) (J (slP akV (akK w hq) x k st).1) (J (slP akV (akK w hq) x k st).2) (J x) (J k) (J (akY w hq x k)) := fun K => ec K
    rw [fX11_asks_L35]
    simp (disch := omega) only [m_highOf hx, Option.bind_some, J_lt]
    rw [if_neg (by omega), ec']
    simp (disch := omega) only [J_sub, ek, ev, letF, e1, J_lt]
    unfold sel at ih
    by_cases z : akK w hq x k < (slP akV (akK w hq) x k st).2
    · rw [if_pos z] at ih
      rw [if_pos (by omega)]
      exact ih
    · rw [if_neg z] at ih
      rw [if_neg (by omega)]
      exact ih
theorem y_askO (W : MIv h tx len w un us kp ks ρ rn row hq sq) (I : INV w) (G : MFk h w hq 192) (K : AH → Nat → Int32 → Int32 → Option (Int32 × AH)) {st : Nat × Nat} (hst : st.2 ≤ 1000000) : ∀ m n k, k + m = 4 → m < n → fX11_asks_L26 K n h 145 (J (akT w hq)) (J (slO akV (akK w hq) hbN k st).1) (J (slO akV (akK w hq) hbN k st).2) (J k) = K h 145 (J (slO akV (akK w hq) hbN 4 st).1) (J (slO akV (akK w hq) hbN 4 st).2)
  | 0, n + 1, k, e, _ => by
    have : k = 4 := by omega
    subst this
    rw [fX11_asks_L26]
    simp (disch := omega) only [l_4, J_le]
    rw [if_pos (by omega)]
  | m + 1, n + 1, k, e, hn => by
    have ih := y_askO W I G K hst m n (k + 1) (by omega) (by omega)
    have sl := slO_le (V := akV) (K := akK w hq) (m := hbN) (st := st) k
    have hl := hbN_le k
    have e1 : J k + 1 = J (k + 1) := by rw [l_1, J_add]
    have e2 := y_askP W I G (x := k) (by omega) (fun h26 x21 x22 x23 x24 x25 => letF (x25 + 1 : Int32) fun x27 => fX11_asks_L26 K n h26 x21 x22 x23 x24 x27) (st := slO akV (akK w hq) hbN k st) (by omega) (hbN k) FU 0 (Nat.zero_add _) (FU_gt (by omega))
    rw [fX11_asks_L26]
    simp (disch := omega) only [l_4, J_le]
    rw [if_neg (by omega)]
    refine Eq.trans e2 ?_
    simp only [letF, e1]
    exact ih
theorem xm_asks (W : MIv h tx len w un us kp ks ρ rn row hq sq) (I : INV w) (Hh : HHQ hq) : ∃ h', fX11_asks h 145 = some (J (akA w hq), h') ∧ MIv h' tx len w un us kp ks ρ rn (akR w hq row) hq sq ∧ On PM0 h h' := by
  obtain ⟨g0, e0, W0, -, O0⟩ := mi_t0 W
  obtain ⟨g1, e1, W1, G1, O1⟩ := mi_layF W0 I Hh
  have O01 : On PM0 h g1 := (mon O0 (fun k hk => by omega)).trans O1
  have tl := (akY_le w hq 0 0).2
  have k1 := akK_le w hq 0 0
  have hz : J (akT w hq) = 0 ↔ akT w hq = 0 := by rw [l_0]; exact J_inj (by omega) (by decide)
  unfold fX11_asks akA akR
  rw [if_pos (y_h W.1), e0, Option.bind_some, e1, Option.bind_some]
  by_cases z : akT w hq = 0
  · rw [if_pos (hz.2 z), if_pos z, if_pos z]
    exact ⟨g1, rfl, W1, O01⟩
  · rw [if_neg (fun y => z (hz.1 y)), if_neg z, if_neg z]
    have same : slO akV (akK w hq) hbN 4 (4294967295, 1000000) = akB w hq := slO_first (V := akV) (K := akK w hq) (m := hbN) (st := (4294967295, 1000000)) (st' := (0, akT w hq + 1)) (by show akK w hq 0 0 < 1000000; omega) (by show akK w hq 0 0 < akT w hq + 1; omega) (by decide) 3
    have e4 := fun K => y_askO W1 I G1 K (st := (4294967295, 1000000)) (by decide) 4 FU 0 rfl (FU_gt (by decide))
    have e4' : ∀ K : AH → Nat → Int32 → Int32 → Option (Int32 × AH), fX11_asks_L26 K FU g1 145 (J (akT w hq)) (-1) 1000000 0 = K g1 145 (J (akB w hq).1) (J (akB w hq).2) := fun K => by
      have := e4 K
      rw [same] at this
      exact this
    obtain ⟨g2, e2, W2, O2⟩ := mi_clr W1
    obtain ⟨g3, e3, W3, O3⟩ := mi_tell W2 (by simp) (Int32.toInt64 (J (akB w hq).2))
    refine ⟨g3, ?_, W3, (O01.trans (mon O2 (fun k hk => by omega))).trans (mon O3 (fun k hk => by omega))⟩
    rw [e4', e2, Option.bind_some, e3, Option.bind_some]
end FT
