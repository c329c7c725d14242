/-! days drawn by a seed -/
def drx (x : Int32) : Int32 := x * 1103515245 + 12345
def drv (x : Int32) (n : Nat) : Nat := (x.toBitVec.toNat >>> 16) % n
theorem J_of (x : Int32) : J x.toBitVec.toNat = x := by
  unfold J
  rw [← Int32.ofBitVec_ofNat, BitVec.ofNat_toNat, BitVec.setWidth_eq, Int32.ofBitVec_toBitVec]
theorem dr_v (x : Int32) {n : Nat} (h0 : 0 < n) (hn : n < 2147483648) : jrem (jush x 16) (J n) = some (J (drv x n)) := by
  have hl : x.toBitVec.toNat < 4294967296 := x.toBitVec.isLt
  have e : jush x 16 = J (x.toBitVec.toNat >>> 16) := by
    have := J_ush (a := x.toBitVec.toNat) (p := 16) hl (by decide)
    rw [J_of] at this
    exact this
  have hs : x.toBitVec.toNat >>> 16 < 2147483648 := by
    rw [Nat.shiftRight_eq_div_pow]
    omega
  rw [e, jrem_J hs h0 hn]
  rfl
theorem drv_lt (x : Int32) {n : Nat} (h0 : 0 < n) : drv x n < n := Nat.mod_lt _ h0
def DVp (V : Int32 → Nat → Nat) : Prop := ∀ x n, 0 < n → V x n < n
def yrT (X : Int32 → Int32) (V : Int32 → Nat → Nat) (C : List Nat) (q : ST × Int32) : ST × Int32 :=
  if hs q.1 (V (X (X q.2)) 6) = true then
    (if V (X q.2) 4 < 2 then ((wrA C q.1 (V (X (X q.2)) 6) (V (X (X (X q.2))) 8) (V (X (X (X (X q.2)))) 100)).2, X (X (X (X q.2))))
     else if V (X q.2) 4 = 2 then ((if frkN q.1 (V (X (X q.2)) 6) < 6 then frkS q.1 (V (X (X q.2)) 6) else q.1), X (X q.2))
     else if V (X (X (X q.2))) 2 = 0 then ((endS q.1 (V (X (X q.2)) 6)).2, X (X (X q.2)))
     else ((tidS q.1 (V (X (X q.2)) 6)).1, X (X (X q.2))))
  else (q.1, X (X q.2))
def yrS (X : Int32 → Int32) (V : Int32 → Nat → Nat) (C : List Nat) (w : ST) (x : Int32) : Nat → ST × Int32
  | 0 => (w, x)
  | k + 1 => yrT X V C (yrS X V C w x k)
theorem yrT_inv {X : Int32 → Int32} {V : Int32 → Nat → Nat} (DV : DVp V) {C : List Nat} {q : ST × Int32} (I : INV q.1) : INV (yrT X V C q).1 := by
  unfold yrT
  by_cases z : hs q.1 (V (X (X q.2)) 6) = true
  · rw [if_pos z]
    by_cases z1 : V (X q.2) 4 < 2
    · rw [if_pos z1]
      exact inv_wrA C I
    · rw [if_neg z1]
      by_cases z2 : V (X q.2) 4 = 2
      · rw [if_pos z2]
        show INV (if frkN q.1 (V (X (X q.2)) 6) < 6 then frkS q.1 (V (X (X q.2)) 6) else q.1)
        by_cases z3 : frkN q.1 (V (X (X q.2)) 6) < 6
        · rw [if_pos z3]
          exact inv_frk I ((frkN_ok I.rg).1.mpr z3)
        · rw [if_neg z3]
          exact I
      · rw [if_neg z2]
        by_cases z3 : V (X (X (X q.2))) 2 = 0
        · rw [if_pos z3]
          exact inv_end I (DV _ _ (by decide))
        · rw [if_neg z3]
          exact inv_tid I z
  · rw [if_neg z]
    exact I
theorem yrS_inv {X : Int32 → Int32} {V : Int32 → Nat → Nat} (DV : DVp V) {C : List Nat} {w : ST} {x : Int32} (I : INV w) : ∀ k, INV (yrS X V C w x k).1
  | 0 => I
  | k + 1 => yrT_inv DV (yrS_inv DV I k)
/-- what is new lies behind what was -/
def Of (P : Nat → Prop) (h h' : AH) : Prop := h.2 ≤ h'.2 ∧ ∀ k, k < h.2 → ¬ P k → h'.1 k = h.1 k
theorem On.of {P : Nat → Prop} {h h' : AH} (O : On P h h') : Of P h h' := ⟨Nat.le_of_eq O.1.symm, fun k _ hk => O.2 k hk⟩
def DR (h : AH) (a : Nat) (x : Int32) : Prop := h.1 a = some (.inr (0, [.int x]))
theorem DR.on {h h' : AH} {a : Nat} {x : Int32} {P : Nat → Prop} (D : DR h a x) (O : On P h h') (hP : ¬ P a) : DR h' a x := (O.2 a hP).trans D
theorem c_draw {h : AH} {a : Nat} {x : Int32} (D : DR h a x) {n : Nat} (h0 : 0 < n) (hn : n < 2147483648) : ∃ h', fX0_draw h a (J n) = some (J (drv (drx x) n), h') ∧ DR h' a (drx x) ∧ On (fun k => k = a) h h' := by
  have e1 : pF h 0 a 0 (.int ((x * 1103515245) + 12345)) = some (hset h a (.inr (0, [.int (drx x)]))) := pF_at D (show 0 < [Value.int x].length from Nat.zero_lt_one)
  have D1 : DR (hset h a (.inr (0, [.int (drx x)]))) a (drx x) := hset_eq
  refine ⟨_, ?_, D1, (Ot_hset (lo := a) (hi := a + 1) ⟨Nat.le_refl _, by omega⟩).on1 rfl⟩
  have g0 : gI h 0 a 0 = some x := gI_at D rfl
  have g1 : gI (hset h a (.inr (0, [.int (drx x)]))) 0 a 0 = some (drx x) := gI_at D1 rfl
  unfold fX0_draw
  rw [if_pos (hasC_at D), g0, Option.bind_some, e1, Option.bind_some, if_neg (fun y => by rw [l_0, J_le hn (by decide)] at y; omega), g1, Option.bind_some, dr_v _ h0 hn, Option.bind_some]
def DCp (X : Int32 → Int32) (V : Int32 → Nat → Nat) : Prop := ∀ (h : AH) (a : Nat) (x : Int32) (n : Nat), DR h a x → 0 < n → n < 2147483648 → ∃ h', fX0_draw h a (J n) = some (J (V (X x) n), h') ∧ DR h' a (X x) ∧ On (fun k => k = a) h h'
def DMp (X : Int32 → Int32) (V : Int32 → Nat → Nat) : Prop := ∀ (h h' : AH) (x : Int32) (n : Nat), hasC h 11 145 = true → gI h 11 145 33 = some x → pF h 11 145 33 (.int (X x)) = some h' → gI h' 11 145 33 = some (X x) → 0 < n → n < 2147483648 → fX11_draw h 145 (J n) = some (J (V (X x) n), h')
theorem dv_p : DVp drv := fun x _ h => drv_lt x h
theorem dc_p : DCp drx drv := fun _ _ _ _ D h0 hn => c_draw D h0 hn
theorem dm_p : DMp drx drv := by
  intro h g x n hc D e D1 h0 hn
  have e' : pF h 11 145 33 (.int ((x * 1103515245) + 12345)) = some g := e
  unfold fX11_draw
  rw [if_pos hc, D, Option.bind_some, e', Option.bind_some, D1, Option.bind_some, dr_v _ h0 hn, Option.bind_some]
def yrA (X : Int32 → Int32) (V : Int32 → Nat → Nat) (C : List Nat) (w : ST) (x : Int32) (n : Nat) : Nat := if 1 ≤ n ∧ n ≤ 40 then tot (yrS X V C w x n).1 8 else 4294967295
def yrR (X : Int32 → Int32) (V : Int32 → Nat → Nat) (C : List Nat) (w : ST) (x : Int32) (n : Nat) (row : List Int64) : List Int64 := if 1 ≤ n ∧ n ≤ 40 then [Int32.toInt64 (J ((yrS X V C w x n).1 1 2)), Int32.toInt64 (J ((yrS X V C w x n).1 1 1))] else row
section YR
variable {h g : AH} {mk : Nat} {tx : Nat → Nat} {len : Nat} {w : ST} {un : Nat} {us : Nat → ST} {kp : Nat → Bool} {ks : Nat → ST} {C : List Nat} {ρ : Nat → Nat} {rn : Nat} {row : List Int64} {hq : List (Nat × Nat)} {sq : List (Nat × Nat × Bool)} {X : Int32 → Int32} {V : Int32 → Nat → Nat}
theorem ci_endW {τ : ST} (W : CIk h mk tx len w un us kp ks C row hq sq) (T : WR h 11 τ) (I : INV τ) {s : Nat} (h0 : hs τ s = true) : ∃ g, fX9_endSpace h 11 (J s) = some (J (endS τ s).1, g) ∧ CIk g mk tx len w un us kp ks C row hq sq ∧ WR g 11 (endS τ s).2 ∧ On PC0 h g := by
  obtain ⟨c, b, K⟩ := T.wk
  obtain ⟨g, e, K2, O⟩ := c_end K I.rg h0
  have O' := On.t11 O
  exact ⟨g, e, W.p11 O' K2.wr.c1, K2.wr, lon O' (fun k hk => by omega)⟩
theorem ci_tidW {τ : ST} (W : CIk h mk tx len w un us kp ks C row hq sq) (T : WR h 11 τ) (I : INV τ) {s : Nat} (h0 : hs τ s = true) : ∃ g, fX9_tidyChain h 11 (J s) = some (J ((tidS τ s).2.1 + (tidS τ s).2.2), g) ∧ CIk g mk tx len w un us kp ks C row hq sq ∧ WR g 11 (tidS τ s).1 ∧ On PC0 h g := by
  obtain ⟨c, b, K⟩ := T.wk
  obtain ⟨g, e, K2, O⟩ := c_tidy K I.rg h0
  have O' := On.t11 O
  exact ⟨g, e, W.p11 O' K2.wr.c1, K2.wr, lon O' (fun k hk => by omega)⟩
theorem CIk.oa {a : Nat} (W : CIk h mk tx len w un us kp ks C row hq sq) (O : On (fun k => k = a) h g) (ha : 145 ≤ a) : CIk g mk tx len w un us kp ks C row hq sq := W.on O (fun k h1 => by omega)
theorem c_yearT (DV : DVp V) (DC : DCp X V) {q : ST × Int32} {a : Nat} (ha : 145 ≤ a) (W : CIk h mk tx len w un us kp ks C row hq sq) (T : WR h 11 q.1) (D : DR h a q.2) (I : INV q.1) (gC : GR1 C) : ∃ g, (∀ (K : AH → Option (Int32 × AH)), ((fX0_draw h a 4).bind fun q1 => (fX0_draw q1.2 a 6).bind fun q2 => (gR q2.2 10 0 3).bind fun x3 => (fX9_hasSpace q2.2 x3 q2.1).bind fun q4 => if q4 = true then ((fX10_actDrawn q2.2 0 a q1.1 q2.1).bind fun q5 => K q5) else K q2.2) = K g) ∧ CIk g mk tx len w un us kp ks C row hq sq ∧ WR g 11 (yrT X V C q).1 ∧ DR g a (yrT X V C q).2 ∧ On (fun k => k < 145 ∨ k = a) h g := by
  have oa : ∀ {g1 g2 : AH}, On (fun k => k = a) g1 g2 → On (fun k => k < 145 ∨ k = a) g1 g2 := fun O => O.mono (fun k hk => Or.inr hk)
  have ol : ∀ {g1 g2 : AH}, On PC0 g1 g2 → On (fun k => k < 145 ∨ k = a) g1 g2 := fun O => O.mono (fun k hk => Or.inl hk)
  obtain ⟨g1, e1, D1, O1⟩ := DC _ _ _ 4 D (by decide) (by decide)
  have W1 := W.oa O1 ha
  have T1 : WR g1 11 q.1 := T.on O1 (fun k h1 h2 => by omega)
  obtain ⟨g2, e2, D2, O2⟩ := DC _ _ _ 6 D1 (by decide) (by decide)
  have W2 := W1.oa O2 ha
  have T2 : WR g2 11 q.1 := T1.on O2 (fun k h1 h2 => by omega)
  have d4 := DV (X q.2) 4 (by decide)
  have d6 := DV (X (X q.2)) 6 (by decide)
  have e1' : fX0_draw h a 4 = some (J (V (X q.2) 4), g1) := e1
  have e2' : fX0_draw g1 a 6 = some (J (V (X (X q.2)) 6), g2) := e2
  have O12 := (oa O1).trans (oa O2)
  simp only [e1', Option.bind_some, e2', x_3 W2.1, c_hs T2 I.rg (show V (X (X q.2)) 6 < 4294967296 by omega)]
  unfold yrT
  generalize V (X q.2) 4 = d at *
  generalize V (X (X q.2)) 6 = s at *
  by_cases z : hs q.1 s = true
  · simp only [if_pos z]
    unfold fX10_actDrawn
    simp (disch := omega) only [x_h W2.1, if_true, l_2, J_le, J_inj]
    by_cases z1 : d < 2
    · rw [if_neg (by omega)]
      simp only [if_pos z1]
      obtain ⟨g3, e3, D3, O3⟩ := DC _ _ _ 8 D2 (by decide) (by decide)
      have W3 := W2.oa O3 ha
      have T3 : WR g3 11 q.1 := T2.on O3 (fun k h1 h2 => by omega)
      obtain ⟨g4, e4, D4, O4⟩ := DC _ _ _ 100 D3 (by decide) (by decide)
      have W4 := W3.oa O4 ha
      have T4 : WR g4 11 q.1 := T3.on O4 (fun k h1 h2 => by omega)
      have d8 := DV (X (X (X q.2))) 8 (by decide)
      have d100 := DV (X (X (X (X q.2)))) 100 (by decide)
      have e3' : fX0_draw g2 a 8 = some (J (V (X (X (X q.2))) 8), g3) := e3
      have e4' : fX0_draw g3 a 100 = some (J (V (X (X (X (X q.2)))) 100), g4) := e4
      obtain ⟨g5, e5, W5, T5, O5⟩ := ci_tryW W4 T4 I gC (s := s) (p := V (X (X (X q.2))) 8) (v := V (X (X (X (X q.2)))) 100) (by omega) (by omega) (by omega)
      refine ⟨g5, fun K => ?_, W5, T5, D4.on O5 (by show ¬ a < 145; omega), ((O12.trans (oa O3)).trans (oa O4)).trans (ol O5)⟩
      simp only [e3', Option.bind_some, x_3 W3.1, e4', x_5 W4.1, e5]
    · rw [if_pos (by omega)]
      simp only [if_neg z1]
      by_cases z2 : d = 2
      · simp only [if_pos z2]
        obtain ⟨g3, e3, W3, T3, O3⟩ := ci_frkW W2 T2 I (s := s) (by omega)
        refine ⟨g3, fun K => ?_, W3, T3, D2.on O3 (by show ¬ a < 145; omega), O12.trans (ol O3)⟩
        simp only [x_3 W2.1, Option.bind_some, e3]
      · simp only [if_neg z2]
        obtain ⟨g3, e3, D3, O3⟩ := DC _ _ _ 2 D2 (by decide) (by decide)
        have W3 := W2.oa O3 ha
        have T3 : WR g3 11 q.1 := T2.on O3 (fun k h1 h2 => by omega)
        have d2 := DV (X (X (X q.2))) 2 (by decide)
        have hz : J (V (X (X (X q.2))) 2) = 0 ↔ V (X (X (X q.2))) 2 = 0 := by rw [l_0, J_inj (by omega) (by decide)]
        simp only [e3, Option.bind_some, hz]
        by_cases z3 : V (X (X (X q.2))) 2 = 0
        · simp only [if_pos z3]
          obtain ⟨g4, e4, W4, T4, O4⟩ := ci_endW W3 T3 I z
          refine ⟨g4, fun K => ?_, W4, T4, D3.on O4 (by show ¬ a < 145; omega), (O12.trans (oa O3)).trans (ol O4)⟩
          simp only [x_3 W3.1, Option.bind_some, e4]
        · simp only [if_neg z3]
          obtain ⟨g4, e4, W4, T4, O4⟩ := ci_tidW W3 T3 I z
          refine ⟨g4, fun K => ?_, W4, T4, D3.on O4 (by show ¬ a < 145; omega), (O12.trans (oa O3)).trans (ol O4)⟩
          simp only [x_3 W3.1, Option.bind_some, e4]
  · simp only [if_neg z]
    exact ⟨g2, fun K => rfl, W2, T2, D2, O12⟩
theorem c_yearL (DV : DVp V) (DC : DCp X V) {a N : Nat} {x : Int32} (ha : 145 ≤ a) (I : INV w) (gC : GR1 C) (K : AH → Nat → Option (Int32 × AH)) (hN : N ≤ 40) : ∀ m q k h, CIk h mk tx len w un us kp ks C row hq sq → WR h 11 (yrS X V C w x k).1 → DR h a (yrS X V C w x k).2 → k + m = N → m < q → ∃ h', fX10_years_L36 K q h 0 (J N) a (J k) = K h' 0 ∧ CIk h' mk tx len w un us kp ks C row hq sq ∧ WR h' 11 (yrS X V C w x N).1 ∧ On (fun k => k < 145 ∨ k = a) h h'
  | 0, q + 1, k, h, W, T, D, e, _ => by
    have : k = N := by omega
    subst this
    refine ⟨h, ?_, W, T, On.rf⟩
    rw [fX10_years_L36]
    simp (disch := omega) only [J_le]
    rw [if_pos (by omega)]
  | m + 1, q + 1, k, h, W, T, D, e, hn => by
    obtain ⟨g1, e1, W1, T1, D1, O1⟩ := c_yearT DV DC ha W T D (yrS_inv DV I k) gC
    obtain ⟨g2, e2, W2, T2, O2⟩ := c_yearL DV DC ha I gC K hN m q (k + 1) g1 W1 T1 D1 (by omega) (by omega)
    refine ⟨g2, ?_, W2, T2, O1.trans O2⟩
    have ei : J k + 1 = J (k + 1) := by rw [l_1, J_add]
    rw [fX10_years_L36]
    simp (disch := omega) only [J_le]
    rw [if_neg (by omega)]
    simp only [letF, ei]
    rw [e1 (fun h => fX10_years_L36 K q h 0 (J N) a (J (k + 1)))]
    exact e2
theorem hnew_ne {h : AH} {e : AE} {k : Nat} (hk : k ≠ h.2) : (hnew h e).1 k = h.1 k := by simp [hnew, va_up, hk]
theorem hnew_eq {h : AH} {e : AE} : (hnew h e).1 h.2 = some e := by simp [hnew, va_up]
theorem xc_years (DV : DVp V) (DC : DCp X V) (W : CIk h mk tx len w un us kp ks C row hq sq) (I : INV w) (gC : GR1 C) (h2 : 167 ≤ h.2) (x : Int32) {n : Nat} (hn' : n < 4294967296) : ∃ h' mk', fX10_years h 0 x (J n) = some (J (yrA X V C w x n), h') ∧ CIk h' mk' tx len w un us kp ks C (yrR X V C w x n row) hq sq ∧ Of PC0 h h' := by
  unfold fX10_years yrA yrR
  rw [if_pos (x_h W.1)]
  by_cases hk : 1 ≤ n ∧ n ≤ 40
  · rw [if_neg (fun y => by rw [l_1, J_lt (by omega) (by decide)] at y; omega), if_pos (by rw [l_40, J_le (by omega) (by decide)]; omega)]
    simp only [if_pos hk]
    obtain ⟨g1, e1, W1, R1, O1⟩ := ci_try W
    have s1 : g1.2 = h.2 := O1.1
    have f1 : ∀ k, k ≠ h.2 → (hnew g1 (.inr (0, [.int 0]))).1 k = g1.1 k := fun k hk => hnew_ne (by rw [s1]; exact hk)
    have D0 : (hnew g1 (.inr (0, [.int 0]))).1 h.2 = some (.inr (0, [.int 0])) := by rw [← s1]; exact hnew_eq
    have On1 : On (fun k => k = h.2) (g1.1, (hnew g1 (.inr (0, [.int 0]))).2) (hnew g1 (.inr (0, [.int 0]))) := ⟨rfl, f1⟩
    have W1' : CIk (g1.1, (hnew g1 (.inr (0, [.int 0]))).2) mk tx len w un us kp ks C row hq sq := W1
    have R1' : WR (g1.1, (hnew g1 (.inr (0, [.int 0]))).2) 11 w := R1
    have W2 := W1'.oa On1 (by omega)
    have R2 : WR (hnew g1 (.inr (0, [.int 0]))) 11 w := R1'.on On1 (fun k h1 h2 => by omega)
    have e3 : pF (hnew g1 (.inr (0, [.int 0]))) 0 h.2 0 (.int x) = some (hset (hnew g1 (.inr (0, [.int 0]))) h.2 (.inr (0, [.int x]))) := pF_at D0 (by decide)
    have O3 : On (fun k => k = h.2) (hnew g1 (.inr (0, [.int 0]))) (hset (hnew g1 (.inr (0, [.int 0]))) h.2 (.inr (0, [.int x]))) := (Ot_hset (lo := h.2) (hi := h.2 + 1) ⟨Nat.le_refl _, by omega⟩).on1 rfl
    have D3 : DR (hset (hnew g1 (.inr (0, [.int 0]))) h.2 (.inr (0, [.int x]))) h.2 x := hset_eq
    have W3 := W2.oa O3 (by omega)
    have R3 : WR (hset (hnew g1 (.inr (0, [.int 0]))) h.2 (.inr (0, [.int x]))) 11 w := R2.on O3 (fun k h1 h2 => by omega)
    obtain ⟨g4, e4, W4, R4, O4⟩ := c_yearL DV DC (x := x) (a := h.2) (by omega) I gC (fun h14 x13 =>
            (gR h14 10 x13 8).bind fun x15 =>
            (fX5_clear h14 x15).bind fun q16 =>
            (gR q16 10 x13 8).bind fun x17 =>
            (gR q16 10 x13 3).bind fun x18 =>
            (fX9_objectSet q16 x18).bind fun q19 =>
            (fX5_add q16 x17 (Int32.toInt64 q19)).bind fun q20 =>
            (gR q20 10 x13 8).bind fun x21 =>
            (gR q20 10 x13 3).bind fun x22 =>
            (fX9_spaceSet q20 x22).bind fun q23 =>
            (fX5_add q20 x21 (Int32.toInt64 q23)).bind fun q24 =>
            (gR q24 10 x13 3).bind fun x25 =>
            (fX9_frameTotal q24 x25).bind fun q26 =>
            some ((q26, q24))) hk.2 n FU 0 _ W3 R3 D3 (by omega) (FU_gt (by omega))
    have In := yrS_inv (X := X) (V := V) (C := C) (x := x) DV I n
    obtain ⟨g5, e5, W5, O5⟩ := ci_clr W4
    have R5 := R4.on O5 (fun k h1 h2 => by omega)
    obtain ⟨g6, e6, W6, O6⟩ := ci_add W5 (by simp) (Int32.toInt64 (J ((yrS X V C w x n).1 1 2)))
    have R6 := R5.on O6 (fun k h1 h2 => by omega)
    obtain ⟨g7, e7, W7, O7⟩ := ci_add W6 (by simp) (Int32.toInt64 (J ((yrS X V C w x n).1 1 1)))
    have R7 := R6.on O7 (fun k h1 h2 => by omega)
    have OO : On (fun k => k < 145 ∨ k = h.2) (hnew g1 (.inr (0, [.int 0]))) g7 := (((O3.mono (fun k hk => Or.inr hk)).trans O4).trans (O5.mono (fun k hk => by omega))).trans ((O6.mono (fun k hk => by omega)).trans (O7.mono (fun k hk => by omega)))
    refine ⟨g7, mk, ?_, W7, ?_, fun k hk hP => ?_⟩
    · have i0 : ∀ {hh a}, fX0_init hh a x = (pF hh 0 a 0 (.int x)).bind fun h1 => some h1 := rfl
      have os : fX9_objectSet g5 11 = some (J ((yrS X V C w x n).1 1 2)) := by
        unfold fX9_objectSet
        simp only [wr_h R5, if_true, wr_i2 R5, Option.bind_some]
      have ss : fX9_spaceSet g6 11 = some (J ((yrS X V C w x n).1 1 1)) := by
        unfold fX9_spaceSet
        simp only [wr_h R6, if_true, wr_i0 R6, Option.bind_some]
      rw [x_3 W.1, Option.bind_some, x_2 W.1, Option.bind_some, e1, Option.bind_some]
      simp only [letF, s1, i0, e3, Option.bind_some]
      have e4' : ∀ K : AH → Nat → Option (Int32 × AH), fX10_years_L36 K FU (hset (hnew g1 (.inr (0, [.int 0]))) h.2 (.inr (0, [.int x]))) 0 (J n) h.2 0 = fX10_years_L36 K FU (hset (hnew g1 (.inr (0, [.int 0]))) h.2 (.inr (0, [.int x]))) 0 (J n) h.2 (J 0) := fun K => rfl
      rw [e4', e4]
      simp only [x_8 W4.1, Option.bind_some, e5, x_8 W5.1, x_3 W5.1, os, e6, x_8 W6.1, x_3 W6.1, ss, e7, x_3 W7.1, c_frameTotal R7 In.rg]
    · rw [OO.1]
      show h.2 ≤ g1.2 + 1
      omega
    · have hP' : ¬ k < 145 := hP
      rw [OO.2 k (by omega), f1 k (by omega)]
      exact O1.2 k (by omega)
  · simp only [if_neg hk]
    refine ⟨h, mk, ?_, W, On.rf.of⟩
    by_cases z : 2147483648 ≤ n ∨ n < 1
    · rw [if_pos (by rw [l_1, J_lt (by omega) (by decide)]; omega), m1_J]
    · rw [if_neg (fun y => by rw [l_1, J_lt (by omega) (by decide)] at y; omega), if_neg (fun y => by rw [l_40, J_le (by omega) (by decide)] at y; omega), m1_J]
/-! by the reference -/
theorem ob_inv {c N a : Nat} {F : Nat → Value} (W : OBJ c N h a F) {k : Nat} (hk : k < N) {x : Int32} (e : gI h c a k = some x) : F k = .int x := by
  obtain ⟨fs, c1, l, s⟩ := W
  unfold gI gF at e
  rw [c1] at e
  simp only [if_true] at e
  rw [s k hk] at e
  cases hF : F k with
  | int y =>
    rw [hF] at e
    have : some y = some x := e
    cases this
    rfl
  | _ => rw [hF] at e; cases e
theorem y_draw (DM : DMp X V) (W : MIv h tx len w un us kp ks ρ rn row hq sq) {x : Int32} (D : gI h 11 145 33 = some x) {n : Nat} (h0 : 0 < n) (hn : n < 2147483648) : ∃ h', fX11_draw h 145 (J n) = some (J (V (X x) n), h') ∧ MIv h' tx len w un us kp ks ρ rn row hq sq ∧ gI h' 11 145 33 = some (X x) ∧ On (fun k => k = 145) h h' := by
  have W0 := W
  obtain ⟨w1, w2, w3, w4, w5, w6, w7, w8, w9, w10⟩ := W
  obtain ⟨g, e, M, F5, O⟩ := y_p w1 (k := 33) (by unfold NF; omega) (.int (X x))
  have D1 : gI g 11 145 33 = some (X x) := by
    unfold gI
    rw [F5]
  exact ⟨g, DM h g x n (y_h W0.1) D e D1 h0 hn, ⟨M, w2.on O (by omega), w3.on O (by omega), w4.on O (by omega), w5.on O (by omega) (by omega), w6.on O (by omega), w7.on O (by omega), w8.on O (by omega) (by omega), w9.on O (by omega) (by omega) (by omega), w10.on O (fun k hk => by omega)⟩, D1, O⟩
theorem y_tryW {τ : ST} {x : Int32} (W : MIv h tx len w un us kp ks ρ rn row hq sq) (D : gI h 11 145 33 = some x) (T : RA h 155 τ) (I : INV τ) (L : RLR C ρ rn) {s p v : Nat} (h0 : hs τ s = true) (hp : p < 8) (hv : v < 100) : ∃ g, fX11_tryWrite h 145 155 (J s) (J p) (J v) = some (decide (wrN τ s p = 0), g) ∧ MIv g tx len w un us kp ks ρ rn row hq sq ∧ RA g 155 (wrA C τ s p v).2 ∧ gI g 11 145 33 = some x ∧ On PM0 h g := by
  obtain ⟨F, X, mf⟩ := mi_rcx W
  obtain ⟨g, F', e, R, X', f, O⟩ := m_tryWrite (m := 145) (A := 155) (P := 150) (Q := 152) (by decide) (by decide) (by decide) (by decide) (by decide) (by decide) X L T I h0 hp hv
  refine ⟨g, e, rcx_mi (A := 155) W mf X' f O (Or.inr rfl) (W.2.2.1.on O (by omega)) R.cel, R, ?_, mon O (fun k hk => by omega)⟩
  have := ob_inv X.1 (k := 33) (by decide) D
  exact ob_i X'.1 (by decide) ((f 33 (by unfold WF; omega)).trans this)
theorem y_tidW {τ : ST} {x : Int32} (W : MIv h tx len w un us kp ks ρ rn row hq sq) (D : gI h 11 145 33 = some x) (T : RA h 155 τ) (I : INV τ) {s : Nat} (h0 : hs τ s = true) : ∃ g, fX11_goTidy h 145 155 (J s) = some g ∧ MIv g tx len w un us kp ks ρ rn row hq sq ∧ RA g 155 (tidS τ s).1 ∧ gI g 11 145 33 = some x ∧ On PM0 h g := by
  obtain ⟨rk, IV, H⟩ := I
  have W0 := W
  obtain ⟨⟨F, M, mf⟩, w2⟩ := W
  obtain ⟨g, e, R, M', -, -, O⟩ := m_tidy (show (145 : Nat) ≠ 155 by decide) T M IV H h0
  have := ob_inv M (k := 33) (by decide) D
  exact ⟨g, e, W0.p155o (O.mono (fun k hk => hk)) ⟨_, M', (mf.p (k := 21) (by unfold NF; omega) _).p (k := 22) (by unfold NF; omega) _⟩ R.cel, R, ob_i M' (by decide) (by rw [fput_ne (by decide), fput_ne (by decide)]; exact this), mon O (fun k hk => by omega)⟩
theorem y_yearT (DV : DVp V) (DM : DMp X V) {q : ST × Int32} (W : MIv h tx len w un us kp ks ρ rn row hq sq) (T : RA h 155 q.1) (D : gI h 11 145 33 = some q.2) (I : INV q.1) (L : RLR C ρ rn) {n k : Nat} {K : AH → Nat → Option (Int32 × AH)} {N : Int32} (hN : ¬ N ≤ J k) : ∃ g, fX11_years_L36 K (n + 1) h 145 N (J k) = fX11_years_L36 K n g 145 N (J (k + 1)) ∧ MIv g tx len w un us kp ks ρ rn row hq sq ∧ RA g 155 (yrT X V C q).1 ∧ gI g 11 145 33 = some (yrT X V C q).2 ∧ On PM0 h g := by
  have om : ∀ {g1 g2 : AH}, On (fun k => k = 145) g1 g2 → On PM0 g1 g2 := fun O => mon O (fun k hk => by omega)
  obtain ⟨g1, e1, W1, D1, O1⟩ := y_draw DM W D (n := 4) (by decide) (by decide)
  have T1 : RA g1 155 q.1 := T.on O1 (by decide)
  obtain ⟨g2, e2, W2, D2, O2⟩ := y_draw DM W1 D1 (n := 6) (by decide) (by decide)
  have T2 : RA g2 155 q.1 := T1.on O2 (by decide)
  have d4 := DV (X q.2) 4 (by decide)
  have d6 := DV (X (X q.2)) 6 (by decide)
  have e1' : fX11_draw h 145 4 = some (J (V (X q.2) 4), g1) := e1
  have e2' : fX11_draw g1 145 6 = some (J (V (X (X q.2)) 6), g2) := e2
  have O12 := (om O1).trans (om O2)
  have ei : J k + 1 = J (k + 1) := by rw [l_1, J_add]
  have hh := m_hs T2 I.rg (show V (X (X q.2)) 6 < 4294967296 by omega)
  rw [fX11_years_L36, if_neg hN]
  simp only [e1', Option.bind_some, e2', y_20 W2.1, hh, letF, ei]
  unfold yrT
  generalize V (X q.2) 4 = d at *
  generalize V (X (X q.2)) 6 = s at *
  by_cases z : hs q.1 s = true
  · simp only [if_pos z]
    simp (disch := omega) only [l_2, J_le, J_inj]
    by_cases z1 : d < 2
    · rw [if_neg (by omega)]
      simp only [if_pos z1]
      obtain ⟨g3, e3, W3, D3, O3⟩ := y_draw DM W2 D2 (n := 8) (by decide) (by decide)
      have T3 : RA g3 155 q.1 := T2.on O3 (by decide)
      obtain ⟨g4, e4, W4, D4, O4⟩ := y_draw DM W3 D3 (n := 100) (by decide) (by decide)
      have T4 : RA g4 155 q.1 := T3.on O4 (by decide)
      have d8 := DV (X (X (X q.2))) 8 (by decide)
      have d100 := DV (X (X (X (X q.2)))) 100 (by decide)
      have e3' : fX11_draw g2 145 8 = some (J (V (X (X (X q.2))) 8), g3) := e3
      have e4' : fX11_draw g3 145 100 = some (J (V (X (X (X (X q.2)))) 100), g4) := e4
      obtain ⟨g5, e5, W5, T5, D5, O5⟩ := y_tryW W4 D4 T4 I L z d8 d100
      refine ⟨g5, ?_, W5, T5, D5, ((O12.trans (om O3)).trans (om O4)).trans O5⟩
      simp only [e3', Option.bind_some, y_20 W3.1, e4', e5]
    · rw [if_pos (by omega)]
      simp only [if_neg z1]
      by_cases z2 : d = 2
      · simp only [if_pos z2]
        obtain ⟨f1, f2, f3⟩ := frkN_ok (s := s) I.rg
        have er := m_refK T2 I.rg I.gr (show s < 4294967296 by omega)
        rw [rfK_eq] at er
        simp only [er, Option.bind_some]
        by_cases z3 : frkN q.1 s < 6
        · simp only [if_pos z3]
          obtain ⟨g3, e3, T3, O3⟩ := m_fork T2 I (f1.mpr z3)
          obtain ⟨W3, O3'⟩ := W2.o155 O3 T3
          refine ⟨g3, ?_, W3, T3, ?_, O12.trans O3'⟩
          · rw [if_pos (show J 0 = 0 from rfl)]
            simp only [Option.bind_some, e3]
          · rw [gI_on (O3.on1 (P := fun k => k = 155) rfl) (by decide)]
            exact D2
        · simp only [if_neg z3]
          have nk := f2 (fun y => z3 (f1.mp y))
          refine ⟨g2, ?_, W2, T2, D2, O12⟩
          rw [if_neg (fun y => by rw [l_0, J_inj (by omega) (by decide)] at y; omega)]
      · simp only [if_neg z2]
        obtain ⟨g3, e3, W3, D3, O3⟩ := y_draw DM W2 D2 (n := 2) (by decide) (by decide)
        have T3 : RA g3 155 q.1 := T2.on O3 (by decide)
        have d2 := DV (X (X (X q.2))) 2 (by decide)
        have hz : J (V (X (X (X q.2))) 2) = 0 ↔ V (X (X (X q.2))) 2 = 0 := by rw [l_0, J_inj (by omega) (by decide)]
        simp only [e3, Option.bind_some, hz]
        by_cases z3 : V (X (X (X q.2))) 2 = 0
        · simp only [if_pos z3]
          obtain ⟨g4, e4, T4, O4⟩ := m_end T3 I (hs_lt z).1
          obtain ⟨W4, O4'⟩ := W3.o155 O4 T4
          refine ⟨g4, ?_, W4, T4, ?_, (O12.trans (om O3)).trans O4'⟩
          · simp only [y_20 W3.1, Option.bind_some, e4]
          · rw [gI_on (O4.on1 (P := fun k => k = 155) rfl) (by decide)]
            exact D3
        · simp only [if_neg z3]
          obtain ⟨g4, e4, W4, T4, D4, O4⟩ := y_tidW W3 D3 T3 I z
          refine ⟨g4, ?_, W4, T4, D4, (O12.trans (om O3)).trans O4⟩
          simp only [y_20 W3.1, Option.bind_some, e4]
  · simp only [if_neg z]
    exact ⟨g2, rfl, W2, T2, D2, O12⟩
theorem y_yearL (DV : DVp V) (DM : DMp X V) {N : Nat} {x : Int32} (I : INV w) (L : RLR C ρ rn) (K : AH → Nat → Option (Int32 × AH)) (hN : N ≤ 40) : ∀ m q k h, MIv h tx len w un us kp ks ρ rn row hq sq → RA h 155 (yrS X V C w x k).1 → gI h 11 145 33 = some (yrS X V C w x k).2 → k + m = N → m < q → ∃ h', fX11_years_L36 K q h 145 (J N) (J k) = K h' 145 ∧ MIv h' tx len w un us kp ks ρ rn row hq sq ∧ RA h' 155 (yrS X V C w x N).1 ∧ On PM0 h h'
  | 0, q + 1, k, h, W, T, D, e, _ => by
    have : k = N := by omega
    subst this
    refine ⟨h, ?_, W, T, On.rf⟩
    rw [fX11_years_L36]
    simp (disch := omega) only [J_le]
    rw [if_pos (by omega)]
  | m + 1, q + 1, k, h, W, T, D, e, hn => by
    obtain ⟨g1, e1, W1, T1, D1, O1⟩ := y_yearT DV DM W T D (yrS_inv DV I k) L (n := q) (k := k) (K := K) (N := J N) (fun y => by rw [J_le (by omega) (by omega)] at y; omega)
    obtain ⟨g2, e2, W2, T2, O2⟩ := y_yearL DV DM I L K hN m q (k + 1) g1 W1 T1 D1 (by omega) (by omega)
    exact ⟨g2, e1.trans e2, W2, T2, O1.trans O2⟩
theorem xm_years (DV : DVp V) (DM : DMp X V) (W : MIv h tx len w un us kp ks ρ rn row hq sq) (I : INV w) (L : RLR C ρ rn) (x : Int32) {n : Nat} (hn' : n < 4294967296) : ∃ h', fX11_years h 145 x (J n) = some (J (yrA X V C w x n), h') ∧ MIv h' tx len w un us kp ks ρ rn (yrR X V C w x n row) hq sq ∧ On PM0 h h' := by
  obtain ⟨g0, e0, W0, -, O0⟩ := mi_t0 W
  have O0' : On PM0 h g0 := mon O0 (fun k hk => by omega)
  have i5 : fX11_in g0 (J n) 1 40 = some (decide (1 ≤ n) && decide (n ≤ 40)) := by
    rw [l_1, l_40, m_in hn' (by decide) (by decide)]
  unfold fX11_years yrA yrR
  simp only [y_h W.1, if_true, e0, Option.bind_some, i5, Bool.and_eq_true, decide_eq_true_eq]
  by_cases hk : 1 ≤ n ∧ n ≤ 40
  · simp only [if_pos hk]
    have W0' := W0
    obtain ⟨w1, w2, w3, w4, w5, w6, w7, w8, w9, w10⟩ := W0'
    obtain ⟨ga, ea, Ma, Fa, Oa⟩ := y_p w1 (k := 33) (by unfold NF; omega) (.int x)
    have Da : gI ga 11 145 33 = some x := by
      unfold gI
      rw [Fa]
    have Wa : MIv ga tx len w un us kp ks ρ rn row hq sq := ⟨Ma, w2.on Oa (by omega), w3.on Oa (by omega), w4.on Oa (by omega), w5.on Oa (by omega) (by omega), w6.on Oa (by omega), w7.on Oa (by omega), w8.on Oa (by omega) (by omega), w9.on Oa (by omega) (by omega) (by omega), w10.on Oa (fun k hk => by omega)⟩
    obtain ⟨g1, e1, W1, R1, O1⟩ := mi_try Wa
    have D1 : gI g1 11 145 33 = some x := by
      rw [gI_on O1 (by decide)]
      exact Da
    obtain ⟨g2, e2, W2, R2, O2⟩ := y_yearL DV DM (x := x) I L (fun h31 x30 =>
            (pF h31 11 x30 4 (.int 0)).bind fun h32 =>
            (gR h32 11 x30 20).bind fun x33 =>
            (fX11_objectsOf h32 x33).bind fun q34 =>
            (fX11_tell h32 x30 (Int32.toInt64 q34)).bind fun q35 =>
            (gR q35 11 x30 20).bind fun x36 =>
            (fX11_spacesOf q35 x36).bind fun q37 =>
            (fX11_tell q35 x30 (Int32.toInt64 q37)).bind fun q38 =>
            (gR q38 11 x30 20).bind fun x39 =>
            (fX11_framesOf q38 x39).bind fun q40 =>
            some ((q40, q38))) hk.2 n FU 0 g1 W1 R1 D1 (by omega) (FU_gt (by omega))
    have In := yrS_inv (X := X) (V := V) (C := C) (x := x) DV I n
    obtain ⟨g3, e3, W3, O3⟩ := mi_clr W2
    have R3 := R2.on O3 (by decide)
    obtain ⟨g4, e4, W4, O4⟩ := mi_tell W3 (by simp) (Int32.toInt64 (J ((yrS X V C w x n).1 1 2)))
    have R4 := R3.on O4 (by decide)
    obtain ⟨g5, e5, W5, O5⟩ := mi_tell W4 (by simp) (Int32.toInt64 (J ((yrS X V C w x n).1 1 1)))
    have R5 := R4.on O5 (by decide)
    refine ⟨g5, ?_, W5, (((((O0'.trans (mon Oa (fun k hk => by omega))).trans (mon O1 (fun k hk => by omega))).trans O2).trans (mon O3 (fun k hk => by omega))).trans (mon O4 (fun k hk => by omega))).trans (mon O5 (fun k hk => by omega))⟩
    have e2' : ∀ K : AH → Nat → Option (Int32 × AH), fX11_years_L36 K FU g1 145 (J n) 0 = fX11_years_L36 K FU g1 145 (J n) (J 0) := fun K => rfl
    rw [ea, Option.bind_some, y_0 Wa.1, Option.bind_some, y_20 Wa.1, Option.bind_some, e1, Option.bind_some, e2', e2]
    rw [e3, Option.bind_some, y_20 W3.1, Option.bind_some, m_objects R3 In.rg, Option.bind_some, e4, Option.bind_some, y_20 W4.1, Option.bind_some, m_spaces R4 In.rg, Option.bind_some, e5, Option.bind_some, y_20 W5.1, Option.bind_some, m_frames R5 In.rg, Option.bind_some]
  · simp only [if_neg hk]
    rw [m1_J]
    exact ⟨g0, rfl, W0, O0'⟩
end YR
