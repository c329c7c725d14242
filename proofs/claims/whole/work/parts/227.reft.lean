/-! an object by its fields; what is changed, by a predicate -/
def OBJ (c N : Nat) (h : AH) (a : Nat) (F : Nat → Value) : Prop := ∃ fs, h.1 a = some (.inr (c, fs)) ∧ fs.length = N ∧ ∀ k, k < N → fs[k]? = some (F k)
def fput (F : Nat → Value) (k : Nat) (v : Value) : Nat → Value := fun j => if j = k then v else F j
theorem fput_eq {F : Nat → Value} {k : Nat} {v : Value} : fput F k v k = v := by simp [fput]
theorem fput_ne {F : Nat → Value} {k j : Nat} {v : Value} (h : j ≠ k) : fput F k v j = F j := by simp [fput, h]
theorem fput_id {F : Nat → Value} {k : Nat} {v : Value} (h : F k = v) : fput F k v = F := by
  funext j
  unfold fput
  by_cases e : j = k
  · rw [if_pos e, e, h]
  · rw [if_neg e]
theorem fput_fput {F : Nat → Value} {k : Nat} {v w : Value} : fput (fput F k v) k w = fput F k w := by
  funext j
  unfold fput
  by_cases e : j = k
  · rw [if_pos e, if_pos e]
  · rw [if_neg e, if_neg e, if_neg e]
theorem fput_comm {F : Nat → Value} {k l : Nat} {v w : Value} (h : k ≠ l) : fput (fput F k v) l w = fput (fput F l w) k v := by
  funext j
  unfold fput
  by_cases e : j = k
  · have : j ≠ l := by omega
    rw [if_pos e, if_neg this, if_pos e]
  · rw [if_neg e, if_neg e]
def On (P : Nat → Prop) (h h' : AH) : Prop := h'.2 = h.2 ∧ ∀ k, ¬ P k → h'.1 k = h.1 k
theorem On.rf {P : Nat → Prop} {h : AH} : On P h h := ⟨rfl, fun _ _ => rfl⟩
theorem On.trans {P : Nat → Prop} {h h1 h2 : AH} (a : On P h h1) (b : On P h1 h2) : On P h h2 := ⟨b.1.trans a.1, fun k hk => (b.2 k hk).trans (a.2 k hk)⟩
theorem On.mono {P Q : Nat → Prop} {h h1 : AH} (a : On P h h1) (i : ∀ k, P k → Q k) : On Q h h1 := ⟨a.1, fun k hk => a.2 k (fun z => hk (i k z))⟩
theorem Ot.on {lo hi : Nat} {h h1 : AH} {P : Nat → Prop} (a : Ot lo hi h h1) (i : ∀ k, lo ≤ k → k < hi → P k) : On P h h1 := ⟨a.1, fun k hk => a.2 k (by
  by_cases h1 : k < lo
  · exact Or.inl h1
  · by_cases h2 : hi ≤ k
    · exact Or.inr h2
    · exact absurd (i k (by omega) (by omega)) hk)⟩
theorem Ot.on1 {a : Nat} {h h1 : AH} {P : Nat → Prop} (O : Ot a (a + 1) h h1) (i : P a) : On P h h1 := O.on fun k h1 h2 => by
  have : k = a := by omega
  rw [this]; exact i
theorem i2z_b2i (b : Bool) : i2z (b2i b) = some b := by cases b <;> rfl
section OBJ
variable {c N : Nat} {h : AH} {a : Nat} {F : Nat → Value}
theorem ob_h (W : OBJ c N h a F) : hasC h c a = true := by
  obtain ⟨fs, C, -⟩ := W
  exact hasC_at C
theorem ob_i (W : OBJ c N h a F) {k : Nat} (hk : k < N) {x : Int32} (e : F k = .int x) : gI h c a k = some x := by
  obtain ⟨fs, C, -, S⟩ := W
  exact gI_at C ((S k hk).trans (by rw [e]))
theorem ob_r (W : OBJ c N h a F) {k : Nat} (hk : k < N) {x : Nat} (e : F k = .ref x) : gR h c a k = some x := by
  obtain ⟨fs, C, -, S⟩ := W
  exact gR_at C ((S k hk).trans (by rw [e]))
theorem ob_z (W : OBJ c N h a F) {k : Nat} (hk : k < N) {b : Bool} (e : F k = .int (b2i b)) : gZ h c a k = some b := by
  obtain ⟨fs, C, -, S⟩ := W
  unfold gZ gF
  rw [C]
  simp only [if_true, S k hk, e]
  exact i2z_b2i b
theorem ob_p (W : OBJ c N h a F) {k : Nat} (hk : k < N) (v : Value) : ∃ h', pF h c a k v = some h' ∧ OBJ c N h' a (fput F k v) ∧ Ot a (a + 1) h h' := by
  obtain ⟨fs, C, L, S⟩ := W
  refine ⟨_, pF_at C (by omega), ⟨fs.set k v, hset_eq, by rw [List.length_set]; exact L, fun j hj => ?_⟩, Ot_hset ⟨Nat.le_refl _, by omega⟩⟩
  by_cases e : j = k
  · subst e
    rw [fput_eq, List.getElem?_set_self (by omega)]
  · rw [fput_ne e, List.getElem?_set_ne (Ne.symm e)]
    exact S j hj
theorem OBJ.on {h' : AH} {P : Nat → Prop} (W : OBJ c N h a F) (O : On P h h') (hP : ¬ P a) : OBJ c N h' a F := by
  obtain ⟨fs, C, S⟩ := W
  exact ⟨fs, (O.2 a hP).trans C, S⟩
theorem OBJ.ot {h' : AH} {lo hi : Nat} (W : OBJ c N h a F) (O : Ot lo hi h h') (hP : a < lo ∨ hi ≤ a) : OBJ c N h' a F := by
  obtain ⟨fs, C, S⟩ := W
  exact ⟨fs, (O.2 a hP).trans C, S⟩
end OBJ
theorem RA.on {h h' : AH} {A : Nat} {σ : ST} {P : Nat → Prop} (W : RA h A σ) (O : On P h h') (hP : ¬ P A) : RA h' A σ := by
  obtain ⟨a, C, S⟩ := W
  exact ⟨a, (O.2 A hP).trans C, S⟩
/-! tidying, by the reference -/
def MM (rk : Nat → Nat) (σ : ST) (x : Nat) : Nat := if σ 4 x < 24 then cnt (fun i => decide (rk i ≤ rk (σ 4 x))) 24 else 0
theorem MM_dec {rk : Nat → Nat} {σ τ : ST} {x x' : Nat} (hy : σ 4 x < 24) (hz : τ 4 x' < 24 → rk (τ 4 x') < rk (σ 4 x)) : MM rk τ x' < MM rk σ x := by
  unfold MM
  rw [if_pos hy]
  by_cases h : τ 4 x' < 24
  · rw [if_pos h]
    have h1 := hz h
    refine cnt_lt (p := σ 4 x) (fun i hi => ?_) (decide_eq_false (by omega)) (decide_eq_true (Nat.le_refl _)) hy
    have : rk i ≤ rk (τ 4 x') := of_decide_eq_true hi
    exact decide_eq_true (by omega)
  · rw [if_neg h]
    exact Nat.pos_of_ne_zero (cnt_pos hy (decide_eq_true (Nat.le_refl _)))
theorem MM_0 {rk : Nat → Nat} {σ : ST} {x : Nat} (h : MM rk σ x ≤ 0) (h4 : σ 4 x ≤ 24) : σ 4 x = 24 := by
  by_cases e : σ 4 x < 24
  · exfalso
    unfold MM at h
    rw [if_pos e] at h
    exact cnt_pos e (f := fun i => decide (rk i ≤ rk (σ 4 x))) (decide_eq_true (Nat.le_refl _)) (Nat.le_zero.mp h)
  · omega
section MT
variable {h : AH} {A m : Nat} {σ : ST} {F : Nat → Value} {rk : Nat → Nat}
theorem m_isCopy (W : RA h A σ) (R : RG σ) {y : Nat} (hy : y < 24) : fX11_isCopy h A (J y) = some (cpd σ y) := by
  unfold fX11_isCopy cpd
  rw [l_0]
  have e : ∀ m q k, k + m = 24 → m < q → fX11_isCopy_L2 h q A (J y) (J k) = some (exB (fun k => decide (σ 5 k = y)) m k) := by
    intro m
    induction m with
    | zero =>
      intro q k h1 h2
      obtain ⟨q, rfl⟩ : ∃ x, q = x + 1 := ⟨q - 1, by omega⟩
      rw [fX11_isCopy_L2]
      simp (disch := omega) only [l_24, J_le]
      rw [if_pos (by omega)]
      rfl
    | succ m ih =>
      intro q k h1 h2
      obtain ⟨q, rfl⟩ : ∃ x, q = x + 1 := ⟨q - 1, by omega⟩
      have r1 := (R.2.2.1 k (by omega)).2.2.2.1
      have r2 := nn_lt r1
      rw [fX11_isCopy_L2]
      simp (disch := omega) only [l_24, J_le, l_264, J_add, ra_cp W, Option.bind_some, J_inj, nn_eq hy r1]
      rw [if_neg (by omega)]
      unfold exB
      by_cases h3 : σ 5 k = y
      · rw [if_pos h3, decide_eq_true h3]
        rfl
      · rw [if_neg h3, decide_eq_false h3, Bool.false_or]
        simp only [letF]
        rw [l_1, J_add]
        exact ih q (k + 1) (by omega) (by omega)
  exact e 24 FU 0 rfl (FU_gt (by decide))
theorem m_byp (hmA : m ≠ A) (W : RA h A σ) (M : OBJ 11 36 h m F) {b : Nat} (e22 : F 22 = .int (J b)) (I : IV1 rk σ) (H : HL σ) {x nx : Nat} (hx : ho σ x = true) (hy : ho σ (σ 4 x) = true) (hn : nx = 24 ∨ (nx = σ 4 (σ 4 x) ∧ σ 2 (σ 4 x) = 0)) : ∃ h', fX11_goBypass h m A (J x) (J (nn nx)) = some h' ∧ RA h' A (bypS σ x nx) ∧ OBJ 11 36 h' m (fput F 22 (.int (J (b + 1)))) ∧ HL (bypS σ x nx) ∧ On (fun k => k = A ∨ k = m) h h' := by
  obtain ⟨x1, x2⟩ := ho_lt hx
  obtain ⟨y1, y2⟩ := ho_lt hy
  have R := I.1
  have hn24 : nx ≤ 24 := by
    rcases hn with hn | hn
    · omega
    · rw [hn.1]; exact (R.2.2.1 _ y1).2.2.1
  have nl := nn_lt hn24
  have R1 := rg_put4 R x2 hn24
  obtain ⟨g1, e1, W1, O1⟩ := rw_sh W x1 nx
  have I0 := iv_by0 I hx hy hn
  have N0 := nz_by0 (σ := σ) (x := x) (nx := nx) H
  have key : ∀ g2, RA g2 A (by0 σ x nx) → Ot A (A + 1) h g2 → ∃ h', fX11_goBypass_J19 g2 m A = some h' ∧ RA h' A (bypS σ x nx) ∧ OBJ 11 36 h' m (fput F 22 (.int (J (b + 1)))) ∧ HL (bypS σ x nx) ∧ On (fun k => k = A ∨ k = m) h h' := by
    intro g2 W2 O2
    have M2 := M.ot O2 (by omega)
    obtain ⟨g3, e3, M3, O3⟩ := ob_p M2 (k := 22) (by decide) (.int (J (b + 1)))
    have W3 := W2.frame O3 (by omega)
    obtain ⟨g4, e4, W4, H4, O4⟩ := m_free W3 I0.1 N0
    refine ⟨g4, ?_, W4, M3.ot O4 (by omega), H4, ((O2.on1 (Or.inl rfl)).trans (O3.on1 (Or.inr rfl))).trans (O4.on1 (Or.inl rfl))⟩
    unfold fX11_goBypass_J19
    simp only [ob_i M2 (k := 22) (by decide) e22, Option.bind_some, l_1, J_add, e3, e4]
  unfold fX11_goBypass
  simp (disch := omega) only [ob_h M, if_true, l_192, J_add, e1, Option.bind_some, m1_J, J_inj, nn_m1 hn24]
  by_cases e : nx = 24
  · obtain ⟨g2, e2, W2, O2⟩ := m_forget W1 R1 x1 (x := 24) (Nat.le_refl _)
    rw [nn_24] at e2
    rw [if_pos e, e2]
    have eb : pasS (put σ 4 x nx) x 24 24 = by0 σ x nx := by unfold by0; rw [if_pos e]
    rw [eb] at W2
    exact key g2 W2 (O1.trans O2)
  · rw [if_neg e]
    have eb : put σ 4 x nx = by0 σ x nx := by unfold by0; rw [if_neg e]
    rw [eb] at W1
    exact key g1 W1 O1
theorem m_col_L (K : AH → Nat → Int32 → Int32 → Option AH) (R : RG σ) {x y : Nat} (hx : ho σ x = true) (hy : ho σ y = true) : ∀ q n k h, k + q = 8 → q < n → RA h A (colS σ x y k) → ∃ h', fX11_goCollapse_L2 K n h A (J x) (J y) (J k) = K h' A (J x) (J y) ∧ RA h' A (colS σ x y 8) ∧ Ot A (A + 1) h h'
  | 0, n + 1, k, h, h1, h2, W => by
    have : k = 8 := by omega
    subst this
    refine ⟨h, ?_, W, Ot.rf⟩
    rw [fX11_goCollapse_L2]
    simp (disch := omega) only [l_8, J_le]
    rw [if_pos (by omega)]
  | q + 1, n + 1, k, h, h1, h2, W => by
    obtain ⟨x1, x2⟩ := ho_lt hx
    obtain ⟨y1, y2⟩ := ho_lt hy
    have hk : k < 8 := by omega
    have R1 := rg_col R hx y1 k (by omega)
    have e1 : J k + 1 = J (k + 1) := by rw [l_1, J_add]
    rw [fX11_goCollapse_L2]
    simp (disch := omega) only [l_8, J_le]
    rw [if_neg (by omega)]
    simp (disch := omega) only [m_hd W R1, Option.bind_some, letF, e1]
    have ex : hd (colS σ x y k) x k = (colS σ x y k 8 x).testBit k := by unfold hd; rw [decide_eq_true x1, decide_eq_true hk]; rfl
    have ey : hd (colS σ x y k) y k = (colS σ x y k 8 y).testBit k := by unfold hd; rw [decide_eq_true y1, decide_eq_true hk]; rfl
    have es : colS σ x y (k + 1) = if hd (colS σ x y k) y k = true ∧ ¬ hd (colS σ x y k) x k = true then holdS (colS σ x y k) x k (colS σ x y k 6 (8 * y + k)) else colS σ x y k := rfl
    rw [ex, ey] at es
    by_cases e3 : (colS σ x y k 8 x).testBit k = true
    · rw [if_neg (fun z => z.2 e3)] at es
      rw [if_pos e3]
      exact m_col_L K R hx hy q n (k + 1) h (by omega) (by omega) (by rw [es]; exact W)
    · rw [if_neg e3]
      simp (disch := omega) only [J_mul, J_add, ra_pg W y1 hk, Option.bind_some]
      by_cases e2 : (colS σ x y k 8 y).testBit k = true
      · rw [if_pos ⟨e2, e3⟩] at es
        have ep : pv (colS σ x y k) y k = colS σ x y k 6 (8 * y + k) := by unfold pv; rw [if_pos e2]
        rw [ep]
        obtain ⟨g1, f1, W1, O1⟩ := rw_pg W x1 hk (colS σ x y k 6 (8 * y + k))
        obtain ⟨g2, f2, W2, O2⟩ := m_col_L K R hx hy q n (k + 1) g1 (by omega) (by omega) (by rw [es]; exact W1)
        refine ⟨g2, ?_, W2, O1.trans O2⟩
        rw [f1]
        exact f2
      · rw [if_neg (fun z => e2 z.1)] at es
        have ep : pv (colS σ x y k) y k = 4294967295 := by unfold pv; rw [if_neg e2]
        have eq : pv (colS σ x y k) x k = 4294967295 := by unfold pv; rw [if_neg e3]
        rw [ep]
        have rd := ra_pg W x1 hk
        rw [eq] at rd
        obtain ⟨g1, f1, W1, O1⟩ := rw_same W (show 8 * x + k < 325 by omega) rd
        obtain ⟨g2, f2, W2, O2⟩ := m_col_L K R hx hy q n (k + 1) g1 (by omega) (by omega) (by rw [es]; exact W1)
        refine ⟨g2, ?_, W2, O1.trans O2⟩
        rw [f1]
        exact f2
theorem m_col (W : RA h A σ) (R : RG σ) {x y : Nat} (hx : ho σ x = true) (hy : ho σ y = true) : ∃ h', fX11_goCollapse h A (J x) (J y) = some h' ∧ RA h' A (clpS σ x y) ∧ Ot A (A + 1) h h' := by
  obtain ⟨x1, x2⟩ := ho_lt hx
  obtain ⟨y1, y2⟩ := ho_lt hy
  have R1 := rg_col R hx y1 8 (Nat.le_refl _)
  have e4 : colS σ x y 8 4 y = σ 4 y := col_f (by decide) (by decide) y 8
  have R2 := rg_put4 R1 (o := x) (v := σ 4 y) (by rw [col_f (by decide) (by decide)]; exact x2) (R.2.2.1 y y1).2.2.1
  unfold fX11_goCollapse
  rw [l_0]
  obtain ⟨g1, f1, W1, O1⟩ := m_col_L (A := A) (fun h9 x6 x7 x8 =>
      (aI h9 0 x6 (192 + x8)).bind fun x10 =>
      (sI h9 0 x6 (192 + x7) x10).bind fun h11 =>
      (fX11_forgetCopy h11 x6 x8 x7).bind fun q12 =>
      (fX11_clear q12 x6 x8).bind fun q13 =>
      some q13) R hx hy 8 FU 0 h rfl (FU_gt (by decide)) W
  obtain ⟨g2, f2, W2, O2⟩ := rw_sh W1 x1 (σ 4 y)
  obtain ⟨g3, g4, f3, f4, W4, O4⟩ := m_remove W2 R2 y1 (x := x) (Nat.le_of_lt x1)
  rw [nn_id x1] at f3
  refine ⟨g4, ?_, W4, (O1.trans O2).trans O4⟩
  rw [f1]
  simp (disch := omega) only [l_192, J_add, ra_sh W1, e4, Option.bind_some, f2, f3, f4]
theorem m_td_L (hmA : m ≠ A) : ∀ k n h (σ : ST) x c b F, MM rk σ x ≤ k → k < n → RA h A σ → OBJ 11 36 h m F → F 21 = .int (J c) → F 22 = .int (J b) → IV1 rk σ → HL σ → ho σ x = true → ∃ h', fX11_goTidy_L18 n h m A (J x) = some h' ∧ RA h' A (tdS k σ x c b).1 ∧ OBJ 11 36 h' m (fput (fput F 21 (.int (J (tdS k σ x c b).2.1))) 22 (.int (J (tdS k σ x c b).2.2))) ∧ IV1 rk (tdS k σ x c b).1 ∧ HL (tdS k σ x c b).1 ∧ On (fun k => k = A ∨ k = m) h h' := by
  have stop : ∀ k n h (σ : ST) x c b F, σ 4 x = 24 → RA h A σ → OBJ 11 36 h m F → F 21 = .int (J c) → F 22 = .int (J b) → IV1 rk σ → HL σ → ho σ x = true → ∃ h', fX11_goTidy_L18 (n + 1) h m A (J x) = some h' ∧ RA h' A (tdS k σ x c b).1 ∧ OBJ 11 36 h' m (fput (fput F 21 (.int (J (tdS k σ x c b).2.1))) 22 (.int (J (tdS k σ x c b).2.2))) ∧ IV1 rk (tdS k σ x c b).1 ∧ HL (tdS k σ x c b).1 ∧ On (fun k => k = A ∨ k = m) h h' := by
    intro k n h σ x c b F e4 W M e21 e22 I H hx
    have et : tdS k σ x c b = (σ, c, b) := by
      cases k with
      | zero => rfl
      | succ k =>
        unfold tdS
        rw [if_neg (fun z => ho_24 (by rw [← e4]; exact z.2))]
    rw [et]
    refine ⟨h, ?_, W, ?_, I, H, On.rf⟩
    · rw [fX11_goTidy_L18]
      have x1 := (ho_lt hx).1
      simp (disch := omega) only [l_192, J_add, ra_sh W, Option.bind_some, e4, nn_24, m1_J, if_true]
    · rw [fput_id e21, fput_id e22]
      exact M
  intro k
  induction k with
  | zero =>
    intro n h σ x c b F hM hn W M e21 e22 I H hx
    obtain ⟨n, rfl⟩ : ∃ x, n = x + 1 := ⟨n - 1, by omega⟩
    exact stop 0 n h σ x c b F (MM_0 hM (I.1.2.2.1 x (ho_lt hx).1).2.2.1) W M e21 e22 I H hx
  | succ k ih =>
    intro n h σ x c b F hM hn W M e21 e22 I H hx
    obtain ⟨n, rfl⟩ : ∃ x, n = x + 1 := ⟨n - 1, by omega⟩
    obtain ⟨x1, x2⟩ := ho_lt hx
    have R := I.1
    have r1 := R.2.2.1 x x1
    by_cases e4 : σ 4 x = 24
    · exact stop (k + 1) n h σ x c b F e4 W M e21 e22 I H hx
    · have y1 : σ 4 x < 24 := by omega
      have y2 := I.2.1.2.1 x x1 y1
      have hy : ho σ (σ 4 x) = true := ho_of y1 y2
      have r2 := R.2.2.1 (σ 4 x) y1
      have q1 := hol_lt (σ := σ) (n := σ 4 x)
      have hrx := I.2.2.1 x x1 y1
      have l255 : (255 : Int32) = J 255 := rfl
      have ep : pr σ (σ 4 x) = σ 2 (σ 4 x) := by unfold pr; rw [if_pos y2]
      rw [fX11_goTidy_L18]
      unfold tdS
      simp only [if_pos (show ho σ x = true ∧ ho σ (σ 4 x) = true from ⟨hx, hy⟩)]
      simp (disch := omega) only [l_192, J_add, ra_sh W, Option.bind_some, nn_id y1, m1_J, J_inj]
      rw [if_neg (show ¬ σ 4 x = 4294967295 by omega)]
      simp (disch := omega) only [m_pages W R, Option.bind_some, l255, J_inj]
      have go : ∀ (g : AH) (σ' : ST) (x' c' b' : Nat) (F' : Nat → Value), RA g A σ' → OBJ 11 36 g m F' → F' 21 = .int (J c') → F' 22 = .int (J b') → (∀ j, j ≠ 21 → j ≠ 22 → F' j = F j) → IV1 rk σ' → HL σ' → ho σ' x' = true → (σ' 4 x' < 24 → rk (σ' 4 x') < rk (σ 4 x)) → On (fun k => k = A ∨ k = m) h g → ∃ h', fX11_goTidy_L18 n g m A (J x') = some h' ∧ RA h' A (tdS k σ' x' c' b').1 ∧ OBJ 11 36 h' m (fput (fput F 21 (.int (J (tdS k σ' x' c' b').2.1))) 22 (.int (J (tdS k σ' x' c' b').2.2))) ∧ IV1 rk (tdS k σ' x' c' b').1 ∧ HL (tdS k σ' x' c' b').1 ∧ On (fun k => k = A ∨ k = m) h h' := by
        intro g σ' x' c' b' F' W' M' f21 f22 fo I' H' hx' hr O'
        have hd := MM_dec (σ := σ) (τ := σ') (x := x) (x' := x') y1 hr
        obtain ⟨h', i1, i2, i3, i4, i5, i6⟩ := ih n g σ' x' c' b' F' (by omega) (by omega) W' M' f21 f22 I' H' hx'
        have eF : fput (fput F' 21 (.int (J (tdS k σ' x' c' b').2.1))) 22 (.int (J (tdS k σ' x' c' b').2.2)) = fput (fput F 21 (.int (J (tdS k σ' x' c' b').2.1))) 22 (.int (J (tdS k σ' x' c' b').2.2)) := by
          funext j
          unfold fput
          by_cases j2 : j = 22
          · rw [if_pos j2, if_pos j2]
          · rw [if_neg j2, if_neg j2]
            by_cases j1 : j = 21
            · rw [if_pos j1, if_pos j1]
            · rw [if_neg j1, if_neg j1]
              exact fo j j1 j2
        rw [eF] at i3
        exact ⟨h', i1, i2, i3, i4, i5, O'.trans i6⟩
      have tail : ¬ (σ 2 (σ 4 x) = 0 ∧ hol σ (σ 4 x) = 1) → ∃ h', fX11_goTidy_J104 (fun h18 x15 x16 x17 => fX11_goTidy_L18 n h18 x15 x16 x17) h m A (J x) (J (σ 4 x)) (J (σ 8 x)) = some h' ∧ RA h' A (if σ 2 (σ 4 x) = 0 ∧ ¬ cpd σ (σ 4 x) = true ∧ σ 8 (σ 4 x) &&& (σ 8 x ^^^ 4294967295) = 0 then tdS k (bypS σ x (σ 4 (σ 4 x))) x c (b + 1) else tdS k σ (σ 4 x) c b).1 ∧ OBJ 11 36 h' m (fput (fput F 21 (.int (J (if σ 2 (σ 4 x) = 0 ∧ ¬ cpd σ (σ 4 x) = true ∧ σ 8 (σ 4 x) &&& (σ 8 x ^^^ 4294967295) = 0 then tdS k (bypS σ x (σ 4 (σ 4 x))) x c (b + 1) else tdS k σ (σ 4 x) c b).2.1))) 22 (.int (J (if σ 2 (σ 4 x) = 0 ∧ ¬ cpd σ (σ 4 x) = true ∧ σ 8 (σ 4 x) &&& (σ 8 x ^^^ 4294967295) = 0 then tdS k (bypS σ x (σ 4 (σ 4 x))) x c (b + 1) else tdS k σ (σ 4 x) c b).2.2))) ∧ IV1 rk (if σ 2 (σ 4 x) = 0 ∧ ¬ cpd σ (σ 4 x) = true ∧ σ 8 (σ 4 x) &&& (σ 8 x ^^^ 4294967295) = 0 then tdS k (bypS σ x (σ 4 (σ 4 x))) x c (b + 1) else tdS k σ (σ 4 x) c b).1 ∧ HL (if σ 2 (σ 4 x) = 0 ∧ ¬ cpd σ (σ 4 x) = true ∧ σ 8 (σ 4 x) &&& (σ 8 x ^^^ 4294967295) = 0 then tdS k (bypS σ x (σ 4 (σ 4 x))) x c (b + 1) else tdS k σ (σ 4 x) c b).1 ∧ On (fun k => k = A ∨ k = m) h h' := by
        intro hnot
        have lz : σ 8 (σ 4 x) &&& (σ 8 x ^^^ 4294967295) < 4294967296 := Nat.lt_of_le_of_lt Nat.and_le_left (by omega)
        have stay := go h σ (σ 4 x) c b F W M e21 e22 (fun _ _ _ => rfl) I H hy (fun hz => I.2.2.1 _ y1 hz) On.rf
        unfold fX11_goTidy_J104
        simp (disch := omega) only [l_216, J_add, ra_pr W, ep, Option.bind_some, l_0, J_inj]
        by_cases h4 : σ 2 (σ 4 x) = 0
        · rw [if_pos h4]
          simp (disch := omega) only [m_isCopy W R, Option.bind_some]
          by_cases h5 : cpd σ (σ 4 x) = true
          · rw [if_pos h5]
            simp only [if_neg (show ¬ (σ 2 (σ 4 x) = 0 ∧ ¬ cpd σ (σ 4 x) = true ∧ σ 8 (σ 4 x) &&& (σ 8 x ^^^ 4294967295) = 0) from fun z => z.2.1 h5)]
            exact stay
          · rw [if_neg h5]
            simp (disch := omega) only [m_pages W R, Option.bind_some, m1_J, J_xor, J_and, J_inj]
            by_cases h6 : σ 8 (σ 4 x) &&& (σ 8 x ^^^ 4294967295) = 0
            · rw [if_pos h6]
              simp only [if_pos (show σ 2 (σ 4 x) = 0 ∧ ¬ cpd σ (σ 4 x) = true ∧ σ 8 (σ 4 x) &&& (σ 8 x ^^^ 4294967295) = 0 from ⟨h4, h5, h6⟩)]
              obtain ⟨g1, f1, W1, M1, H1, O1⟩ := m_byp hmA W M e22 I H hx hy (nx := σ 4 (σ 4 x)) (Or.inr ⟨rfl, h4⟩)
              obtain ⟨b1, b2, b3⟩ := byp_x I hx hy (nx := σ 4 (σ 4 x)) (Or.inr ⟨rfl, h4⟩)
              simp (disch := omega) only [l_192, J_add, ra_sh W, Option.bind_some, f1]
              exact go g1 (bypS σ x (σ 4 (σ 4 x))) x c (b + 1) _ W1 M1 (by rw [fput_ne (by decide)]; exact e21) fput_eq (fun j _ j2 => fput_ne j2) (iv_byp I hx hy (Or.inr ⟨rfl, h4⟩)) H1 (ho_of x1 (by rw [b2]; exact x2)) (fun hz => by rw [b1] at hz ⊢; exact I.2.2.1 _ y1 hz) O1
            · rw [if_neg h6]
              simp only [if_neg (show ¬ (σ 2 (σ 4 x) = 0 ∧ ¬ cpd σ (σ 4 x) = true ∧ σ 8 (σ 4 x) &&& (σ 8 x ^^^ 4294967295) = 0) from fun z => h6 z.2.2)]
              exact stay
        · rw [if_neg h4]
          simp only [if_neg (show ¬ (σ 2 (σ 4 x) = 0 ∧ ¬ cpd σ (σ 4 x) = true ∧ σ 8 (σ 4 x) &&& (σ 8 x ^^^ 4294967295) = 0) from fun z => h4 z.1)]
          exact stay
      by_cases e3 : σ 8 x = 255
      · obtain ⟨g1, f1, W1, M1, H1, O1⟩ := m_byp hmA W M e22 I H hx hy (nx := 24) (Or.inl rfl)
        obtain ⟨b1, b2, b3⟩ := byp_x I hx hy (nx := 24) (Or.inl rfl)
        simp only [if_pos e3]
        rw [nn_24] at f1
        rw [f1]
        exact go g1 (bypS σ x 24) x c (b + 1) _ W1 M1 (by rw [fput_ne (by decide)]; exact e21) fput_eq (fun j _ j2 => fput_ne j2) (iv_byp I hx hy (Or.inl rfl)) H1 (ho_of x1 (by rw [b2]; exact x2)) (fun hz => by rw [b1] at hz; omega) O1
      · simp only [if_neg e3]
        simp (disch := omega) only [m_hol W R, Option.bind_some, l_1, J_inj]
        by_cases h5 : hol σ (σ 4 x) = 1
        · simp only [if_pos h5]
          simp (disch := omega) only [l_216, J_add, ra_pr W, ep, Option.bind_some, l_0, J_inj]
          by_cases h4 : σ 2 (σ 4 x) = 0
          · obtain ⟨g1, f1, W1, O1⟩ := m_col W R hx hy
            have M1 := M.ot O1 (by omega)
            obtain ⟨g2, f2, M2, O2⟩ := ob_p M1 (k := 21) (by decide) (.int (J (c + 1)))
            obtain ⟨I2, H2⟩ := iv_clp I H hx hy h4 h5
            obtain ⟨b1, b2⟩ := clp_x I hx hy
            simp only [if_pos (show σ 2 (σ 4 x) = 0 ∧ hol σ (σ 4 x) = 1 from ⟨h4, h5⟩)]
            rw [if_pos h4]
            simp only [f1, Option.bind_some, ob_i M1 (k := 21) (by decide) e21, J_add, f2]
            exact go g2 (clpS σ x (σ 4 x)) x (c + 1) b _ (W1.frame O2 (by omega)) M2 fput_eq (by rw [fput_ne (by decide)]; exact e22) (fun j j1 _ => fput_ne j1) I2 H2 (ho_of x1 (by rw [b2]; exact x2)) (fun hz => by rw [b1] at hz ⊢; exact I.2.2.1 _ y1 hz) ((O1.on1 (Or.inl rfl)).trans (O2.on1 (Or.inr rfl)))
          · simp only [if_neg (show ¬ (σ 2 (σ 4 x) = 0 ∧ hol σ (σ 4 x) = 1) from fun z => h4 z.1)]
            rw [if_neg h4]
            exact tail (fun z => h4 z.1)
        · simp only [if_neg (show ¬ (σ 2 (σ 4 x) = 0 ∧ hol σ (σ 4 x) = 1) from fun z => h5 z.2)]
          rw [if_neg h5]
          exact tail (fun z => h5 z.2)
theorem m_tidy (hmA : m ≠ A) (W : RA h A σ) (M : OBJ 11 36 h m F) (I : IV1 rk σ) (H : HL σ) {s : Nat} (h0 : hs σ s = true) : ∃ h', fX11_goTidy h m A (J s) = some h' ∧ RA h' A (tidS σ s).1 ∧ OBJ 11 36 h' m (fput (fput F 21 (.int (J (tidS σ s).2.1))) 22 (.int (J (tidS σ s).2.2))) ∧ IV1 rk (tidS σ s).1 ∧ HL (tidS σ s).1 ∧ On (fun k => k = A ∨ k = m) h h' := by
  obtain ⟨h1, h2, h3⟩ := hs_tp h0 I.1 I.gr
  obtain ⟨g1, e1, M1, O1⟩ := ob_p M (k := 21) (by decide) (.int (J 0))
  obtain ⟨g2, e2, M2, O2⟩ := ob_p M1 (k := 22) (by decide) (.int (J 0))
  have W2 := (W.frame O1 (by omega)).frame O2 (by omega)
  have mm : MM rk σ (tp σ s) ≤ 24 := by
    unfold MM
    split
    · exact cnt_le
    · omega
  obtain ⟨g3, i1, i2, i3, i4, i5, i6⟩ := m_td_L (rk := rk) hmA 24 FU g2 σ (tp σ s) 0 0 _ mm (FU_gt (by decide)) W2 M2 (by rw [fput_ne (by decide), fput_eq]) fput_eq I H h3
  have eF : fput (fput (fput (fput F 21 (.int (J 0))) 22 (.int (J 0))) 21 (.int (J (tidS σ s).2.1))) 22 (.int (J (tidS σ s).2.2)) = fput (fput F 21 (.int (J (tidS σ s).2.1))) 22 (.int (J (tidS σ s).2.2)) := by
    funext j
    by_cases j2 : j = 22
    · simp [fput, j2]
    · by_cases j1 : j = 21
      · simp [fput, j1]
      · simp [fput, j1, j2]
  have i3' : OBJ 11 36 g3 m (fput (fput F 21 (.int (J (tidS σ s).2.1))) 22 (.int (J (tidS σ s).2.2))) := by
    rw [← eF]; exact i3
  refine ⟨g3, ?_, i2, i3', i4, i5, ((O1.on1 (Or.inr rfl)).trans (O2.on1 (Or.inr rfl))).trans i6⟩
  unfold fX11_goTidy
  have tl := tp_le I.1 s
  have nt : nn (σ 0 s) = tp σ s := by rw [h2, nn_id (hs_lt h0).2]
  simp (disch := omega) only [ob_h M, if_true, l_0, e1, e2, Option.bind_some, l_312, J_add, ra_tp W2, nt]
  exact i1
end MT
