/-! tidying, peeking, reading, forking, ending: by the class -/
def cpd (σ : ST) (y : Nat) : Bool := exB (fun k => decide (σ 5 k = y)) 24 0
def nds (σ : ST) (s : Nat) : Bool := (σ 1 0).testBit s && decide (1 < hol σ (tp σ s))
def psh (σ : ST) (o p : Nat) : Bool := ho σ (at24 σ 5 o) && !hd σ (at24 σ 5 o) p
def las (σ : ST) (s : Nat) : Nat := lst σ 24 (tp σ s)
def fir (σ : ST) (s p : Nat) : Nat := fh σ p 24 (tp σ s)
def pgi (σ : ST) (s p : Nat) : Bool := decide (fir σ s p = 24) && decide (pgr σ (las σ s) = 1)
def pk (σ : ST) (s p : Nat) : Nat := if hs σ s = true ∧ p < 8 then (if fir σ s p = 24 then (if pgr σ (las σ s) = 1 then 10 * dgt σ (las σ s) + p else if pgr σ (las σ s) = 2 then 4294967293 else if pgr σ (las σ s) = 3 then 4294967292 else 0) else σ 6 (8 * fir σ s p + p)) else 4294967295
def bypS (σ : ST) (x nx : Nat) : ST := (relS 24 (if nx = 24 then pasS (put σ 4 x nx) x 24 24 else put σ 4 x nx) (σ 4 x)).2
def colS (σ : ST) (x y : Nat) : Nat → ST
  | 0 => σ
  | n + 1 => if hd (colS σ x y n) y n = true ∧ ¬ hd (colS σ x y n) x n = true then holdS (colS σ x y n) x n (colS σ x y n 6 (8 * y + n)) else colS σ x y n
def clpS (σ : ST) (x y : Nat) : ST := remS (put (colS σ x y 8) 4 x (σ 4 y)) y x
def tdS : Nat → ST → Nat → Nat → Nat → ST × Nat × Nat
  | 0, σ, _, c, b => (σ, c, b)
  | k + 1, σ, x, c, b => if ho σ x = true ∧ ho σ (σ 4 x) = true then
      (if σ 8 x = 255 then tdS k (bypS σ x 24) x c (b + 1)
      else if σ 2 (σ 4 x) = 0 ∧ hol σ (σ 4 x) = 1 then tdS k (clpS σ x (σ 4 x)) x (c + 1) b
      else if σ 2 (σ 4 x) = 0 ∧ ¬ cpd σ (σ 4 x) = true ∧ σ 8 (σ 4 x) &&& (σ 8 x ^^^ 4294967295) = 0 then tdS k (bypS σ x (σ 4 (σ 4 x))) x c (b + 1)
      else tdS k σ (σ 4 x) c b) else (σ, c, b)
section CT
variable {h : AH} {w c b : Nat} {σ : ST}
theorem wk_i12 (W : WRk h w σ c b) : gI h 9 w 12 = some (J c) := by
  obtain ⟨A, I, C, S, K⟩ := W
  rw [← K.1]
  exact gI_at C.1 rfl
theorem wk_i13 (W : WRk h w σ c b) : gI h 9 w 13 = some (J b) := by
  obtain ⟨A, I, C, S, K⟩ := W
  rw [← K.2]
  exact gI_at C.1 rfl
theorem c_isCopy (W : WR h w σ) (R : RG σ) {y : Nat} (hy : y < 4294967296) : fX9_isCopy h w (J y) = some (cpd σ y) := by
  unfold fX9_isCopy cpd
  simp only [wr_h W, if_true, l_0]
  have e : ∀ m q k, k + m = 24 → m < q → fX9_isCopy_L2 h q w (J y) (J k) = some (exB (fun k => decide (σ 5 k = y)) m k) := by
    intro m
    induction m with
    | zero =>
      intro q k h1 h2
      obtain ⟨q, rfl⟩ : ∃ x, q = x + 1 := ⟨q - 1, by omega⟩
      rw [fX9_isCopy_L2]
      simp (disch := omega) only [l_24, J_le]
      rw [if_pos (by omega)]
      rfl
    | succ m ih =>
      intro q k h1 h2
      obtain ⟨q, rfl⟩ : ∃ x, q = x + 1 := ⟨q - 1, by omega⟩
      have r1 := (R.2.2.1 k (by omega)).2.2.2.1
      rw [fX9_isCopy_L2]
      simp (disch := omega) only [l_24, J_le, wr_r8 W, wr_a4 W, Option.bind_some, J_inj]
      rw [if_neg (by omega)]
      unfold exB
      by_cases h3 : σ 5 k = y
      · rw [if_pos h3, decide_eq_true h3]
        rfl
      · rw [if_neg h3, decide_eq_false h3, Bool.false_or]
        simp only [letF]
        rw [l_1, J_add]
        exact ih q (k + 1) (by omega) (by omega)
  exact e 24 FU 0 rfl (FU_gt (by decide))
theorem rg_byp (R : RG σ) {x nx : Nat} (h0 : ho σ x = true) (hn : nx ≤ 24) : RG (bypS σ x nx) := by
  obtain ⟨h1, h2⟩ := ho_lt h0
  unfold bypS
  refine rg_rel 24 ?_
  have R1 := rg_put4 R h2 hn
  split
  · exact rg_pas R1 h1 (Nat.le_refl _)
  · exact R1
theorem c_bypass (W : WRk h w σ c b) (R : RG σ) {x nx : Nat} (h0 : ho σ x = true) (hn : nx ≤ 24) : ∃ h', fX9_bypass h w (J x) (J nx) = some h' ∧ WRk h' w (bypS σ x nx) c (b + 1) ∧ Ot w (w + 9) h h' := by
  obtain ⟨h1, h2⟩ := ho_lt h0
  have r1 := (R.2.2.1 x h1).2.2.1
  have R1 := rg_put4 R h2 hn
  obtain ⟨g1, e1, W1, O1⟩ := wk_s3 W h1 nx
  have key : ∀ g2, WRk g2 w (if nx = 24 then pasS (put σ 4 x nx) x 24 24 else put σ 4 x nx) c b → Ot w (w + 9) h g2 → ∃ h', fX9_bypass_J35 g2 w (J (σ 4 x)) = some h' ∧ WRk h' w (bypS σ x nx) c (b + 1) ∧ Ot w (w + 9) h h' := by
    intro g2 W2 O2
    have R2 : RG (if nx = 24 then pasS (put σ 4 x nx) x 24 24 else put σ 4 x nx) := by
      split
      · exact rg_pas R1 h1 (Nat.le_refl _)
      · exact R1
    obtain ⟨g3, e3, W3, O3⟩ := c_release W2 R2 (o := σ 4 x) r1
    obtain ⟨g4, e4, W4, O4⟩ := wk_p13 W3 (b + 1)
    refine ⟨g4, ?_, W4, (O2.trans O3).trans O4⟩
    unfold fX9_bypass_J35
    simp only [e3, Option.bind_some, wk_i13 W3, l_1, J_add, e4]
  unfold fX9_bypass
  simp (disch := omega) only [wr_h W.wr, if_true, c_ho W.wr R, Option.bind_some, h0, wr_r7 W.wr, wr_a3 W.wr, e1, l_24, J_inj]
  by_cases e : nx = 24
  · obtain ⟨g2, e2, W2, O2⟩ := c_pass W1 R1 h1 (x := 24) (Nat.le_refl _)
    rw [if_pos e, e2]
    exact key g2 (by rw [if_pos e]; exact W2) (O1.trans O2)
  · rw [if_neg e]
    exact key g1 (by rw [if_neg e]; exact W1) O1
theorem col_f {x y f : Nat} (h8 : f ≠ 8) (h6 : f ≠ 6) (k : Nat) : ∀ n, colS σ x y n f k = σ f k
  | 0 => rfl
  | n + 1 => by
    unfold colS
    split
    · unfold holdS
      rw [put_f h6, put_f h8, col_f h8 h6 k n]
    · exact col_f h8 h6 k n
theorem rg_col (R : RG σ) {x y : Nat} (hx : ho σ x = true) (hy : y < 24) : ∀ n, n ≤ 8 → RG (colS σ x y n)
  | 0, _ => R
  | n + 1, hn => by
    have R1 := rg_col R hx hy n (by omega)
    unfold colS
    split
    · refine rg_hold R1 ?_ (by omega) (R1.2.2.2.1 _ (by omega))
      unfold ho at hx ⊢
      rw [col_f (by decide) (by decide)]
      exact hx
    · exact R1
theorem ho_col {x y o n : Nat} : ho (colS σ x y n) o = ho σ o := by
  unfold ho
  rw [col_f (by decide) (by decide)]
theorem c_col_L (K : AH → Nat → Int32 → Int32 → Option AH) (R : RG σ) {x y : Nat} (hx : ho σ x = true) (hy : ho σ y = true) : ∀ m n k h, k + m = 8 → m < n → WRk h w (colS σ x y k) c b → ∃ h', fX9_collapse_L18 K n h w (J x) (J y) (J k) = K h' w (J x) (J y) ∧ WRk h' w (colS σ x y 8) c b ∧ Ot w (w + 9) h h'
  | 0, n + 1, k, h, h1, h2, W => by
    have : k = 8 := by omega
    subst this
    refine ⟨h, ?_, W, Ot.rf⟩
    rw [fX9_collapse_L18]
    simp (disch := omega) only [l_8, J_le]
    rw [if_pos (by omega)]
  | m + 1, n + 1, k, h, h1, h2, W => by
    obtain ⟨x1, x2⟩ := ho_lt hx
    obtain ⟨y1, y2⟩ := ho_lt hy
    have R1 := rg_col R hx y1 k (by omega)
    have e1 : J k + 1 = J (k + 1) := by rw [l_1, J_add]
    rw [fX9_collapse_L18]
    simp (disch := omega) only [l_8, J_le]
    rw [if_neg (by omega)]
    simp (disch := omega) only [c_hd W.wr R1, Option.bind_some, letF, e1]
    have es : colS σ x y (k + 1) = if hd (colS σ x y k) y k = true ∧ ¬ hd (colS σ x y k) x k = true then holdS (colS σ x y k) x k (colS σ x y k 6 (8 * y + k)) else colS σ x y k := rfl
    by_cases e2 : hd (colS σ x y k) y k = true
    · by_cases e3 : hd (colS σ x y k) x k = true
      · rw [if_neg (fun z => z.2 e3)] at es
        rw [if_pos e2, if_pos e3]
        exact c_col_L K R hx hy m n (k + 1) h (by omega) (by omega) (by rw [es]; exact W)
      · rw [if_pos ⟨e2, e3⟩] at es
        obtain ⟨g1, f1, W1, O1⟩ := c_hold W R1 (o := x) (p := k) (v := colS σ x y k 6 (8 * y + k)) (by rw [ho_col]; exact hx) (by omega)
        obtain ⟨g2, f2, W2, O2⟩ := c_col_L K R hx hy m n (k + 1) g1 (by omega) (by omega) (by rw [es]; exact W1)
        refine ⟨g2, ?_, W2, O1.trans O2⟩
        rw [if_pos e2, if_neg e3]
        simp (disch := omega) only [c_val W.wr R1, Option.bind_some, e2, if_true, f1]
        exact f2
    · rw [if_neg (fun z => e2 z.1)] at es
      rw [if_neg e2]
      exact c_col_L K R hx hy m n (k + 1) h (by omega) (by omega) (by rw [es]; exact W)
theorem rg_clp (R : RG σ) {x y : Nat} (hx : ho σ x = true) (hy : ho σ y = true) : RG (clpS σ x y) := by
  obtain ⟨x1, x2⟩ := ho_lt hx
  obtain ⟨y1, y2⟩ := ho_lt hy
  have R1 := rg_col R hx y1 8 (Nat.le_refl _)
  exact rg_rem (rg_put4 R1 (by rw [col_f (by decide) (by decide)]; exact x2) (R.2.2.1 y y1).2.2.1) y1 (Nat.le_of_lt x1)
theorem c_collapse (W : WRk h w σ c b) (R : RG σ) {x y : Nat} (hx : ho σ x = true) (hy : ho σ y = true) : ∃ h', fX9_collapse h w (J x) (J y) = some h' ∧ WRk h' w (clpS σ x y) (c + 1) b ∧ Ot w (w + 9) h h' := by
  obtain ⟨x1, x2⟩ := ho_lt hx
  obtain ⟨y1, y2⟩ := ho_lt hy
  have R1 := rg_col R hx y1 8 (Nat.le_refl _)
  have e4 : colS σ x y 8 4 y = σ 4 y := col_f (by decide) (by decide) y 8
  have R2 := rg_put4 R1 (o := x) (v := σ 4 y) (by rw [col_f (by decide) (by decide)]; exact x2) (R.2.2.1 y y1).2.2.1
  unfold fX9_collapse
  simp (disch := omega) only [wr_h W.wr, if_true, c_ho W.wr R, Option.bind_some, hx, hy, l_0]
  obtain ⟨g1, f1, W1, O1⟩ := c_col_L (w := w) (c := c) (b := b) (fun h13 x10 x11 x12 =>
            (gR h13 9 x10 7).bind fun x14 =>
            (gR h13 9 x10 7).bind fun x15 =>
            (aI h13 0 x15 x12).bind fun x16 =>
            (sI h13 0 x14 x11 x16).bind fun h17 =>
            (fX9_remove h17 x10 x12 x11).bind fun q18 =>
            (gI q18 9 x10 12).bind fun x19 =>
            (pF q18 9 x10 12 (.int (x19 + 1))).bind fun h20 =>
            some h20) R hx hy 8 FU 0 h rfl (FU_gt (by decide)) W
  obtain ⟨g2, f2, W2, O2⟩ := wk_s3 W1 x1 (σ 4 y)
  obtain ⟨g3, f3, W3, O3⟩ := c_remove W2 R2 (o := y) (x := x) (ho_of y1 (by rw [put_f (by decide), col_f (by decide) (by decide)]; exact y2)) (Nat.le_of_lt x1)
  obtain ⟨g4, f4, W4, O4⟩ := wk_p12 W3 (c + 1)
  refine ⟨g4, ?_, W4, ((O1.trans O2).trans O3).trans O4⟩
  rw [f1]
  simp (disch := omega) only [wr_r7 W1.wr, wr_a3 W1.wr, e4, Option.bind_some, f2, f3, wk_i12 W3, l_1, J_add, f4]
theorem rg_td : ∀ k {σ : ST} {x c b : Nat}, RG σ → RG (tdS k σ x c b).1
  | 0, _, _, _, _, R => R
  | k + 1, σ, x, c, b, R => by
    unfold tdS
    split
    · rename_i h1
      have x1 := (ho_lt h1.1).1
      have y1 := (ho_lt h1.2).1
      split
      · exact rg_td k (rg_byp R h1.1 (Nat.le_refl _))
      · split
        · exact rg_td k (rg_clp R h1.1 h1.2)
        · split
          · exact rg_td k (rg_byp R h1.1 (R.2.2.1 _ y1).2.2.1)
          · exact rg_td k R
    · exact R
theorem c_td_L : ∀ m n k x h (σ : ST) c b, k + m = 24 → m < n → WRk h w σ c b → RG σ → x ≤ 24 → ∃ h', fX9_tidyChain_L29 n h w (J x) (J k) = some (J ((tdS m σ x c b).2.1 + (tdS m σ x c b).2.2), h') ∧ WRk h' w (tdS m σ x c b).1 (tdS m σ x c b).2.1 (tdS m σ x c b).2.2 ∧ Ot w (w + 9) h h'
  | 0, n + 1, k, x, h, σ, c, b, h1, h2, W, R, hx => by
    refine ⟨h, ?_, W, Ot.rf⟩
    rw [fX9_tidyChain_L29]
    simp (disch := omega) only [l_24, J_le]
    rw [if_pos (by omega)]
    simp only [wk_i12 W, wk_i13 W, Option.bind_some, J_add]
    rfl
  | m + 1, n + 1, k, x, h, σ, c, b, h1, h2, W, R, hx => by
    have e1 : J k + 1 = J (k + 1) := by rw [l_1, J_add]
    rw [fX9_tidyChain_L29]
    unfold tdS
    simp (disch := omega) only [l_24, J_le, c_ho W.wr R, Option.bind_some]
    rw [if_neg (by omega)]
    by_cases e : ho σ x = true
    · obtain ⟨x1, x2⟩ := ho_lt e
      have r1 := R.2.2.1 x x1
      rw [if_pos e]
      simp (disch := omega) only [wr_r7 W.wr, wr_a3 W.wr, c_ho W.wr R, Option.bind_some]
      by_cases e2 : ho σ (σ 4 x) = true
      · obtain ⟨y1, y2⟩ := ho_lt e2
        have r2 := R.2.2.1 (σ 4 x) y1
        have q1 := hol_lt (σ := σ) (n := σ 4 x)
        have l255 : (255 : Int32) = J 255 := rfl
        rw [if_pos e2]
        simp only [if_pos (show ho σ x = true ∧ ho σ (σ 4 x) = true from ⟨e, e2⟩)]
        simp (disch := omega) only [wr_r5 W.wr, wr_a1 W.wr, Option.bind_some, l255, J_inj, letF, e1]
        have tail : ∀ (hnot : ¬ (σ 2 (σ 4 x) = 0 ∧ hol σ (σ 4 x) = 1)), ∃ h', fX9_tidyChain_J116 (fun h31 x28 x29 x30 => fX9_tidyChain_L29 n h31 x28 x29 (x30 + 1)) h w (J x) (J k) (J (σ 4 x)) = some (J ((if σ 2 (σ 4 x) = 0 ∧ ¬ cpd σ (σ 4 x) = true ∧ σ 8 (σ 4 x) &&& (σ 8 x ^^^ 4294967295) = 0 then tdS m (bypS σ x (σ 4 (σ 4 x))) x c (b + 1) else tdS m σ (σ 4 x) c b).2.1 + (if σ 2 (σ 4 x) = 0 ∧ ¬ cpd σ (σ 4 x) = true ∧ σ 8 (σ 4 x) &&& (σ 8 x ^^^ 4294967295) = 0 then tdS m (bypS σ x (σ 4 (σ 4 x))) x c (b + 1) else tdS m σ (σ 4 x) c b).2.2), h') ∧ WRk h' w (if σ 2 (σ 4 x) = 0 ∧ ¬ cpd σ (σ 4 x) = true ∧ σ 8 (σ 4 x) &&& (σ 8 x ^^^ 4294967295) = 0 then tdS m (bypS σ x (σ 4 (σ 4 x))) x c (b + 1) else tdS m σ (σ 4 x) c b).1 (if σ 2 (σ 4 x) = 0 ∧ ¬ cpd σ (σ 4 x) = true ∧ σ 8 (σ 4 x) &&& (σ 8 x ^^^ 4294967295) = 0 then tdS m (bypS σ x (σ 4 (σ 4 x))) x c (b + 1) else tdS m σ (σ 4 x) c b).2.1 (if σ 2 (σ 4 x) = 0 ∧ ¬ cpd σ (σ 4 x) = true ∧ σ 8 (σ 4 x) &&& (σ 8 x ^^^ 4294967295) = 0 then tdS m (bypS σ x (σ 4 (σ 4 x))) x c (b + 1) else tdS m σ (σ 4 x) c b).2.2 ∧ Ot w (w + 9) h h' := by
          intro hnot
          have lz : σ 8 (σ 4 x) &&& (σ 8 x ^^^ 4294967295) < 4294967296 := Nat.lt_of_le_of_lt Nat.and_le_left (by omega)
          unfold fX9_tidyChain_J116
          simp (disch := omega) only [wr_r9 W.wr, wr_a5 W.wr, Option.bind_some, l_0, J_inj, e1]
          by_cases e4 : σ 2 (σ 4 x) = 0
          · rw [if_pos e4]
            simp (disch := omega) only [c_isCopy W.wr R, Option.bind_some]
            by_cases e5 : cpd σ (σ 4 x) = true
            · rw [if_pos e5]
              simp only [if_neg (show ¬ (σ 2 (σ 4 x) = 0 ∧ ¬ cpd σ (σ 4 x) = true ∧ σ 8 (σ 4 x) &&& (σ 8 x ^^^ 4294967295) = 0) from fun z => z.2.1 e5)]
              exact c_td_L m n (k + 1) (σ 4 x) h σ c b (by omega) (by omega) W R (by omega)
            · rw [if_neg e5]
              simp (disch := omega) only [wr_r5 W.wr, wr_a1 W.wr, Option.bind_some, m1_J, J_xor, J_and, J_inj]
              by_cases e6 : σ 8 (σ 4 x) &&& (σ 8 x ^^^ 4294967295) = 0
              · rw [if_pos e6]
                simp only [if_pos (show σ 2 (σ 4 x) = 0 ∧ ¬ cpd σ (σ 4 x) = true ∧ σ 8 (σ 4 x) &&& (σ 8 x ^^^ 4294967295) = 0 from ⟨e4, e5, e6⟩)]
                obtain ⟨g1, f1, W1, O1⟩ := c_bypass W R e (nx := σ 4 (σ 4 x)) r2.2.2.1
                obtain ⟨g2, f2, W2, O2⟩ := c_td_L m n (k + 1) x g1 (bypS σ x (σ 4 (σ 4 x))) c (b + 1) (by omega) (by omega) W1 (rg_byp R e r2.2.2.1) hx
                refine ⟨g2, ?_, W2, O1.trans O2⟩
                simp (disch := omega) only [wr_r7 W.wr, wr_a3 W.wr, Option.bind_some, f1]
                exact f2
              · rw [if_neg e6]
                simp only [if_neg (show ¬ (σ 2 (σ 4 x) = 0 ∧ ¬ cpd σ (σ 4 x) = true ∧ σ 8 (σ 4 x) &&& (σ 8 x ^^^ 4294967295) = 0) from fun z => e6 z.2.2)]
                exact c_td_L m n (k + 1) (σ 4 x) h σ c b (by omega) (by omega) W R (by omega)
          · rw [if_neg e4]
            simp only [if_neg (show ¬ (σ 2 (σ 4 x) = 0 ∧ ¬ cpd σ (σ 4 x) = true ∧ σ 8 (σ 4 x) &&& (σ 8 x ^^^ 4294967295) = 0) from fun z => e4 z.1)]
            exact c_td_L m n (k + 1) (σ 4 x) h σ c b (by omega) (by omega) W R (by omega)
        by_cases e3 : σ 8 x = 255
        · obtain ⟨g1, f1, W1, O1⟩ := c_bypass W R e (nx := 24) (Nat.le_refl _)
          obtain ⟨g2, f2, W2, O2⟩ := c_td_L m n (k + 1) x g1 (bypS σ x 24) c (b + 1) (by omega) (by omega) W1 (rg_byp R e (Nat.le_refl _)) hx
          simp only [if_pos e3]
          refine ⟨g2, ?_, W2, O1.trans O2⟩
          rw [f1]
          exact f2
        · simp only [if_neg e3]
          simp (disch := omega) only [wr_r9 W.wr, wr_a5 W.wr, Option.bind_some, l_0, J_inj]
          by_cases e4 : σ 2 (σ 4 x) = 0
          · simp only [if_pos e4]
            simp (disch := omega) only [c_hol W.wr R, Option.bind_some, l_1, J_inj]
            by_cases e5 : hol σ (σ 4 x) = 1
            · obtain ⟨g1, f1, W1, O1⟩ := c_collapse W R e e2
              obtain ⟨g2, f2, W2, O2⟩ := c_td_L m n (k + 1) x g1 (clpS σ x (σ 4 x)) (c + 1) b (by omega) (by omega) W1 (rg_clp R e e2) hx
              simp only [if_pos (show σ 2 (σ 4 x) = 0 ∧ hol σ (σ 4 x) = 1 from ⟨e4, e5⟩)]
              refine ⟨g2, ?_, W2, O1.trans O2⟩
              rw [if_pos e5, f1]
              exact f2
            · simp only [if_neg (show ¬ (σ 2 (σ 4 x) = 0 ∧ hol σ (σ 4 x) = 1) from fun z => e5 z.2)]
              rw [if_neg e5]
              exact tail (fun z => e5 z.2)
          · simp only [if_neg (show ¬ (σ 2 (σ 4 x) = 0 ∧ hol σ (σ 4 x) = 1) from fun z => e4 z.1)]
            rw [if_neg e4]
            exact tail (fun z => e4 z.1)
      · rw [if_neg e2]
        simp only [if_neg (show ¬ (ho σ x = true ∧ ho σ (σ 4 x) = true) from fun z => e2 z.2)]
        refine ⟨h, ?_, W, Ot.rf⟩
        simp only [wk_i12 W, wk_i13 W, Option.bind_some, J_add]
    · rw [if_neg e]
      simp only [if_neg (show ¬ (ho σ x = true ∧ ho σ (σ 4 x) = true) from fun z => e z.1)]
      refine ⟨h, ?_, W, Ot.rf⟩
      simp only [wk_i12 W, wk_i13 W, Option.bind_some, J_add]
def tidS (σ : ST) (s : Nat) : ST × Nat × Nat := tdS 24 σ (tp σ s) 0 0
theorem c_tidy (W : WRk h w σ c b) (R : RG σ) {s : Nat} (h0 : hs σ s = true) : ∃ h', fX9_tidyChain h w (J s) = some (J ((tidS σ s).2.1 + (tidS σ s).2.2), h') ∧ WRk h' w (tidS σ s).1 (tidS σ s).2.1 (tidS σ s).2.2 ∧ Ot w (w + 9) h h' := by
  obtain ⟨h1, h2⟩ := hs_lt h0
  obtain ⟨g1, e1, W1, O1⟩ := wk_p12 W 0
  obtain ⟨g2, e2, W2, O2⟩ := wk_p13 W1 0
  have et : tp σ s = σ 0 s := by unfold tp; rw [if_pos h1]
  obtain ⟨g3, e3, W3, O3⟩ := c_td_L 24 FU 0 (tp σ s) g2 σ 0 0 rfl (FU_gt (by decide)) W2 R (tp_le R s)
  refine ⟨g3, ?_, W3, (O1.trans O2).trans O3⟩
  unfold fX9_tidyChain
  simp (disch := omega) only [wr_h W.wr, if_true, c_hs W.wr R, Option.bind_some, h0, l_0, e1, e2, wr_r4 W2.wr, wr_a0 W2.wr, ← et]
  exact e3
theorem c_tidy_no (W : WR h w σ) (R : RG σ) {s : Nat} (hn : s < 4294967296) (h0 : ¬ hs σ s = true) : fX9_tidyChain h w (J s) = some (-1, h) := by
  unfold fX9_tidyChain
  simp (disch := omega) only [wr_h W, if_true, c_hs W R, Option.bind_some]
  rw [if_neg h0]
end CT
