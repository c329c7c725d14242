/-! a world of the reference: one row of ints -/
def nn (x : Nat) : Nat := if x = 24 then 4294967295 else x
def pv (σ : ST) (o p : Nat) : Nat := if (σ 8 o).testBit p = true then σ 6 (8 * o + p) else 4294967295
def pr (σ : ST) (o : Nat) : Nat := if σ 2 o < 4 then σ 2 o else 4294967295
def sb (σ : ST) (s : Nat) : Nat := if (σ 1 0).testBit s = true then 1 else 0
def AS (a : Nat → Int32) (σ : ST) : Prop :=
  (∀ o p, o < 24 → p < 8 → a (8 * o + p) = J (pv σ o p)) ∧ (∀ o, o < 24 → a (192 + o) = J (nn (σ 4 o))) ∧ (∀ o, o < 24 → a (216 + o) = J (pr σ o)) ∧ (∀ o, o < 24 → a (240 + o) = J (σ 3 o)) ∧ (∀ o, o < 24 → a (264 + o) = J (nn (σ 5 o))) ∧ (∀ o, o < 24 → a (288 + o) = J (σ 7 o)) ∧ (∀ s, s < 6 → a (312 + s) = J (nn (σ 0 s))) ∧ (∀ s, s < 6 → a (318 + s) = J (sb σ s)) ∧ a 324 = J (σ 1 3)
def RA (h : AH) (A : Nat) (σ : ST) : Prop := ∃ a : Nat → Int32, h.1 A = some (.inl (0, 325, .inl a)) ∧ AS a σ
theorem nn_lt {x : Nat} (h : x ≤ 24) : nn x < 4294967296 := by
  unfold nn
  split <;> omega
theorem nn_eq {x y : Nat} (h : y < 24) (hx : x ≤ 24) : nn x = y ↔ x = y := by
  unfold nn
  split <;> omega
theorem nn_m1 {x : Nat} (h : x ≤ 24) : nn x = 4294967295 ↔ x = 24 := by
  unfold nn
  split <;> omega
theorem neg_l1 : -(J 1) = J 4294967295 := by decide
section RA
variable {h : AH} {A : Nat} {σ : ST}
theorem ra_pg (W : RA h A σ) {o p : Nat} (ho : o < 24) (hp : p < 8) : aI h 0 A (J (8 * o + p)) = some (J (pv σ o p)) := by
  obtain ⟨a, C, S⟩ := W
  rw [← S.1 o p ho hp]
  exact aI_at C (by omega) (by decide)
theorem ra_sh (W : RA h A σ) {o : Nat} (ho : o < 24) : aI h 0 A (J (192 + o)) = some (J (nn (σ 4 o))) := by
  obtain ⟨a, C, S⟩ := W
  rw [← S.2.1 o ho]
  exact aI_at C (by omega) (by decide)
theorem ra_pr (W : RA h A σ) {o : Nat} (ho : o < 24) : aI h 0 A (J (216 + o)) = some (J (pr σ o)) := by
  obtain ⟨a, C, S⟩ := W
  rw [← S.2.2.1 o ho]
  exact aI_at C (by omega) (by decide)
theorem ra_dg (W : RA h A σ) {o : Nat} (ho : o < 24) : aI h 0 A (J (240 + o)) = some (J (σ 3 o)) := by
  obtain ⟨a, C, S⟩ := W
  rw [← S.2.2.2.1 o ho]
  exact aI_at C (by omega) (by decide)
theorem ra_cp (W : RA h A σ) {o : Nat} (ho : o < 24) : aI h 0 A (J (264 + o)) = some (J (nn (σ 5 o))) := by
  obtain ⟨a, C, S⟩ := W
  rw [← S.2.2.2.2.1 o ho]
  exact aI_at C (by omega) (by decide)
theorem ra_aw (W : RA h A σ) {o : Nat} (ho : o < 24) : aI h 0 A (J (288 + o)) = some (J (σ 7 o)) := by
  obtain ⟨a, C, S⟩ := W
  rw [← S.2.2.2.2.2.1 o ho]
  exact aI_at C (by omega) (by decide)
theorem ra_tp (W : RA h A σ) {o : Nat} (ho : o < 6) : aI h 0 A (J (312 + o)) = some (J (nn (σ 0 o))) := by
  obtain ⟨a, C, S⟩ := W
  rw [← S.2.2.2.2.2.2.1 o ho]
  exact aI_at C (by omega) (by decide)
theorem ra_sr (W : RA h A σ) {o : Nat} (ho : o < 6) : aI h 0 A (J (318 + o)) = some (J (sb σ o)) := by
  obtain ⟨a, C, S⟩ := W
  rw [← S.2.2.2.2.2.2.2.1 o ho]
  exact aI_at C (by omega) (by decide)
theorem ra_wr (W : RA h A σ)  : aI h 0 A (J (324)) = some (J (σ 1 3)) := by
  obtain ⟨a, C, S⟩ := W
  rw [← S.2.2.2.2.2.2.2.2]
  exact aI_at C (by omega) (by decide)
theorem m_in {a lo hi : Nat} (ha : a < 4294967296) (hl : lo < 2147483648) (hh : hi < 2147483648) : fX11_in h (J a) (J lo) (J hi) = some (decide (lo ≤ a) && decide (a ≤ hi)) := by
  unfold fX11_in
  simp (disch := omega) only [J_lt]
  by_cases h1 : 2147483648 ≤ a ∨ a < lo
  · rw [if_pos h1]
    rcases h1 with h1 | h1
    · rw [decide_eq_false (show ¬ a ≤ hi by omega), Bool.and_false]
    · rw [decide_eq_false (show ¬ lo ≤ a by omega), Bool.false_and]
  · rw [if_neg h1, decide_eq_true (show lo ≤ a by omega), Bool.true_and]
    by_cases h3 : hi < a
    · rw [if_pos (by omega), decide_eq_false (by omega)]
    · rw [if_neg (by omega), decide_eq_true (by omega)]
theorem m_has {a k : Nat} (ha : a < 2147483648) (hk : k < 32) : fX11_has h (J a) (J k) = some (a.testBit k) := by
  unfold fX11_has
  simp (disch := omega) only [tb_shr]
  cases a.testBit k <;> rfl
theorem m_isPage {n : Nat} (hn : n < 4294967296) : fX11_isPage h (J n) = some (decide (n < 8)) := by
  unfold fX11_isPage
  simp (disch := omega) only [l_0, l_7, m_in, Option.bind_some]
  by_cases h1 : n < 8
  · rw [decide_eq_true (show 0 ≤ n by omega), decide_eq_true (show n ≤ 7 by omega), decide_eq_true h1]; rfl
  · rw [decide_eq_false (show ¬ n ≤ 7 by omega), decide_eq_false h1, Bool.and_false]
theorem pr_lt (R : RG σ) {o : Nat} (ho : o < 24) : pr σ o < 4294967296 := by
  unfold pr
  have := (R.2.2.1 o ho).1
  split <;> omega
theorem m_there (W : RA h A σ) (R : RG σ) {o : Nat} (ho : o < 24) : fX11_isThere h A (J o) = some (decide (σ 2 o < 4)) := by
  have r1 := pr_lt R ho
  unfold fX11_isThere
  have e : (216 : Int32) = J 216 := rfl
  simp (disch := omega) only [e, J_add, ra_pr W, Option.bind_some, m1_J, J_inj]
  unfold pr
  by_cases h1 : σ 2 o < 4
  · rw [if_pos h1, if_neg (by omega), decide_eq_true h1]
  · rw [if_neg h1, if_pos rfl, decide_eq_false h1]
theorem m_hs (W : RA h A σ) (R : RG σ) {n : Nat} (hn : n < 4294967296) : fX11_isSpace h A (J n) = some (hs σ n) := by
  unfold fX11_isSpace hs
  simp (disch := omega) only [l_0, l_5, l_312, m_in, Option.bind_some]
  by_cases h1 : n < 6
  · have r1 := nn_lt (R.1 n h1)
    have r2 := R.1 n h1
    rw [decide_eq_true (show 0 ≤ n by omega), decide_eq_true (show n ≤ 5 by omega), if_pos (show (true && true) = true from rfl)]
    simp (disch := omega) only [J_add, ra_tp W, Option.bind_some, m1_J, J_inj, nn_m1 r2, h1, decide_true, Bool.true_and]
    by_cases h2 : σ 0 n = 24
    · rw [if_pos h2, decide_eq_false (by omega)]
    · rw [if_neg h2, decide_eq_true (by omega)]
  · rw [decide_eq_false (show ¬ n ≤ 5 by omega), Bool.and_false, if_neg (by decide), decide_eq_false h1]
    rfl
theorem pv_lt (R : RG σ) {o p : Nat} (ho : o < 24) (hp : p < 8) : pv σ o p < 4294967296 := by
  unfold pv
  have := R.2.2.2.1 (8 * o + p) (by omega)
  split <;> omega
theorem m_hd (W : RA h A σ) (R : RG σ) {o p : Nat} (ho : o < 24) (hp : p < 8) : fX11_holds h A (J o) (J p) = some ((σ 8 o).testBit p) := by
  have r1 := pv_lt R ho hp
  have r2 := R.2.2.2.1 (8 * o + p) (by omega)
  unfold fX11_holds
  simp (disch := omega) only [l_8, J_mul, J_add, ra_pg W, Option.bind_some, m1_J, J_inj]
  unfold pv
  cases h1 : (σ 8 o).testBit p
  · simp
  · rw [if_pos rfl, if_neg (by omega)]
theorem bts_self {n k : Nat} (h : n < 2 ^ k) : bts (fun i => n.testBit i) k = n := by
  apply Nat.eq_of_testBit_eq
  intro i
  rw [bts_tb]
  by_cases hi : i < k
  · rw [decide_eq_true hi]; rfl
  · rw [decide_eq_false hi, tb_hi h (by omega)]; rfl
theorem bts_congr {f g : Nat → Bool} : ∀ {n : Nat}, (∀ i, i < n → f i = g i) → bts f n = bts g n
  | 0, _ => rfl
  | n + 1, h => by
    unfold bts
    rw [bts_congr (fun i hi => h i (by omega)), h n (by omega)]
theorem J_or0 (a : Nat) : J a ||| J 0 = J a := by rw [J_or, Nat.or_zero]
theorem m_pages (W : RA h A σ) (R : RG σ) {o : Nat} (ho : o < 24) : fX11_pagesOf h A (J o) = some (J (σ 8 o)) := by
  have r1 := (R.2.2.1 o ho).2.2.2.2.2
  unfold fX11_pagesOf
  rw [l_0]
  have e := loop_rec (fun q k c => fX11_pagesOf_L4 h q A (J o) (J c) (J k)) 8 (fun k => bts (fun i => (σ 8 o).testBit i) k) (some (J (σ 8 o))) (fun q k hk => by
    try dsimp only
    rw [fX11_pagesOf_L4]
    simp (disch := omega) only [l_8, J_le, m_hd W R, Option.bind_some]
    rw [if_neg (by omega)]
    unfold fX11_pagesOf_J27
    simp only [letF]
    have e1 : J k + 1 = J (k + 1) := by rw [l_1, J_add]
    rw [e1]
    conv => rhs; unfold bts
    by_cases h1 : (σ 8 o).testBit k = true
    · rw [if_pos h1, if_pos h1, J_bset _ (by omega)]
    · rw [if_neg h1, if_neg h1, l_0, J_or0]) (fun q => by
    try dsimp only
    rw [fX11_pagesOf_L4]
    simp (disch := omega) only [l_8, J_le]
    rw [if_pos (by omega), bts_self (k := 8) (by omega)]) 8 FU 0 rfl (FU_gt (by decide))
  exact e
theorem m_frames (W : RA h A σ) (R : RG σ) : fX11_framesOf h A = some (J (tot σ 8)) := by
  unfold fX11_framesOf tot
  rw [l_0]
  refine loop_rec (fun q k c => fX11_framesOf_L4 h q A (J c) (J k)) 24 (sm (fun o => bc (σ 8 o))) _ (fun q k hk => ?_) (fun q => ?_) 24 FU 0 rfl (FU_gt (by decide))
  · have r1 := R.2.2.1 k hk
    try dsimp only
    rw [fX11_framesOf_L4]
    simp (disch := omega) only [l_24, J_le, m_pages W R, Option.bind_some, bc_J, letF, l_1, J_add]
    rw [if_neg (by omega)]
    rfl
  · try dsimp only
    rw [fX11_framesOf_L4]
    simp (disch := omega) only [l_24, J_le]
    rw [if_pos (by omega)]
theorem m_objects (W : RA h A σ) (R : RG σ) : fX11_objectsOf h A = some (J (σ 1 2)) := by
  have r1 := R.2.1.2.2.1
  unfold fX11_objectsOf
  rw [l_0]
  have e := loop_rec (fun q k c => fX11_objectsOf_L4 h q A (J c) (J k)) 24 (fun k => bts (fun i => decide (σ 2 i < 4)) k) (some (J (σ 1 2))) (fun q k hk => by
    try dsimp only
    rw [fX11_objectsOf_L4]
    simp (disch := omega) only [l_24, J_le, m_there W R, Option.bind_some]
    rw [if_neg (by omega)]
    unfold fX11_objectsOf_J26
    simp only [letF]
    have e1 : J k + 1 = J (k + 1) := by rw [l_1, J_add]
    rw [e1]
    conv => rhs; unfold bts
    by_cases h1 : decide (σ 2 k < 4) = true
    · rw [if_pos h1, if_pos h1, J_bset _ (by omega)]
    · rw [if_neg h1, if_neg h1, l_0, J_or0]) (fun q => by
    try dsimp only
    rw [fX11_objectsOf_L4]
    simp (disch := omega) only [l_24, J_le]
    rw [if_pos (by omega), bts_congr (g := fun i => (σ 1 2).testBit i) (fun i hi => (R.2.2.2.2.2.1 i hi).symm), bts_self (k := 24) (by omega)]) 24 FU 0 rfl (FU_gt (by decide))
  exact e
theorem m_spaces (W : RA h A σ) (R : RG σ) : fX11_spacesOf h A = some (J (σ 1 1)) := by
  have r1 := R.2.1.2.1
  unfold fX11_spacesOf
  rw [l_0]
  have e := loop_rec (fun q k c => fX11_spacesOf_L4 h q A (J c) (J k)) 6 (fun k => bts (fun i => hs σ i) k) (some (J (σ 1 1))) (fun q k hk => by
    try dsimp only
    rw [fX11_spacesOf_L4]
    simp (disch := omega) only [l_6, J_le, m_hs W R, Option.bind_some]
    rw [if_neg (by omega)]
    unfold fX11_spacesOf_J26
    simp only [letF]
    have e1 : J k + 1 = J (k + 1) := by rw [l_1, J_add]
    rw [e1]
    conv => rhs; unfold bts
    by_cases h1 : hs σ k = true
    · rw [if_pos h1, if_pos h1, J_bset _ (by omega)]
    · rw [if_neg h1, if_neg h1, l_0, J_or0]) (fun q => by
    try dsimp only
    rw [fX11_spacesOf_L4]
    simp (disch := omega) only [l_6, J_le]
    rw [if_pos (by omega), bts_congr (g := fun i => (σ 1 1).testBit i) (fun i hi => by
      rw [R.2.2.2.2.1 i hi]; unfold hs; rw [decide_eq_true hi]; rfl), bts_self (k := 6) (by omega)]) 6 FU 0 rfl (FU_gt (by decide))
  exact e
def frO (σ : ST) : Nat := lm (σ 1 2) 24 0
def frS (σ : ST) : Nat := lm (σ 1 1) 6 0
theorem m_frO (W : RA h A σ) (R : RG σ) : fX11_freeObject h A = some (J (nn (frO σ))) := by
  unfold fX11_freeObject frO
  rw [l_0]
  have e : ∀ m q k, k + m = 24 → m < q → fX11_freeObject_L2 h q A (J k) = some (J (nn (lm (σ 1 2) m k))) := by
    intro m
    induction m with
    | zero =>
      intro q k h1 h2
      obtain ⟨q, rfl⟩ : ∃ x, q = x + 1 := ⟨q - 1, by omega⟩
      rw [fX11_freeObject_L2]
      simp (disch := omega) only [l_24, J_le]
      rw [if_pos (by omega), m1_J]
      unfold lm nn
      rw [if_pos (by omega)]
    | succ m ih =>
      intro q k h1 h2
      obtain ⟨q, rfl⟩ : ∃ x, q = x + 1 := ⟨q - 1, by omega⟩
      rw [fX11_freeObject_L2]
      simp (disch := omega) only [l_24, J_le, m_there W R, Option.bind_some]
      rw [if_neg (by omega)]
      unfold lm
      rw [R.2.2.2.2.2.1 k (by omega)]
      by_cases h3 : decide (σ 2 k < 4) = true
      · rw [if_pos h3, if_pos h3]
        simp only [letF]
        rw [l_1, J_add]
        exact ih q (k + 1) (by omega) (by omega)
      · rw [if_neg h3, if_neg h3]
        unfold nn
        rw [if_neg (by omega)]
  exact e 24 FU 0 rfl (FU_gt (by decide))
def n6 (x : Nat) : Nat := if x = 6 then 4294967295 else x
theorem m_frS (W : RA h A σ) (R : RG σ) : fX11_freeSpace h A = some (J (n6 (frS σ))) := by
  unfold fX11_freeSpace frS
  rw [l_0]
  have e : ∀ m q k, k + m = 6 → m < q → fX11_freeSpace_L2 h q A (J k) = some (J (n6 (lm (σ 1 1) m k))) := by
    intro m
    induction m with
    | zero =>
      intro q k h1 h2
      obtain ⟨q, rfl⟩ : ∃ x, q = x + 1 := ⟨q - 1, by omega⟩
      rw [fX11_freeSpace_L2]
      simp (disch := omega) only [l_6, J_le]
      rw [if_pos (by omega), m1_J]
      unfold lm n6
      rw [if_pos (by omega)]
    | succ m ih =>
      intro q k h1 h2
      obtain ⟨q, rfl⟩ : ∃ x, q = x + 1 := ⟨q - 1, by omega⟩
      rw [fX11_freeSpace_L2]
      simp (disch := omega) only [l_6, J_le, m_hs W R, Option.bind_some]
      rw [if_neg (by omega)]
      unfold lm
      have h4 : hs σ k = (σ 1 1).testBit k := by
        rw [R.2.2.2.2.1 k (by omega)]; unfold hs; rw [decide_eq_true (show k < 6 by omega)]; rfl
      rw [h4]
      by_cases h3 : (σ 1 1).testBit k = true
      · rw [if_pos h3, if_pos h3]
        simp only [letF]
        rw [l_1, J_add]
        exact ih q (k + 1) (by omega) (by omega)
      · rw [if_neg h3, if_neg h3]
        unfold n6
        rw [if_neg (by omega)]
  exact e 6 FU 0 rfl (FU_gt (by decide))
theorem m_hol (W : RA h A σ) (R : RG σ) {n : Nat} (hn : n < 24) : fX11_holdersOf h A (J n) = some (J (hol σ n)) := by
  unfold fX11_holdersOf hol
  rw [l_0]
  have e2 : ∀ b : Nat, fX11_holdersOf_L37 h FU A (J n) (J b) (J 0) = some (J (b + cnt (fun o => decide (σ 4 o = n)) 24)) := by
    intro b
    refine loop_rec (fun q k c => fX11_holdersOf_L37 h q A (J n) (J c) (J k)) 24 (fun k => b + cnt (fun o => decide (σ 4 o = n)) k) _ (fun q k hk => ?_) (fun q => ?_) 24 FU 0 rfl (FU_gt (by decide))
    · have r1 := R.2.2.1 k hk
      have r2 := nn_lt r1.2.2.1
      have e1 : J k + 1 = J (k + 1) := by rw [l_1, J_add]
      try dsimp only
      rw [fX11_holdersOf_L37]
      simp (disch := omega) only [l_24, J_le, m_there W R, Option.bind_some]
      rw [if_neg (by omega)]
      unfold fX11_holdersOf_J68
      simp only [letF]
      rw [e1]
      by_cases h1 : σ 2 k < 4
      · rw [decide_eq_true h1, if_pos rfl]
        simp (disch := omega) only [l_192, J_add, ra_sh W, Option.bind_some, J_inj, nn_eq hn r1.2.2.1, l_1, l_0]
        by_cases h2 : σ 4 k = n
        · rw [if_pos h2, cnt_yes (decide_eq_true h2), Nat.add_assoc]
        · rw [if_neg h2, cnt_no (fun z => h2 (of_decide_eq_true z)), Nat.add_zero]
      · have r3 := (R.2.2.2.2.2.2 k hk h1).1
        rw [decide_eq_false h1, if_neg (by decide), cnt_no (fun z => absurd (of_decide_eq_true z) (by omega)), l_0, J_add, Nat.add_zero]
    · try dsimp only
      rw [fX11_holdersOf_L37]
      simp (disch := omega) only [l_24, J_le]
      rw [if_pos (by omega)]
  have e1 := loop_rec (fun q k c => fX11_holdersOf_L4 h (fun x8 x9 x10 => fX11_holdersOf_L37 h FU x8 x9 x10 (J 0)) q A (J n) (J c) (J k)) 6 (fun k => cnt (fun s => decide (σ 0 s = n)) k) (some (J (cnt (fun s => decide (σ 0 s = n)) 6 + cnt (fun o => decide (σ 4 o = n)) 24))) (fun q k hk => by
    have r1 := R.1 k hk
    have r2 := nn_lt r1
    have e1 : J k + 1 = J (k + 1) := by rw [l_1, J_add]
    try dsimp only
    rw [fX11_holdersOf_L4]
    simp (disch := omega) only [l_6, J_le]
    rw [if_neg (by omega)]
    unfold fX11_holdersOf_J27
    simp only [letF]
    rw [e1]
    simp (disch := omega) only [l_312, J_add, ra_tp W, Option.bind_some, J_inj, nn_eq hn r1]
    by_cases h1 : σ 0 k = n
    · rw [if_pos h1, cnt_yes (decide_eq_true h1), l_1, J_add]
    · rw [if_neg h1, cnt_no (fun z => h1 (of_decide_eq_true z)), l_0, J_add, Nat.add_zero]) (fun q => by
    try dsimp only
    rw [fX11_holdersOf_L4]
    simp (disch := omega) only [l_6, J_le]
    rw [if_pos (by omega)]
    exact e2 _) 6 FU 0 rfl (FU_gt (by decide))
  exact e1
end RA
/-! chains -/
def itr (σ : ST) : Nat → Nat → Nat
  | 0, o => o
  | k + 1, o => itr σ k (σ 4 o)
def ends (σ : ST) : Nat → Nat → Prop
  | 0, o => ¬ o < 24
  | k + 1, o => o < 24 → ends σ k (σ 4 o)
/-- the graph: what is named is there; shadows go down -/
def GR (σ : ST) : Prop := (∀ s, s < 6 → σ 0 s < 24 → σ 2 (σ 0 s) < 4) ∧ (∀ o, o < 24 → σ 4 o < 24 → σ 2 (σ 4 o) < 4) ∧ (∀ o, o < 24 → σ 5 o < 24 → σ 2 (σ 5 o) < 4) ∧ ∃ rk : Nat → Nat, ∀ o, o < 24 → σ 4 o < 24 → rk (σ 4 o) < rk o
theorem ends_mono {σ : ST} : ∀ {k m o : Nat}, k ≤ m → ends σ k o → ends σ m o
  | 0, 0, o, _, h => h
  | 0, m + 1, o, _, h => fun h1 => absurd h1 h
  | k + 1, m + 1, o, hm, h => fun h1 => ends_mono (by omega) (h h1)
theorem ends_GR {σ : ST} (G : GR σ) (o : Nat) : ends σ 24 o := by
  obtain ⟨-, -, -, rk, hrk⟩ := G
  have key : ∀ n o, o < 24 → rk o = n → ends σ (cnt (fun i => decide (rk i ≤ rk o)) 24) o := by
    intro n
    induction n using Nat.strongRecOn with
    | ind n ih =>
      intro o ho hn
      by_cases h1 : σ 4 o < 24
      · have h2 := hrk o ho h1
        have h3 := ih (rk (σ 4 o)) (by omega) (σ 4 o) h1 rfl
        have h4 : cnt (fun i => decide (rk i ≤ rk (σ 4 o))) 24 < cnt (fun i => decide (rk i ≤ rk o)) 24 := cnt_lt (p := o) (fun i hi => by
          have : rk i ≤ rk (σ 4 o) := of_decide_eq_true hi
          exact decide_eq_true (by omega)) (decide_eq_false (by omega)) (decide_eq_true (Nat.le_refl _)) ho
        exact ends_mono h4 (fun _ => h3)
      · have h4 : 0 < cnt (fun i => decide (rk i ≤ rk o)) 24 := Nat.lt_of_le_of_lt (Nat.zero_le _) (cnt_lt (f := fun _ => false) (p := o) (fun i hi => by cases hi) rfl (decide_eq_true (Nat.le_refl _)) ho)
        exact ends_mono h4 (fun _ => h1)
  by_cases ho : o < 24
  · exact ends_mono cnt_le (key _ o ho rfl)
  · exact ends_mono (Nat.zero_le _) (show ends σ 0 o from ho)
