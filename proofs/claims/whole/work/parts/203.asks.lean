/-! loops; what is asked of a world, by the class -/
def sm (f : Nat → Nat) : Nat → Nat
  | 0 => 0
  | n + 1 => sm f n + f n
theorem sm_congr {f g : Nat → Nat} : ∀ {n : Nat}, (∀ i, i < n → f i = g i) → sm f n = sm g n
  | 0, _ => rfl
  | n + 1, h => by
    show sm f n + _ = sm g n + _
    rw [sm_congr (fun i hi => h i (by omega)), h n (by omega)]
theorem cnt_sm (f : Nat → Bool) : ∀ n, cnt f n = sm (fun i => if f i = true then 1 else 0) n
  | 0 => rfl
  | n + 1 => by
    show cnt f n + _ = sm _ n + _
    rw [cnt_sm f n]
def bts (f : Nat → Bool) : Nat → Nat
  | 0 => 0
  | n + 1 => if f n = true then bset (bts f n) n else bts f n
theorem bts_tb (f : Nat → Bool) (i : Nat) : ∀ n, (bts f n).testBit i = (decide (i < n) && f i)
  | 0 => by rw [show bts f 0 = 0 from rfl, Nat.zero_testBit]; simp
  | n + 1 => by
    have ih := bts_tb f i n
    unfold bts
    by_cases hn : f n = true
    · rw [if_pos hn, bset_tb, ih]
      by_cases h1 : i = n
      · subst h1; simp [hn]
      · by_cases h2 : i < n
        · simp [h1, h2, show i < n + 1 by omega]
        · simp [h1, h2, show ¬ i < n + 1 by omega]
    · rw [if_neg hn, ih]
      by_cases h1 : i = n
      · subst h1; simp [hn]
      · by_cases h2 : i < n
        · simp [h2, show i < n + 1 by omega]
        · simp [h2, show ¬ i < n + 1 by omega]
theorem bts_lt (f : Nat → Bool) (n : Nat) : bts f n < 2 ^ n := tb_lt fun i hi => by
  rw [bts_tb, decide_eq_false (by omega)]
  rfl
def exB (f : Nat → Bool) : Nat → Nat → Bool
  | 0, _ => false
  | m + 1, k => f k || exB f m (k + 1)
theorem exB_iff (f : Nat → Bool) : ∀ m k, exB f m k = true ↔ ∃ i, k ≤ i ∧ i < k + m ∧ f i = true
  | 0, k => ⟨fun h => (by cases h), fun ⟨i, h1, h2, _⟩ => (by omega)⟩
  | m + 1, k => by
    unfold exB
    rw [Bool.or_eq_true, exB_iff f m (k + 1)]
    constructor
    · rintro (h | ⟨i, h1, h2, h3⟩)
      · exact ⟨k, Nat.le_refl _, by omega, h⟩
      · exact ⟨i, by omega, by omega, h3⟩
    · rintro ⟨i, h1, h2, h3⟩
      by_cases hk : i = k
      · subst hk; exact Or.inl h3
      · exact Or.inr ⟨i, by omega, by omega, h3⟩
theorem loop_rec {β γ : Type} (F : Nat → Nat → β → Option γ) (N : Nat) (r : Nat → β) (fin : Option γ) (hs : ∀ n k, k < N → F (n + 1) k (r k) = F n (k + 1) (r (k + 1))) (he : ∀ n, F (n + 1) N (r N) = fin) : ∀ m n k, k + m = N → m < n → F n k (r k) = fin
  | 0, n + 1, k, h1, _ => by
    have : k = N := by omega
    subst this
    exact he n
  | m + 1, n + 1, k, h1, h2 => by
    rw [hs n k (by omega)]
    exact loop_rec F N r fin hs he m n (k + 1) (by omega) (by omega)
theorem cnt_yes {f : Nat → Bool} {n : Nat} (h : f n = true) : cnt f (n + 1) = cnt f n + 1 := by
  show cnt f n + _ = _
  rw [if_pos h]
theorem cnt_no {f : Nat → Bool} {n : Nat} (h : ¬ f n = true) : cnt f (n + 1) = cnt f n := by
  show cnt f n + _ = _
  rw [if_neg h, Nat.add_zero]
theorem FU_gt {m : Nat} (h : m < 4096) : m < FU := h
def hol (σ : ST) (n : Nat) : Nat := cnt (fun s => decide (σ 0 s = n)) 6 + cnt (fun o => decide (σ 4 o = n)) 24
def tot (σ : ST) (f : Nat) : Nat := sm (fun o => bc (σ f o)) 24
section CQ
variable {h : AH} {w : Nat} {σ : ST}
theorem c_isSharing (W : WR h w σ) (R : RG σ) {n : Nat} (hn : n < 4294967296) : fX9_isSharing h w (J n) = some ((σ 1 0).testBit n) := by
  unfold fX9_isSharing
  have r1 := R.2.1.1
  simp (disch := omega) only [wr_h W, if_true, wr_i1 W, Option.bind_some, c_isIn]
theorem c_heldOf (W : WR h w σ) (R : RG σ) {n : Nat} (hn : n < 4294967296) : fX9_heldOf h w (J n) = some (J (at0 σ 8 n)) := by
  unfold fX9_heldOf at0
  simp (disch := omega) only [wr_h W, if_true, c_ho W R, Option.bind_some]
  by_cases h1 : ho σ n = true
  · obtain ⟨h2, h3⟩ := ho_lt h1
    rw [if_pos h1, if_pos h2]
    simp (disch := omega) only [wr_r5 W, wr_a1 W, Option.bind_some]
  · rw [if_neg h1]
    by_cases h2 : n < 24
    · have h3 : ¬ σ 2 n < 4 := fun h3 => h1 (by unfold ho; simp [h2, h3])
      have h4 := R.2.2.2.2.2.2 n h2 h3
      rw [if_pos h2]
      rw [h4.2.2.2]
      rfl
    · rw [if_neg h2]; rfl
theorem c_awaitedOf (W : WR h w σ) (R : RG σ) {n : Nat} (hn : n < 4294967296) : fX9_awaitedOf h w (J n) = some (J (at0 σ 7 n)) := by
  unfold fX9_awaitedOf at0
  simp (disch := omega) only [wr_h W, if_true, c_ho W R, Option.bind_some]
  by_cases h1 : ho σ n = true
  · obtain ⟨h2, h3⟩ := ho_lt h1
    rw [if_pos h1, if_pos h2]
    simp (disch := omega) only [wr_r6 W, wr_a2 W, Option.bind_some]
  · rw [if_neg h1]
    by_cases h2 : n < 24
    · have h3 : ¬ σ 2 n < 4 := fun h3 => h1 (by unfold ho; simp [h2, h3])
      have h4 := R.2.2.2.2.2.2 n h2 h3
      rw [if_pos h2]
      rw [h4.2.2.1]
      rfl
    · rw [if_neg h2]; rfl
theorem c_shadowOf (W : WR h w σ) (R : RG σ) {n : Nat} (hn : n < 4294967296) : fX9_shadowOf h w (J n) = some (J (at24 σ 4 n)) := by
  unfold fX9_shadowOf at24
  simp (disch := omega) only [wr_h W, if_true, c_ho W R, Option.bind_some]
  by_cases h1 : ho σ n = true
  · obtain ⟨h2, h3⟩ := ho_lt h1
    rw [if_pos h1, if_pos h2]
    simp (disch := omega) only [wr_r7 W, wr_a3 W, Option.bind_some]
  · rw [if_neg h1]
    by_cases h2 : n < 24
    · have h3 : ¬ σ 2 n < 4 := fun h3 => h1 (by unfold ho; simp [h2, h3])
      have h4 := R.2.2.2.2.2.2 n h2 h3
      rw [if_pos h2, h4.1]
      rfl
    · rw [if_neg h2]; rfl
theorem c_copyOf (W : WR h w σ) (R : RG σ) {n : Nat} (hn : n < 4294967296) : fX9_copyOf h w (J n) = some (J (at24 σ 5 n)) := by
  unfold fX9_copyOf at24
  simp (disch := omega) only [wr_h W, if_true, c_ho W R, Option.bind_some]
  by_cases h1 : ho σ n = true
  · obtain ⟨h2, h3⟩ := ho_lt h1
    rw [if_pos h1, if_pos h2]
    simp (disch := omega) only [wr_r8 W, wr_a4 W, Option.bind_some]
  · rw [if_neg h1]
    by_cases h2 : n < 24
    · have h3 : ¬ σ 2 n < 4 := fun h3 => h1 (by unfold ho; simp [h2, h3])
      have h4 := R.2.2.2.2.2.2 n h2 h3
      rw [if_pos h2, h4.2.1]
      rfl
    · rw [if_neg h2]; rfl
def pgr (σ : ST) (n : Nat) : Nat := if ho σ n = true then σ 2 n else 0
def dgt (σ : ST) (n : Nat) : Nat := if ho σ n = true then σ 3 n else 0
theorem c_pagerOf (W : WR h w σ) (R : RG σ) {n : Nat} (hn : n < 4294967296) : fX9_pagerOf h w (J n) = some (J (pgr σ n)) := by
  unfold fX9_pagerOf pgr
  simp (disch := omega) only [wr_h W, if_true, c_ho W R, Option.bind_some]
  by_cases h1 : ho σ n = true
  · obtain ⟨h2, h3⟩ := ho_lt h1
    rw [if_pos h1, if_pos h1]
    simp (disch := omega) only [wr_r9 W, wr_a5 W, Option.bind_some]
  · rw [if_neg h1, if_neg h1]; rfl
theorem c_digitOf (W : WR h w σ) (R : RG σ) {n : Nat} (hn : n < 4294967296) : fX9_digitOf h w (J n) = some (J (dgt σ n)) := by
  unfold fX9_digitOf dgt
  simp (disch := omega) only [wr_h W, if_true, c_ho W R, Option.bind_some]
  by_cases h1 : ho σ n = true
  · obtain ⟨h2, h3⟩ := ho_lt h1
    rw [if_pos h1, if_pos h1]
    simp (disch := omega) only [wr_r10 W, wr_a6 W, Option.bind_some]
  · rw [if_neg h1, if_neg h1]; rfl
theorem c_frameTotal (W : WR h w σ) (R : RG σ) : fX9_frameTotal h w = some (J (tot σ 8)) := by
  unfold fX9_frameTotal tot
  simp only [wr_h W, if_true, l_0]
  refine loop_rec (fun n k b => fX9_frameTotal_L4 h n w (J b) (J k)) 24 (sm (fun o => bc (σ 8 o))) _ (fun n k hk => ?_) (fun n => ?_) 24 FU 0 rfl (FU_gt (by decide))
  · have r1 := R.2.2.1 k hk
    try dsimp only
    rw [fX9_frameTotal_L4]
    simp (disch := omega) only [l_24, J_le, wr_r5 W, wr_a1 W, Option.bind_some, bc_J, letF, l_1, J_add]
    rw [if_neg (by omega)]
    rfl
  · try dsimp only
    rw [fX9_frameTotal_L4]
    simp (disch := omega) only [l_24, J_le]
    rw [if_pos (by omega)]
theorem c_awaitedTotal (W : WR h w σ) (R : RG σ) : fX9_awaitedTotal h w = some (J (tot σ 7)) := by
  unfold fX9_awaitedTotal tot
  simp only [wr_h W, if_true, l_0]
  refine loop_rec (fun n k b => fX9_awaitedTotal_L4 h n w (J b) (J k)) 24 (sm (fun o => bc (σ 7 o))) _ (fun n k hk => ?_) (fun n => ?_) 24 FU 0 rfl (FU_gt (by decide))
  · have r1 := R.2.2.1 k hk
    try dsimp only
    rw [fX9_awaitedTotal_L4]
    simp (disch := omega) only [l_24, J_le, wr_r6 W, wr_a2 W, Option.bind_some, bc_J, letF, l_1, J_add]
    rw [if_neg (by omega)]
    rfl
  · try dsimp only
    rw [fX9_awaitedTotal_L4]
    simp (disch := omega) only [l_24, J_le]
    rw [if_pos (by omega)]
theorem c_objectTotal (W : WR h w σ) (R : RG σ) : fX9_objectTotal h w = some (J (bc (σ 1 2))) := by
  unfold fX9_objectTotal
  have r1 := R.2.1
  simp (disch := omega) only [wr_h W, if_true, wr_i2 W, Option.bind_some, bc_J]
theorem c_spaceTotal (W : WR h w σ) (R : RG σ) : fX9_spaceTotal h w = some (J (bc (σ 1 1))) := by
  unfold fX9_spaceTotal
  have r1 := R.2.1
  simp (disch := omega) only [wr_h W, if_true, wr_i0 W, Option.bind_some, bc_J]
theorem c_sharingTotal (W : WR h w σ) (R : RG σ) : fX9_sharingTotal h w = some (J (bc (σ 1 0))) := by
  unfold fX9_sharingTotal
  have r1 := R.2.1
  simp (disch := omega) only [wr_h W, if_true, wr_i1 W, Option.bind_some, bc_J]
theorem c_writeTotal (W : WR h w σ) : fX9_writeTotal h w = some (J (σ 1 3)) := by
  unfold fX9_writeTotal
  simp only [wr_h W, if_true, wr_i3 W, Option.bind_some]
theorem c_spaceSet (W : WR h w σ) : fX9_spaceSet h w = some (J (σ 1 1)) := by
  unfold fX9_spaceSet
  simp only [wr_h W, if_true, wr_i0 W, Option.bind_some]
theorem c_objectSet (W : WR h w σ) : fX9_objectSet h w = some (J (σ 1 2)) := by
  unfold fX9_objectSet
  simp only [wr_h W, if_true, wr_i2 W, Option.bind_some]
theorem c_chain_L (W : WR h w σ) (R : RG σ) : ∀ m n k o, k + m = 24 → m < n → o ≤ 24 → fX9_chainLength_L8 h n w (J k) (J o) = some (J (k + dep σ m o))
  | 0, n + 1, k, o, h1, _, _ => by
    rw [fX9_chainLength_L8]
    simp (disch := omega) only [l_24, J_le]
    rw [if_pos (by omega)]
    rfl
  | m + 1, n + 1, k, o, h1, h2, h3 => by
    rw [fX9_chainLength_L8]
    unfold dep
    simp (disch := omega) only [l_24, J_le, c_ho W R, Option.bind_some]
    rw [if_neg (by omega)]
    by_cases h4 : ho σ o = true
    · obtain ⟨h5, h6⟩ := ho_lt h4
      have r1 := R.2.2.1 o h5
      rw [if_pos h4, if_pos h4]
      simp (disch := omega) only [wr_r7 W, wr_a3 W, Option.bind_some, letF, l_1, J_add]
      rw [c_chain_L W R m n (k + 1) (σ 4 o) (by omega) (by omega) (by omega)]
      congr 2
      omega
    · rw [if_neg h4, if_neg h4]
      rfl
theorem tp_le (R : RG σ) (n : Nat) : tp σ n ≤ 24 := by
  unfold tp
  split
  · exact R.1 n (by assumption)
  · exact Nat.le_refl _
theorem c_chain (W : WR h w σ) (R : RG σ) {n : Nat} (hn : n < 4294967296) : fX9_chainLength h w (J n) = some (J (dep σ 24 (tp σ n))) := by
  unfold fX9_chainLength
  simp (disch := omega) only [wr_h W, if_true, c_tp W R, Option.bind_some, l_0]
  rw [c_chain_L W R 24 FU 0 (tp σ n) rfl (FU_gt (by decide)) (tp_le R n), Nat.zero_add]
theorem c_place_L (W : WR h w σ) (R : RG σ) {x : Nat} (hx : x < 4294967296) : ∀ m n k o, k + m = 24 → m < n → o ≤ 24 → fX9_placeOf_L9 h n w (J x) (J k) (J o) = some (J (k + plc σ x m o))
  | 0, n + 1, k, o, h1, _, _ => by
    rw [fX9_placeOf_L9]
    simp (disch := omega) only [l_24, J_le]
    rw [if_pos (by omega)]
    rfl
  | m + 1, n + 1, k, o, h1, h2, h3 => by
    rw [fX9_placeOf_L9]
    unfold plc
    simp (disch := omega) only [l_24, J_le, c_ho W R, Option.bind_some]
    rw [if_neg (by omega)]
    by_cases h4 : ho σ o = true
    · obtain ⟨h5, h6⟩ := ho_lt h4
      have r1 := R.2.2.1 o h5
      rw [if_pos h4]
      simp (disch := omega) only [J_inj]
      by_cases h7 : o = x
      · rw [if_pos h7, if_neg (fun z => z.2 h7)]
        rfl
      · rw [if_neg h7, if_pos ⟨h4, h7⟩]
        simp (disch := omega) only [wr_r7 W, wr_a3 W, Option.bind_some, letF, l_1, J_add]
        rw [c_place_L W R hx m n (k + 1) (σ 4 o) (by omega) (by omega) (by omega)]
        congr 2
        omega
    · rw [if_neg h4, if_neg (fun z => h4 z.1)]
      rfl
theorem c_place (W : WR h w σ) (R : RG σ) {n x : Nat} (hn : n < 4294967296) (hx : x < 4294967296) : fX9_placeOf h w (J n) (J x) = some (J (plc σ x 24 (tp σ n))) := by
  unfold fX9_placeOf
  simp (disch := omega) only [wr_h W, if_true, c_tp W R, Option.bind_some, l_0]
  rw [c_place_L W R hx 24 FU 0 (tp σ n) rfl (FU_gt (by decide)) (tp_le R n), Nat.zero_add]
theorem c_fh_L (W : WR h w σ) (R : RG σ) {p : Nat} (hp : p < 4294967296) : ∀ m n k o, k + m = 24 → m < n → o ≤ 24 → fX9_firstHolder_L9 h n w (J p) (J o) (J k) = some (J (fh σ p m o))
  | 0, n + 1, k, o, h1, _, _ => by
    rw [fX9_firstHolder_L9]
    simp (disch := omega) only [l_24, J_le]
    rw [if_pos (by omega)]
    rfl
  | m + 1, n + 1, k, o, h1, h2, h3 => by
    rw [fX9_firstHolder_L9]
    unfold fh
    simp (disch := omega) only [l_24, J_le, c_ho W R, Option.bind_some]
    rw [if_neg (by omega)]
    by_cases h4 : ho σ o = true
    · obtain ⟨h5, h6⟩ := ho_lt h4
      have r1 := R.2.2.1 o h5
      rw [if_pos h4, if_pos h4]
      simp (disch := omega) only [c_hd W R, Option.bind_some]
      by_cases h7 : hd σ o p = true
      · rw [if_pos h7, if_pos h7]
      · rw [if_neg h7, if_neg h7]
        simp (disch := omega) only [wr_r7 W, wr_a3 W, Option.bind_some, letF, l_1, J_add]
        exact c_fh_L W R hp m n (k + 1) (σ 4 o) (by omega) (by omega) (by omega)
    · rw [if_neg h4, if_neg h4]
theorem c_fh (W : WR h w σ) (R : RG σ) {n p : Nat} (hn : n < 4294967296) (hp : p < 4294967296) : fX9_firstHolder h w (J n) (J p) = some (J (fh σ p 24 (tp σ n))) := by
  unfold fX9_firstHolder
  simp (disch := omega) only [wr_h W, if_true, c_tp W R, Option.bind_some, l_0]
  exact c_fh_L W R hp 24 FU 0 (tp σ n) rfl (FU_gt (by decide)) (tp_le R n)
theorem at24_le {f n : Nat} (R : RG σ) (hf : f = 4 ∨ f = 5) : at24 σ f n ≤ 24 := by
  unfold at24
  split
  · have := R.2.2.1 n (by assumption)
    rcases hf with rfl | rfl <;> omega
  · exact Nat.le_refl _
theorem c_lst_L (W : WR h w σ) (R : RG σ) : ∀ m n k o, k + m = 24 → m < n → o ≤ 24 → fX9_lastOf_L8 h n w (J o) (J k) = some (J (lst σ m o))
  | 0, n + 1, k, o, h1, _, _ => by
    rw [fX9_lastOf_L8]
    simp (disch := omega) only [l_24, J_le]
    rw [if_pos (by omega)]
    rfl
  | m + 1, n + 1, k, o, h1, h2, h3 => by
    have r2 := at24_le (f := 4) (n := o) R (Or.inl rfl)
    rw [fX9_lastOf_L8]
    unfold lst
    simp (disch := omega) only [l_24, J_le, c_shadowOf W R, c_ho W R, Option.bind_some]
    rw [if_neg (by omega)]
    by_cases h4 : ho σ (at24 σ 4 o) = true
    · have h5 : o < 24 := by
        unfold at24 at h4
        by_cases h5 : o < 24
        · exact h5
        · rw [if_neg h5] at h4
          exact absurd (ho_lt h4).1 (by omega)
      have r1 := R.2.2.1 o h5
      rw [if_pos h4, if_pos h4]
      simp (disch := omega) only [wr_r7 W, wr_a3 W, Option.bind_some, letF, l_1, J_add]
      exact c_lst_L W R m n (k + 1) (σ 4 o) (by omega) (by omega) (by omega)
    · rw [if_neg h4, if_neg h4]
theorem c_lst (W : WR h w σ) (R : RG σ) {n : Nat} (hn : n < 4294967296) : fX9_lastOf h w (J n) = some (J (lst σ 24 (tp σ n))) := by
  unfold fX9_lastOf
  simp (disch := omega) only [wr_h W, if_true, c_tp W R, Option.bind_some, l_0]
  exact c_lst_L W R 24 FU 0 (tp σ n) rfl (FU_gt (by decide)) (tp_le R n)
theorem lst_le (R : RG σ) : ∀ m o, o ≤ 24 → lst σ m o ≤ 24
  | 0, o, h => h
  | m + 1, o, h => by
    unfold lst
    split
    · rename_i h4
      have h5 : o < 24 := by
        unfold at24 at h4
        by_cases h5 : o < 24
        · exact h5
        · rw [if_neg h5] at h4
          exact absurd (ho_lt h4).1 (by omega)
      exact lst_le R m _ (R.2.2.1 o h5).2.2.1
    · exact h
theorem fh_le {p : Nat} : ∀ m o, fh σ p m o ≤ 24
  | 0, o => Nat.le_refl _
  | m + 1, o => by
    unfold fh
    split
    · rename_i h
      split
      · exact Nat.le_of_lt (ho_lt h).1
      · exact fh_le m _
    · exact Nat.le_refl _
theorem c_hol (W : WR h w σ) (R : RG σ) {n : Nat} (hn : n < 4294967296) : fX9_holderTotal h w (J n) = some (J (hol σ n)) := by
  unfold fX9_holderTotal hol
  simp only [wr_h W, if_true, l_0]
  have e2 : ∀ b : Nat, fX9_holderTotal_L36 h FU w (J n) (J b) (J 0) = some (J (b + cnt (fun o => decide (σ 4 o = n)) 24)) := by
    intro b
    refine loop_rec (fun q k c => fX9_holderTotal_L36 h q w (J n) (J c) (J k)) 24 (fun k => b + cnt (fun o => decide (σ 4 o = n)) k) _ (fun q k hk => ?_) (fun q => ?_) 24 FU 0 rfl (FU_gt (by decide))
    · have r1 := R.2.2.1 k hk
      try dsimp only
      rw [fX9_holderTotal_L36]
      simp (disch := omega) only [l_24, J_le, wr_r7 W, wr_a3 W, Option.bind_some, J_inj]
      rw [if_neg (by omega)]
      unfold fX9_holderTotal_J58
      simp only [letF, l_1, l_0, J_add]
      by_cases h1 : σ 4 k = n
      · rw [if_pos h1, cnt_yes (decide_eq_true h1), Nat.add_assoc]
      · rw [if_neg h1, cnt_no (fun z => h1 (of_decide_eq_true z)), Nat.add_zero]
    · try dsimp only
      rw [fX9_holderTotal_L36]
      simp (disch := omega) only [l_24, J_le]
      rw [if_pos (by omega)]
  have e1 := loop_rec (fun q k c => fX9_holderTotal_L4 h (fun x9 x10 x11 => fX9_holderTotal_L36 h FU x9 x10 x11 (J 0)) q w (J n) (J c) (J k)) 6 (fun k => cnt (fun s => decide (σ 0 s = n)) k) (some (J (cnt (fun s => decide (σ 0 s = n)) 6 + cnt (fun o => decide (σ 4 o = n)) 24))) (fun q k hk => by
    have r1 := R.1 k hk
    try dsimp only
    rw [fX9_holderTotal_L4]
    simp (disch := omega) only [l_6, J_le, wr_r4 W, wr_a0 W, Option.bind_some, J_inj]
    rw [if_neg (by omega)]
    unfold fX9_holderTotal_J26
    simp only [letF, l_1, l_0, J_add]
    by_cases h1 : σ 0 k = n
    · rw [if_pos h1, cnt_yes (decide_eq_true h1)]
    · rw [if_neg h1, cnt_no (fun z => h1 (of_decide_eq_true z)), Nat.add_zero]) (fun q => by
    try dsimp only
    rw [fX9_holderTotal_L4]
    simp (disch := omega) only [l_6, J_le]
    rw [if_pos (by omega)]
    exact e2 _) 6 FU 0 rfl (FU_gt (by decide))
  exact e1
end CQ
