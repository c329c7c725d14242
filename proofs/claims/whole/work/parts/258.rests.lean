/-! the first pair told; the best of pairs -/
theorem jdiv_J {a b : Nat} (ha : a < 2147483648) (hb : 0 < b) (hb2 : b < 2147483648) : jdiv (J a) (J b) = some (J (a / b)) := by
  unfold jdiv
  have hb0 : ¬ J b = 0 := fun z => by rw [l_0, J_inj (by omega) (by omega)] at z; omega
  rw [if_neg hb0]
  congr 1
  have hq : a / b ≤ a := Nat.div_le_self a b
  apply Int32.toInt_inj.mp
  rw [J_toInt (show a / b < 2147483648 by omega), Int32.toInt_div, J_toInt ha, J_toInt hb2, Int.tdiv_eq_ediv_of_nonneg (by omega)]
  have this : ((a : Int) / (b : Int)) = ((a / b : Nat) : Int) := rfl
  rw [this, Int.bmod_def]
  clear this
  generalize a / b = q at hq ⊢
  split <;> omega
theorem jmax_J {a b : Nat} (ha : a < 2147483648) (hb : b < 2147483648) : jmax (J a) (J b) = J (max a b) := by
  unfold jmax
  by_cases z : a < b
  · rw [if_pos (by rw [J_lt (by omega) hb]; omega), Nat.max_eq_right (by omega)]
  · rw [if_neg (fun y => by rw [J_lt (by omega) hb] at y; omega), Nat.max_eq_left (by omega)]
def fstep (P : Bool) (a b : Nat) (st : Nat × List Int64) : Nat × List Int64 := if P = true then (st.1 + 1, if st.1 = 0 then [Int32.toInt64 (J a), Int32.toInt64 (J b)] else st.2) else st
def tfP (P : Nat → Nat → Bool) (x : Nat) : Nat → Nat × List Int64 → Nat × List Int64
  | 0, st => st
  | y + 1, st => fstep (P x y) x y (tfP P x y st)
def tfO (P : Nat → Nat → Bool) (m : Nat) : Nat → Nat × List Int64
  | 0 => (0, [])
  | x + 1 => tfP P x m (tfO P m x)
theorem fstep_i {P : Bool} {a b : Nat} {st : Nat × List Int64} (H : HI st) : HI (fstep P a b st) ∧ (fstep P a b st).1 ≤ st.1 + 1 := by
  obtain ⟨h1, h2⟩ := H
  unfold fstep
  by_cases z : P = true
  · rw [if_pos z]
    refine ⟨⟨fun y => absurd y (Nat.succ_ne_zero _), ?_⟩, Nat.le_refl _⟩
    show (if st.1 = 0 then [Int32.toInt64 (J a), Int32.toInt64 (J b)] else st.2).length ≤ 2
    split
    · exact Nat.le_refl _
    · exact h2
  · rw [if_neg z]
    exact ⟨⟨h1, h2⟩, by omega⟩
theorem tfP_i {P : Nat → Nat → Bool} {x : Nat} {st : Nat × List Int64} (H : HI st) : ∀ k, HI (tfP P x k st) ∧ (tfP P x k st).1 ≤ st.1 + k
  | 0 => ⟨H, Nat.le_refl _⟩
  | k + 1 => by
    obtain ⟨h1, h2⟩ := tfP_i H k (P := P) (x := x)
    obtain ⟨h3, h4⟩ := fstep_i h1 (P := P x k) (a := x) (b := k)
    exact ⟨h3, by show (fstep (P x k) x k (tfP P x k st)).1 ≤ _; omega⟩
theorem tfO_i {P : Nat → Nat → Bool} {m : Nat} : ∀ k, HI (tfO P m k) ∧ (tfO P m k).1 ≤ m * k
  | 0 => ⟨⟨fun _ => rfl, Nat.zero_le _⟩, Nat.le_refl _⟩
  | k + 1 => by
    obtain ⟨h1, h2⟩ := tfO_i k (P := P) (m := m)
    obtain ⟨h3, h4⟩ := tfP_i h1 m (P := P) (x := k)
    refine ⟨h3, ?_⟩
    show (tfP P k m (tfO P m k)).1 ≤ m * (k + 1)
    rw [Nat.mul_succ]
    omega
def sel (v c : Nat) (st : Nat × Nat) : Nat × Nat := if c < st.2 then (v, c) else st
def slP (V K : Nat → Nat → Nat) (x : Nat) : Nat → Nat × Nat → Nat × Nat
  | 0, st => st
  | y + 1, st => sel (V x y) (K x y) (slP V K x y st)
def slO (V K : Nat → Nat → Nat) (m : Nat → Nat) : Nat → Nat × Nat → Nat × Nat
  | 0, st => st
  | x + 1, st => slP V K x (m x) (slO V K m x st)
theorem sel_le {v c : Nat} {st : Nat × Nat} : (sel v c st).2 ≤ st.2 ∧ (sel v c st).2 ≤ c := by
  unfold sel
  split
  · exact ⟨by show c ≤ st.2; omega, Nat.le_refl _⟩
  · exact ⟨Nat.le_refl _, by omega⟩
theorem slP_le {V K : Nat → Nat → Nat} {x : Nat} {st : Nat × Nat} : ∀ k, (slP V K x k st).2 ≤ st.2
  | 0 => Nat.le_refl _
  | k + 1 => Nat.le_trans sel_le.1 (slP_le k)
theorem slO_le {V K : Nat → Nat → Nat} {m : Nat → Nat} {st : Nat × Nat} : ∀ k, (slO V K m k st).2 ≤ st.2
  | 0 => Nat.le_refl _
  | k + 1 => Nat.le_trans (slP_le (m k)) (slO_le k)
theorem slP_first {V K : Nat → Nat → Nat} {st st' : Nat × Nat} (h : K 0 0 < st.2) (h' : K 0 0 < st'.2) : ∀ k, slP V K 0 (k + 1) st = slP V K 0 (k + 1) st'
  | 0 => by
    show sel _ _ st = sel _ _ st'
    unfold sel
    rw [if_pos h, if_pos h']
  | k + 1 => by
    show sel _ _ (slP V K 0 (k + 1) st) = sel _ _ (slP V K 0 (k + 1) st')
    rw [slP_first h h' k]
theorem slO_first {V K : Nat → Nat → Nat} {m : Nat → Nat} {st st' : Nat × Nat} (h : K 0 0 < st.2) (h' : K 0 0 < st'.2) (hm : 0 < m 0) : ∀ k, slO V K m (k + 1) st = slO V K m (k + 1) st'
  | 0 => by
    show slP V K 0 (m 0) st = slP V K 0 (m 0) st'
    obtain ⟨j, hj⟩ : ∃ j, m 0 = j + 1 := ⟨m 0 - 1, by omega⟩
    rw [hj]
    exact slP_first h h' j
  | k + 1 => by
    show slP V K (k + 1) _ (slO V K m (k + 1) st) = slP V K (k + 1) _ (slO V K m (k + 1) st')
    rw [slO_first h h' hm k]
theorem slP_pos {V K : Nat → Nat → Nat} {x : Nat} (hK : ∀ y, 0 < K x y) {st : Nat × Nat} (hs : 0 < st.2) : ∀ k, 0 < (slP V K x k st).2
  | 0 => hs
  | k + 1 => by
    show 0 < (sel _ _ (slP V K x k st)).2
    unfold sel
    split
    · exact hK k
    · exact slP_pos hK hs k
theorem slO_pos {V K : Nat → Nat → Nat} {m : Nat → Nat} (hK : ∀ x y, 0 < K x y) {st : Nat × Nat} (hs : 0 < st.2) : ∀ k, 0 < (slO V K m k st).2
  | 0 => hs
  | k + 1 => slP_pos (hK k) (slO_pos hK hs k) (m k)
theorem slO_zero {V K : Nat → Nat → Nat} {m : Nat → Nat} {st : Nat × Nat} (h0 : K 0 0 = 0) (hm : 0 < m 0) : ∀ k, (slO V K m (k + 1) st).2 = 0
  | 0 => by
    obtain ⟨j, hj⟩ : ∃ j, m 0 = j + 1 := ⟨m 0 - 1, by omega⟩
    show (slP V K 0 (m 0) st).2 = 0
    rw [hj]
    have : ∀ j, (slP V K 0 (j + 1) st).2 = 0 := by
      intro j
      induction j with
      | zero =>
        have := (sel_le (v := V 0 0) (c := K 0 0) (st := st)).2
        exact Nat.le_zero.mp (Nat.le_trans this (Nat.le_of_eq h0))
      | succ j ih =>
        have := (sel_le (v := V 0 (j + 1)) (c := K 0 (j + 1)) (st := slP V K 0 (j + 1) st)).1
        exact Nat.le_zero.mp (Nat.le_trans this (Nat.le_of_eq ih))
    exact this j
  | k + 1 => by
    have := slP_le (V := V) (K := K) (x := k + 1) (st := slO V K m (k + 1) st) (m (k + 1))
    have ih := slO_zero (V := V) (st := st) h0 hm k
    exact Nat.le_zero.mp (Nat.le_trans this (Nat.le_of_eq ih))
section FS
variable {h g : AH} {mk : Nat} {tx : Nat → Nat} {len : Nat} {w : ST} {un : Nat} {us : Nat → ST} {kp : Nat → Bool} {ks : Nat → ST} {C : List Nat} {ρ : Nat → Nat} {rn : Nat} {row : List Int64} {hq : List (Nat × Nat)} {sq : List (Nat × Nat × Bool)}
theorem ci_first {a b : Nat} {st : Nat × List Int64} (H : HI st) (hst : st.1 ≤ 1000) (W : CIk h mk tx len w un us kp ks C st.2 hq sq) : ∃ g, fX10_tellFirst h 0 (J st.1) (J a) (J b) = some g ∧ CIk g mk tx len w un us kp ks C (fstep true a b st).2 hq sq ∧ On PC0 h g := by
  unfold fX10_tellFirst
  have c0 : J st.1 = 0 ↔ st.1 = 0 := by rw [l_0]; exact J_inj (by omega) (by decide)
  simp only [x_h W.1, if_true, c0]
  unfold fstep
  rw [if_pos rfl]
  by_cases z : st.1 = 0
  · rw [if_pos z]
    show ∃ g, _ ∧ CIk g mk tx len w un us kp ks C (if st.1 = 0 then [Int32.toInt64 (J a), Int32.toInt64 (J b)] else st.2) hq sq ∧ _
    rw [if_pos z]
    rw [H.1 z] at W
    obtain ⟨g2, e2, W2, O2⟩ := ci_add W (by simp) (Int32.toInt64 (J a))
    obtain ⟨g3, e3, W3, O3⟩ := ci_add W2 (by simp) (Int32.toInt64 (J b))
    refine ⟨g3, ?_, W3, (lon O2 (fun k hk => by omega)).trans (lon O3 (fun k hk => by omega))⟩
    simp only [x_8 W.1, Option.bind_some, e2, x_8 W2.1, e3]
  · rw [if_neg z]
    show ∃ g, _ ∧ CIk g mk tx len w un us kp ks C (if st.1 = 0 then [Int32.toInt64 (J a), Int32.toInt64 (J b)] else st.2) hq sq ∧ _
    rw [if_neg z]
    exact ⟨h, rfl, W, On.rf⟩
theorem mi_first {a b : Nat} {st : Nat × List Int64} (H : HI st) (W : MIv h tx len w un us kp ks ρ rn st.2 hq sq) (z : st.1 = 0) : ∃ g1 g2, fX11_tell h 145 (Int32.toInt64 (J a)) = some g1 ∧ fX11_tell g1 145 (Int32.toInt64 (J b)) = some g2 ∧ MIv g2 tx len w un us kp ks ρ rn (fstep true a b st).2 hq sq ∧ On PM0 h g2 := by
  rw [H.1 z] at W
  obtain ⟨g2, e2, W2, O2⟩ := mi_tell W (by simp) (Int32.toInt64 (J a))
  obtain ⟨g3, e3, W3, O3⟩ := mi_tell W2 (by simp) (Int32.toInt64 (J b))
  refine ⟨g2, g3, e2, e3, ?_, (mon O2 (fun k hk => by omega)).trans (mon O3 (fun k hk => by omega))⟩
  unfold fstep
  rw [if_pos rfl]
  show MIv g3 tx len w un us kp ks ρ rn (if st.1 = 0 then [Int32.toInt64 (J a), Int32.toInt64 (J b)] else st.2) hq sq
  rw [if_pos z]
  exact W3
theorem fstep_t {a b : Nat} {st : Nat × List Int64} (z : ¬ st.1 = 0) : (fstep true a b st).2 = st.2 := by
  unfold fstep
  rw [if_pos rfl]
  show (if st.1 = 0 then [Int32.toInt64 (J a), Int32.toInt64 (J b)] else st.2) = st.2
  rw [if_neg z]
theorem fstep_y {P : Bool} {a b : Nat} {st : Nat × List Int64} (h : P = true) : fstep P a b st = fstep true a b st := by rw [h]
theorem fstep_n {P : Bool} {a b : Nat} {st : Nat × List Int64} (h : ¬ P = true) : fstep P a b st = st := by unfold fstep; rw [if_neg h]
theorem fstep_1 {a b : Nat} {st : Nat × List Int64} : (fstep true a b st).1 = st.1 + 1 := by unfold fstep; rw [if_pos rfl]
end FS
/-! 41: writers at rest -/
def gnF (v m o : Int32) : Int32 := if o ≤ m then (if m ≤ o then v / 3 - m else v / 2 - (2 * (m - o))) else v - m
def beB (v x y : Int32) : Bool := !exB (fun z => decide (¬ gnF v (J z) y ≤ gnF v x y)) 10 0
def rsB (v : Int32) (x y : Nat) : Bool := beB v (J x) (J y) && beB v (J y) (J x)
theorem c_gain {h : AH} {v m o : Int32} : fX4_gain h v m o = some (gnF v m o) := by
  unfold fX4_gain gnF
  have d3 : jdiv v 3 = some (v / 3) := by unfold jdiv; rw [if_neg (by decide)]
  have d2 : jdiv v 2 = some (v / 2) := by unfold jdiv; rw [if_neg (by decide)]
  by_cases h1 : o ≤ m
  · rw [if_pos h1, if_pos h1]
    by_cases h2 : m ≤ o
    · rw [if_pos h2, if_pos h2, d3]; rfl
    · rw [if_neg h2, if_neg h2, d2]; rfl
  · rw [if_neg h1, if_neg h1]
theorem m_gets {h : AH} {v m o : Int32} : fX11_gets h m o v = some (gnF v m o) := by
  unfold fX11_gets gnF
  have d3 : jdiv v 3 = some (v / 3) := by unfold jdiv; rw [if_neg (by decide)]
  have d2 : jdiv v 2 = some (v / 2) := by unfold jdiv; rw [if_neg (by decide)]
  by_cases h1 : o ≤ m
  · rw [if_pos h1, if_pos h1]
    by_cases h2 : m ≤ o
    · rw [if_pos h2, if_pos h2, d3]; rfl
    · rw [if_neg h2, if_neg h2, d2]; rfl
  · rw [if_neg h1, if_neg h1]
theorem l_9' : (9 : Int32) = J 9 := rfl
theorem c_best {h : AH} {v x y : Int32} : fX4_isBest h v x y = some (beB v x y) := by
  have e : ∀ m q k, k + m = 10 → m < q → fX4_isBest_L10 h q v y (gnF v x y) (J k) = some (!exB (fun z => decide (¬ gnF v (J z) y ≤ gnF v x y)) m k) := by
    intro m
    induction m with
    | zero =>
      intro q k e hq
      obtain ⟨q, rfl⟩ : ∃ z, q = z + 1 := ⟨q - 1, by omega⟩
      rw [fX4_isBest_L10]
      simp (disch := omega) only [l_9', J_lt]
      rw [if_pos (by omega)]
      rfl
    | succ m ih =>
      intro q k e hq
      obtain ⟨q, rfl⟩ : ∃ z, q = z + 1 := ⟨q - 1, by omega⟩
      have e1 : J k + 1 = J (k + 1) := by rw [l_1, J_add]
      rw [fX4_isBest_L10]
      simp (disch := omega) only [l_9', J_lt, c_gain, Option.bind_some, letF, e1]
      rw [if_neg (by omega)]
      unfold exB
      by_cases z : gnF v (J k) y ≤ gnF v x y
      · rw [if_pos z, ih q (k + 1) (by omega) (by omega), decide_eq_false (fun y => y z)]
        rfl
      · rw [if_neg z, decide_eq_true z]
        rfl
  unfold fX4_isBest beB
  rw [c_gain, Option.bind_some]
  exact e 10 FU 0 rfl (FU_gt (by decide))
theorem m_best {h : AH} {v x y : Int32} : fX11_isBest h x y v = some (beB v x y) := by
  have e : ∀ m q k, k + m = 10 → m < q → fX11_isBest_L2 h q x y v (J k) = some (!exB (fun z => decide (¬ gnF v (J z) y ≤ gnF v x y)) m k) := by
    intro m
    induction m with
    | zero =>
      intro q k e hq
      obtain ⟨q, rfl⟩ : ∃ z, q = z + 1 := ⟨q - 1, by omega⟩
      rw [fX11_isBest_L2]
      simp (disch := omega) only [l_9', J_lt]
      rw [if_pos (by omega)]
      rfl
    | succ m ih =>
      intro q k e hq
      obtain ⟨q, rfl⟩ : ∃ z, q = z + 1 := ⟨q - 1, by omega⟩
      have e1 : J k + 1 = J (k + 1) := by rw [l_1, J_add]
      rw [fX11_isBest_L2]
      simp (disch := omega) only [l_9', J_lt, m_gets, Option.bind_some, letF, e1]
      rw [if_neg (by omega)]
      unfold exB
      by_cases z : gnF v (J k) y ≤ gnF v x y
      · rw [if_pos z, ih q (k + 1) (by omega) (by omega), decide_eq_false (fun y => y z)]
        rfl
      · rw [if_neg z, decide_eq_true z]
        rfl
  exact e 10 FU 0 rfl (FU_gt (by decide))
def rtA (n : Nat) : Nat := if n ≤ 20 then (tfO (rsB (J n)) 10 10).1 else 4294967295
def rtR (n : Nat) (row : List Int64) : List Int64 := if n ≤ 20 then (tfO (rsB (J n)) 10 10).2 else row
section RS
variable {h g : AH} {mk : Nat} {tx : Nat → Nat} {len : Nat} {w : ST} {un : Nat} {us : Nat → ST} {kp : Nat → Bool} {ks : Nat → ST} {C : List Nat} {ρ : Nat → Nat} {rn : Nat} {row : List Int64} {hq : List (Nat × Nat)} {sq : List (Nat × Nat × Bool)}
theorem c_restP {v : Int32} {x : Nat} (hx : x < 10) (K : AH → Nat → Int32 → Int32 → Int32 → Option (Int32 × AH)) {st : Nat × List Int64} (H : HI st) (hst : st.1 ≤ 200) : ∀ m n k h, k + m = 10 → m < n → CIk h mk tx len w un us kp ks C (tfP (rsB v) x k st).2 hq sq → ∃ h', fX10_rests_L32 K n h 0 v (J (tfP (rsB v) x k st).1) (J x) (J k) = K h' 0 v (J (tfP (rsB v) x 10 st).1) (J x) ∧ CIk h' mk tx len w un us kp ks C (tfP (rsB v) x 10 st).2 hq sq ∧ On PC0 h h'
  | 0, n + 1, k, h, e, _, W => by
    have : k = 10 := by omega
    subst this
    refine ⟨h, ?_, W, On.rf⟩
    rw [fX10_rests_L32]
    simp (disch := omega) only [l_9', J_lt]
    rw [if_pos (by omega)]
  | m + 1, n + 1, k, h, e, hn, W => by
    obtain ⟨Hk, i3⟩ := tfP_i H k (P := rsB v) (x := x)
    have e1 : J k + 1 = J (k + 1) := by rw [l_1, J_add]
    have a1 : J (tfP (rsB v) x k st).1 + 1 = J ((tfP (rsB v) x k st).1 + 1) := by rw [l_1, J_add]
    have es : tfP (rsB v) x (k + 1) st = fstep (rsB v x k) x k (tfP (rsB v) x k st) := rfl
    rw [fX10_rests_L32]
    simp (disch := omega) only [l_9', J_lt, c_best, Option.bind_some, letF, e1, a1]
    rw [if_neg (by omega)]
    have no : ¬ rsB v x k = true → ∃ h', fX10_rests_L32 K n h 0 v (J (tfP (rsB v) x k st).1) (J x) (J (k + 1)) = K h' 0 v (J (tfP (rsB v) x 10 st).1) (J x) ∧ CIk h' mk tx len w un us kp ks C (tfP (rsB v) x 10 st).2 hq sq ∧ On PC0 h h' := fun z => by
      rw [fstep_n z] at es
      have := c_restP hx K H hst m n (k + 1) h (by omega) (by omega) (by rw [es]; exact W)
      rw [es] at this
      exact this
    by_cases h1 : beB v (J x) (J k) = true
    · rw [if_pos h1]
      by_cases h2 : beB v (J k) (J x) = true
      · rw [if_pos h2]
        have z : rsB v x k = true := by unfold rsB; rw [h1, h2]; rfl
        rw [fstep_y z] at es
        obtain ⟨g1, d1, W1, O1⟩ := ci_first (a := x) (b := k) Hk (by omega) W
        obtain ⟨g2, d2, W2, O2⟩ := c_restP hx K H hst m n (k + 1) g1 (by omega) (by omega) (by rw [es]; exact W1)
        rw [es, fstep_1] at d2
        refine ⟨g2, ?_, W2, O1.trans O2⟩
        rw [d1, Option.bind_some]
        exact d2
      · rw [if_neg h2]
        exact no (by unfold rsB; simp [h2])
    · rw [if_neg h1]
      exact no (by unfold rsB; simp [h1])
theorem c_restO {v : Int32} : ∀ m n k h, k + m = 10 → m < n → CIk h mk tx len w un us kp ks C (tfO (rsB v) 10 k).2 hq sq → ∃ h', fX10_rests_L23 n h 0 v (J (tfO (rsB v) 10 k).1) (J k) = some (J (tfO (rsB v) 10 10).1, h') ∧ CIk h' mk tx len w un us kp ks C (tfO (rsB v) 10 10).2 hq sq ∧ On PC0 h h'
  | 0, n + 1, k, h, e, _, W => by
    have : k = 10 := by omega
    subst this
    refine ⟨h, ?_, W, On.rf⟩
    rw [fX10_rests_L23]
    simp (disch := omega) only [l_9', J_lt]
    rw [if_pos (by omega)]
  | m + 1, n + 1, k, h, e, hn, W => by
    obtain ⟨i1, i2⟩ := tfO_i k (P := rsB v) (m := 10)
    have e1 : J k + 1 = J (k + 1) := by rw [l_1, J_add]
    obtain ⟨g1, e2, W1, O1⟩ := c_restP (v := v) (x := k) (by omega) (fun h12 x8 x9 x10 x11 => letF (x11 + 1 : Int32) fun x13 => fX10_rests_L23 n h12 x8 x9 x10 x13) i1 (by omega) 10 FU 0 h rfl (FU_gt (by decide)) W
    obtain ⟨g2, e3, W2, O2⟩ := c_restO m n (k + 1) g1 (by omega) (by omega) W1
    refine ⟨g2, ?_, W2, O1.trans O2⟩
    rw [fX10_rests_L23]
    simp (disch := omega) only [l_9', J_lt]
    rw [if_neg (by omega)]
    refine Eq.trans e2 ?_
    simp only [letF, e1]
    exact e3
theorem xc_rests (W : CIk h mk tx len w un us kp ks C row hq sq) {n : Nat} (hn : n < 4294967296) : ∃ h' mk', fX10_rests h 0 (J n) = some (J (rtA n), h') ∧ CIk h' mk' tx len w un us kp ks C (rtR n row) hq sq ∧ On PC0 h h' := by
  unfold fX10_rests rtA rtR
  rw [if_pos (x_h W.1)]
  by_cases z : n ≤ 20
  · rw [if_neg (fun y => by rw [l_0, J_lt hn (by decide)] at y; omega), if_pos (by rw [l_20, J_le (by omega) (by decide)]; omega), if_pos z, if_pos z]
    obtain ⟨g1, e1, W1, O1⟩ := ci_clr W
    obtain ⟨g2, e2, W2, O2⟩ := c_restO (v := J n) 10 FU 0 g1 rfl (FU_gt (by decide)) W1
    refine ⟨g2, mk, ?_, W2, (lon O1 (fun k hk => by omega)).trans O2⟩
    rw [x_8 W.1, Option.bind_some, e1, Option.bind_some]
    exact e2
  · rw [if_neg z, if_neg z]
    refine ⟨h, mk, ?_, W, On.rf⟩
    by_cases y : 2147483648 ≤ n
    · rw [if_pos (by rw [l_0, J_lt hn (by decide)]; omega), m1_J]
    · rw [if_neg (fun x => by rw [l_0, J_lt hn (by decide)] at x; omega), if_neg (fun x => by rw [l_20, J_le (by omega) (by decide)] at x; omega), m1_J]
theorem y_restP {v : Int32} {x : Nat} (hx : x < 10) (K : AH → Nat → Int32 → Int32 → Int32 → Option (Int32 × AH)) {st : Nat × List Int64} (H : HI st) (hst : st.1 ≤ 200) : ∀ m n k h, k + m = 10 → m < n → MIv h tx len w un us kp ks ρ rn (tfP (rsB v) x k st).2 hq sq → ∃ h', fX11_rests_L35 K n h 145 v (J (tfP (rsB v) x k st).1) (J x) (J k) = K h' 145 v (J (tfP (rsB v) x 10 st).1) (J x) ∧ MIv h' tx len w un us kp ks ρ rn (tfP (rsB v) x 10 st).2 hq sq ∧ On PM0 h h'
  | 0, n + 1, k, h, e, _, W => by
    have : k = 10 := by omega
    subst this
    refine ⟨h, ?_, W, On.rf⟩
    rw [fX11_rests_L35]
    simp (disch := omega) only [l_9', J_lt]
    rw [if_pos (by omega)]
  | m + 1, n + 1, k, h, e, hn, W => by
    obtain ⟨Hk, i3⟩ := tfP_i H k (P := rsB v) (x := x)
    have e1 : J k + 1 = J (k + 1) := by rw [l_1, J_add]
    have a1 : J (tfP (rsB v) x k st).1 + 1 = J ((tfP (rsB v) x k st).1 + 1) := by rw [l_1, J_add]
    have es : tfP (rsB v) x (k + 1) st = fstep (rsB v x k) x k (tfP (rsB v) x k st) := rfl
    have c0 : J (tfP (rsB v) x k st).1 = 0 ↔ (tfP (rsB v) x k st).1 = 0 := by rw [l_0]; exact J_inj (by omega) (by decide)
    rw [fX11_rests_L35]
    simp (disch := omega) only [l_9', J_lt, m_best, Option.bind_some, letF, e1, a1, c0]
    rw [if_neg (by omega)]
    have no : ¬ rsB v x k = true → ∃ h', fX11_rests_L35 K n h 145 v (J (tfP (rsB v) x k st).1) (J x) (J (k + 1)) = K h' 145 v (J (tfP (rsB v) x 10 st).1) (J x) ∧ MIv h' tx len w un us kp ks ρ rn (tfP (rsB v) x 10 st).2 hq sq ∧ On PM0 h h' := fun z => by
      rw [fstep_n z] at es
      have := y_restP hx K H hst m n (k + 1) h (by omega) (by omega) (by rw [es]; exact W)
      rw [es] at this
      exact this
    by_cases h1 : beB v (J x) (J k) = true
    · rw [if_pos h1]
      by_cases h2 : beB v (J k) (J x) = true
      · rw [if_pos h2]
        have z : rsB v x k = true := by unfold rsB; rw [h1, h2]; rfl
        rw [fstep_y z] at es
        by_cases z0 : (tfP (rsB v) x k st).1 = 0
        · rw [if_pos z0]
          obtain ⟨ga, g1, da, d1, W1, O1⟩ := mi_first (a := x) (b := k) Hk W z0
          obtain ⟨g2, d2, W2, O2⟩ := y_restP hx K H hst m n (k + 1) g1 (by omega) (by omega) (by rw [es]; exact W1)
          rw [es, fstep_1] at d2
          refine ⟨g2, ?_, W2, O1.trans O2⟩
          rw [da, Option.bind_some, d1, Option.bind_some]
          exact d2
        · rw [if_neg z0]
          obtain ⟨g2, d2, W2, O2⟩ := y_restP hx K H hst m n (k + 1) h (by omega) (by omega) (by rw [es, fstep_t z0]; exact W)
          rw [es, fstep_1] at d2
          exact ⟨g2, d2, W2, O2⟩
      · rw [if_neg h2]
        exact no (by unfold rsB; simp [h2])
    · rw [if_neg h1]
      exact no (by unfold rsB; simp [h1])
theorem y_restO {v : Int32} : ∀ m n k h, k + m = 10 → m < n → MIv h tx len w un us kp ks ρ rn (tfO (rsB v) 10 k).2 hq sq → ∃ h', fX11_rests_L26 n h 145 v (J (tfO (rsB v) 10 k).1) (J k) = some (J (tfO (rsB v) 10 10).1, h') ∧ MIv h' tx len w un us kp ks ρ rn (tfO (rsB v) 10 10).2 hq sq ∧ On PM0 h h'
  | 0, n + 1, k, h, e, _, W => by
    have : k = 10 := by omega
    subst this
    refine ⟨h, ?_, W, On.rf⟩
    rw [fX11_rests_L26]
    simp (disch := omega) only [l_9', J_lt]
    rw [if_pos (by omega)]
  | m + 1, n + 1, k, h, e, hn, W => by
    obtain ⟨i1, i2⟩ := tfO_i k (P := rsB v) (m := 10)
    have e1 : J k + 1 = J (k + 1) := by rw [l_1, J_add]
    obtain ⟨g1, e2, W1, O1⟩ := y_restP (v := v) (x := k) (by omega) (fun h15 x11 x12 x13 x14 => letF (x14 + 1 : Int32) fun x16 => fX11_rests_L26 n h15 x11 x12 x13 x16) i1 (by omega) 10 FU 0 h rfl (FU_gt (by decide)) W
    obtain ⟨g2, e3, W2, O2⟩ := y_restO m n (k + 1) g1 (by omega) (by omega) W1
    refine ⟨g2, ?_, W2, O1.trans O2⟩
    rw [fX11_rests_L26]
    simp (disch := omega) only [l_9', J_lt]
    rw [if_neg (by omega)]
    refine Eq.trans e2 ?_
    simp only [letF, e1]
    exact e3
theorem xm_rests (W : MIv h tx len w un us kp ks ρ rn row hq sq) {n : Nat} (hn : n < 4294967296) : ∃ h', fX11_rests h 145 (J n) = some (J (rtA n), h') ∧ MIv h' tx len w un us kp ks ρ rn (rtR n row) hq sq ∧ On PM0 h h' := by
  obtain ⟨g0, e0, W0, -, O0⟩ := mi_t0 W
  have O0' : On PM0 h g0 := mon O0 (fun k hk => by omega)
  have i5 : fX11_in g0 (J n) 0 20 = some (decide (n ≤ 20)) := by
    rw [l_0, l_20, m_in hn (by decide) (by decide), decide_eq_true (Nat.zero_le n), Bool.true_and]
  unfold fX11_rests rtA rtR
  simp only [y_h W.1, if_true, e0, Option.bind_some, i5, decide_eq_true_eq]
  by_cases z : n ≤ 20
  · rw [if_pos z, if_pos z, if_pos z]
    obtain ⟨g1, e1, W1, O1⟩ := mi_clr W0
    obtain ⟨g2, e2, W2, O2⟩ := y_restO (v := J n) 10 FU 0 g1 rfl (FU_gt (by decide)) W1
    refine ⟨g2, ?_, W2, (O0'.trans (mon O1 (fun k hk => by omega))).trans O2⟩
    rw [e1, Option.bind_some]
    exact e2
  · rw [if_neg z, if_neg z, if_neg z, m1_J]
    exact ⟨g0, rfl, W0, O0'⟩
end RS
