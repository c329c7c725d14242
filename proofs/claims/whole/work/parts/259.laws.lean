/-! laws of tidying -/
def syB (a b n t : Nat) : Bool := decide (a < n) && decide (b ≤ t)
def lwB (sq : List (Nat × Nat × Bool)) (a b : Nat) : Bool := sq.all (fun q => syB a b q.1 q.2.1 == q.2.2)
def HSQ (sq : List (Nat × Nat × Bool)) : Prop := ∀ (i : Nat) (q : Nat × Nat × Bool), sq[i]? = some q → q.1 < 10 ∧ q.2.1 < 9
theorem c_says {h : AH} {a b n t : Nat} (ha : a < 100) (hb : b < 100) (hn : n < 100) (ht : t < 100) : fX8_says h (J a) (J b) (J n) (J t) = some (syB a b n t) := by
  unfold fX8_says syB
  simp (disch := omega) only [J_le, J_lt]
  by_cases h1 : a < n
  · rw [if_neg (by omega), decide_eq_true h1]
    by_cases h2 : b ≤ t
    · rw [if_neg (by omega), decide_eq_true h2]; rfl
    · rw [if_pos (by omega), decide_eq_false h2]; rfl
  · rw [if_pos (by omega), decide_eq_false h1]; rfl
theorem m_tidBy {h : AH} {l n t : Nat} (hl : l < 49) (hn : n < 100) (ht : t < 100) : fX11_tidiesBy h (J l) (J n) (J t) = some (syB (l / 7) (l % 7) n t) := by
  have d1 : l / 7 < 7 := by omega
  have d2 : l % 7 < 7 := by omega
  unfold fX11_tidiesBy syB
  rw [l_7, jdiv_J (by omega) (by decide) (by decide), Option.bind_some, jrem_J (by omega) (by decide) (by decide)]
  simp (disch := omega) only [J_le, J_lt, Option.bind_some]
  by_cases h1 : l / 7 < n
  · rw [if_neg (by omega), decide_eq_true h1]
    by_cases h2 : l % 7 ≤ t
    · rw [if_neg (by omega), decide_eq_true h2]; rfl
    · rw [if_pos (by omega), decide_eq_false h2]; rfl
  · rw [if_pos (by omega), decide_eq_false h1]; rfl
theorem b2i_inj {a b : Bool} : b2i a = b2i b ↔ a = b := by cases a <;> cases b <;> decide
theorem drop_s {α : Type} {l : List α} {i : Nat} (h : i < l.length) : ∃ q, l[i]? = some q ∧ l.drop i = q :: l.drop (i + 1) := ⟨l[i], List.getElem?_eq_getElem h, List.drop_eq_getElem_cons h⟩
def tfL (P : Nat → Nat → Bool) (l : Nat) : Nat × List Int64 := tfP P (l / 7) (l % 7) (tfO P 7 (l / 7))
theorem tfL_s (P : Nat → Nat → Bool) (l : Nat) : tfL P (l + 1) = fstep (P (l / 7) (l % 7)) (l / 7) (l % 7) (tfL P l) := by
  unfold tfL
  by_cases z : l % 7 = 6
  · rw [show (l + 1) / 7 = l / 7 + 1 by omega, show (l + 1) % 7 = 0 by omega, z]
    rfl
  · rw [show (l + 1) / 7 = l / 7 by omega, show (l + 1) % 7 = l % 7 + 1 by omega]
    rfl
theorem tfL_i (P : Nat → Nat → Bool) (l : Nat) (hl : l ≤ 49) : HI (tfL P l) ∧ (tfL P l).1 ≤ 100 := by
  obtain ⟨h1, h2⟩ := tfO_i (P := P) (m := 7) (l / 7)
  obtain ⟨h3, h4⟩ := tfP_i h1 (l % 7) (P := P) (x := l / 7)
  refine ⟨h3, ?_⟩
  show (tfP P (l / 7) (l % 7) (tfO P 7 (l / 7))).1 ≤ 100
  omega
theorem cnt_split (f g : Nat → Bool) : ∀ n, cnt (fun i => f i && g i) n + cnt (fun i => f i && !g i) n = cnt f n
  | 0 => rfl
  | n + 1 => by
    have ih := cnt_split f g n
    by_cases z : f n = true
    · by_cases y : g n = true
      · rw [cnt_yes (f := fun i => f i && g i) (by simp [z, y]), cnt_no (f := fun i => f i && !g i) (by simp [y]), cnt_yes z]
        omega
      · rw [cnt_no (f := fun i => f i && g i) (by simp [y]), cnt_yes (f := fun i => f i && !g i) (by simp [z, y]), cnt_yes z]
        omega
    · rw [cnt_no (f := fun i => f i && g i) (by simp [z]), cnt_no (f := fun i => f i && !g i) (by simp [z]), cnt_no z]
      omega
def lkF (sq : List (Nat × Nat × Bool)) (l : Nat) : Bool := lwB sq (l / 7) (l % 7)
def lkT (sq : List (Nat × Nat × Bool)) : Nat := cnt (lkF sq) 49
def lkG (n t l : Nat) : Bool := syB (l / 7) (l % 7) n t
def lkY (sq : List (Nat × Nat × Bool)) (n t : Nat) : Nat := cnt (fun l => lkF sq l && lkG n t l) 49
def lkK (sq : List (Nat × Nat × Bool)) (n t : Nat) : Nat := max (lkY sq n t) (lkT sq - lkY sq n t)
def lkV (n t : Nat) : Nat := 10 * n + t
theorem lkY_le (sq : List (Nat × Nat × Bool)) (n t : Nat) : lkY sq n t ≤ lkT sq ∧ lkT sq ≤ 49 := by
  have := cnt_split (lkF sq) (lkG n t) 49
  exact ⟨by unfold lkY lkT; omega, cnt_le⟩
theorem lkK_le (sq : List (Nat × Nat × Bool)) (n t : Nat) : lkK sq n t ≤ lkT sq ∧ (0 < lkT sq → 0 < lkK sq n t) := by
  obtain ⟨h1, h2⟩ := lkY_le sq n t
  unfold lkK
  omega
section LW
variable {h g : AH} {mk : Nat} {tx : Nat → Nat} {len : Nat} {w : ST} {un : Nat} {us : Nat → ST} {kp : Nat → Bool} {ks : Nat → ST} {C : List Nat} {ρ : Nat → Nat} {rn : Nat} {row : List Int64} {hq : List (Nat × Nat)} {sq : List (Nat × Nat × Bool)}
theorem c_agW (W : CIk h mk tx len w un us kp ks C row hq sq) (H : HSQ sq) {a b : Nat} (ha : a < 100) (hb : b < 100) : fX8_agreeWith h 138 (J a) (J b) = some (lwB sq a b) := by
  obtain ⟨F, f1, f2, f3, f4, w1, w2, w3, w4, w5, w6, w7, w8, w9, w10, w11, w12⟩ := W.2.2.2.2.2.2.2.2.2.2.1
  have e : ∀ m q i, i + m = sq.length → m < q → fX8_agreeWith_L2 h q 138 (J a) (J b) (J i) = some ((sq.drop i).all (fun q => syB a b q.1 q.2.1 == q.2.2)) := by
    intro m
    induction m with
    | zero =>
      intro q i e hq'
      obtain ⟨q, rfl⟩ : ∃ z, q = z + 1 := ⟨q - 1, by omega⟩
      rw [fX8_agreeWith_L2]
      simp (disch := omega) only [ob_i w1 (k := 4) (by decide) w6, Option.bind_some, J_le]
      rw [if_pos (by omega), List.drop_of_length_le (by omega)]
      rfl
    | succ m ih =>
      intro q i e hq'
      obtain ⟨q, rfl⟩ : ∃ z, q = z + 1 := ⟨q - 1, by omega⟩
      obtain ⟨y, hy, hd⟩ := drop_s (l := sq) (i := i) (by omega)
      obtain ⟨v1, v2, v3⟩ := w12 i y hy
      obtain ⟨u1, u2⟩ := H i y hy
      have r1 : aI h 0 139 (J i) = some (J y.1) := by rw [aI_at w7 (by omega) (by decide), v1]
      have r2 : aI h 0 140 (J i) = some (J y.2.1) := by rw [aI_at w8 (by omega) (by decide), v2]
      have r3 : aZ h 141 (J i) = some y.2.2 := by unfold aZ; rw [aI_at w9 (by omega) (by decide), Option.bind_some, v3, i2z_b2]
      have e1 : J i + 1 = J (i + 1) := by rw [l_1, J_add]
      rw [fX8_agreeWith_L2]
      simp (disch := omega) only [ob_i w1 (k := 4) (by decide) w6, Option.bind_some, J_le, l_10]
      rw [if_neg (by omega), if_neg (by omega)]
      simp (disch := omega) only [ob_r w1 (k := 0) (by decide) w2, ob_r w1 (k := 1) (by decide) w3, ob_r w1 (k := 2) (by decide) w4, Option.bind_some, r1, r2, r3, c_says, b2i_inj, letF, e1]
      rw [hd, List.all_cons]
      by_cases z : syB a b y.1 y.2.1 = y.2.2
      · rw [if_pos z, ih q (i + 1) (by omega) (by omega), z]
        simp
      · rw [if_neg z]
        have : (syB a b y.1 y.2.1 == y.2.2) = false := by simpa using z
        rw [this, Bool.false_and]
  have := e sq.length FU 0 (by omega) (FU_gt (by omega))
  unfold fX8_agreeWith
  rw [if_pos (ob_h w1)]
  exact this
theorem y_isLaw (W : MIv h tx len w un us kp ks ρ rn row hq sq) (H : HSQ sq) {l : Nat} (hl : l < 49) : fX11_isLaw h 145 (J l) = some (lkF sq l) := by
  obtain ⟨t0, f1, f2, f3, t1, t2, t3, t4⟩ := W.2.2.2.2.2.2.2.2.1
  have e : ∀ m q i, i + m = sq.length → m < q → fX11_isLaw_L2 h q 145 (J l) (J i) = some ((sq.drop i).all (fun q => syB (l / 7) (l % 7) q.1 q.2.1 == q.2.2)) := by
    intro m
    induction m with
    | zero =>
      intro q i e hq'
      obtain ⟨q, rfl⟩ : ∃ z, q = z + 1 := ⟨q - 1, by omega⟩
      rw [fX11_isLaw_L2]
      simp (disch := omega) only [y_31 W.1, Option.bind_some, J_le]
      rw [if_pos (by omega), List.drop_of_length_le (by omega)]
      rfl
    | succ m ih =>
      intro q i e hq'
      obtain ⟨q, rfl⟩ : ∃ z, q = z + 1 := ⟨q - 1, by omega⟩
      obtain ⟨y, hy, hd⟩ := drop_s (l := sq) (i := i) (by omega)
      obtain ⟨v1, v2, v3⟩ := t4 i y hy
      obtain ⟨u1, u2⟩ := H i y hy
      have r1 : aI h 0 160 (J i) = some (J y.1) := by rw [aI_at t1 (by omega) (by decide), v1]
      have r2 : aI h 0 161 (J i) = some (J y.2.1) := by rw [aI_at t2 (by omega) (by decide), v2]
      have r3 : aI h 0 162 (J i) = some (b2i y.2.2) := by rw [aI_at t3 (by omega) (by decide), v3]
      have e1 : J i + 1 = J (i + 1) := by rw [l_1, J_add]
      rw [fX11_isLaw_L2]
      simp (disch := omega) only [y_31 W.1, Option.bind_some, J_le]
      rw [if_neg (by omega)]
      simp (disch := omega) only [y_28 W.1, y_29 W.1, y_30 W.1, Option.bind_some, r1, r2, r3, m_tidBy]
      unfold fX11_isLaw_J41
      simp only [letF, e1]
      rw [hd, List.all_cons, ih q (i + 1) (by omega) (by omega)]
      cases y.2.2 <;> cases syB (l / 7) (l % 7) y.1 y.2.1 <;> rfl
  have := e sq.length FU 0 (by omega) (FU_gt (by omega))
  unfold fX11_isLaw
  rw [if_pos (y_h W.1)]
  exact this
theorem c_lawP (Hq : HSQ sq) {x : Nat} (hx : x < 7) (K : AH → Nat → Int32 → Int32 → Option (Int32 × AH)) {st : Nat × List Int64} (H : HI st) (hst : st.1 ≤ 200) : ∀ m n k h, k + m = 7 → m < n → CIk h mk tx len w un us kp ks C (tfP (lwB sq) x k st).2 hq sq → ∃ h', fX10_laws_L19 K n h 0 (J (tfP (lwB sq) x k st).1) (J x) (J k) = K h' 0 (J (tfP (lwB sq) x 7 st).1) (J x) ∧ CIk h' mk tx len w un us kp ks C (tfP (lwB sq) x 7 st).2 hq sq ∧ On PC0 h h'
  | 0, n + 1, k, h, e, _, W => by
    have : k = 7 := by omega
    subst this
    refine ⟨h, ?_, W, On.rf⟩
    rw [fX10_laws_L19]
    simp (disch := omega) only [l_7, J_le]
    rw [if_pos (by omega)]
  | m + 1, n + 1, k, h, e, hn, W => by
    obtain ⟨Hk, i3⟩ := tfP_i H k (P := lwB sq) (x := x)
    have e1 : J k + 1 = J (k + 1) := by rw [l_1, J_add]
    have a1 : J (tfP (lwB sq) x k st).1 + 1 = J ((tfP (lwB sq) x k st).1 + 1) := by rw [l_1, J_add]
    have es : tfP (lwB sq) x (k + 1) st = fstep (lwB sq x k) x k (tfP (lwB sq) x k st) := rfl
    rw [fX10_laws_L19]
    simp (disch := omega) only [l_7, J_le, x_10 W.1, c_agW W Hq, Option.bind_some, letF, e1, a1]
    rw [if_neg (by omega)]
    by_cases z : lwB sq x k = true
    · rw [if_pos z]
      rw [fstep_y z] at es
      obtain ⟨g1, d1, W1, O1⟩ := ci_first (a := x) (b := k) Hk (by omega) W
      obtain ⟨g2, d2, W2, O2⟩ := c_lawP Hq hx K H hst m n (k + 1) g1 (by omega) (by omega) (by rw [es]; exact W1)
      rw [es, fstep_1] at d2
      refine ⟨g2, ?_, W2, O1.trans O2⟩
      rw [d1, Option.bind_some]
      exact d2
    · rw [if_neg z]
      rw [fstep_n z] at es
      have := c_lawP Hq hx K H hst m n (k + 1) h (by omega) (by omega) (by rw [es]; exact W)
      rw [es] at this
      exact this
theorem c_lawO (Hq : HSQ sq) : ∀ m n k h, k + m = 7 → m < n → CIk h mk tx len w un us kp ks C (tfO (lwB sq) 7 k).2 hq sq → ∃ h', fX10_laws_L11 n h 0 (J (tfO (lwB sq) 7 k).1) (J k) = some (J (tfO (lwB sq) 7 7).1, h') ∧ CIk h' mk tx len w un us kp ks C (tfO (lwB sq) 7 7).2 hq sq ∧ On PC0 h h'
  | 0, n + 1, k, h, e, _, W => by
    have : k = 7 := by omega
    subst this
    refine ⟨h, ?_, W, On.rf⟩
    rw [fX10_laws_L11]
    simp (disch := omega) only [l_7, J_le]
    rw [if_pos (by omega)]
  | m + 1, n + 1, k, h, e, hn, W => by
    obtain ⟨i1, i2⟩ := tfO_i k (P := lwB sq) (m := 7)
    have e1 : J k + 1 = J (k + 1) := by rw [l_1, J_add]
    obtain ⟨g1, e2, W1, O1⟩ := c_lawP Hq (x := k) (by omega) (fun h10 x7 x8 x9 => letF (x9 + 1 : Int32) fun x11 => fX10_laws_L11 n h10 x7 x8 x11) i1 (by omega) 7 FU 0 h rfl (FU_gt (by decide)) W
    obtain ⟨g2, e3, W2, O2⟩ := c_lawO Hq m n (k + 1) g1 (by omega) (by omega) W1
    refine ⟨g2, ?_, W2, O1.trans O2⟩
    rw [fX10_laws_L11]
    simp (disch := omega) only [l_7, J_le]
    rw [if_neg (by omega)]
    refine Eq.trans e2 ?_
    simp only [letF, e1]
    exact e3
theorem xc_laws (W : CIk h mk tx len w un us kp ks C row hq sq) (Hq : HSQ sq) : ∃ h' mk', fX10_laws h 0 = some (J (tfO (lwB sq) 7 7).1, h') ∧ CIk h' mk' tx len w un us kp ks C (tfO (lwB sq) 7 7).2 hq sq ∧ On PC0 h h' := by
  obtain ⟨g1, e1, W1, O1⟩ := ci_clr W
  obtain ⟨g2, e2, W2, O2⟩ := c_lawO Hq 7 FU 0 g1 rfl (FU_gt (by decide)) W1
  refine ⟨g2, mk, ?_, W2, (lon O1 (fun k hk => by omega)).trans O2⟩
  unfold fX10_laws
  rw [if_pos (x_h W.1), x_8 W.1, Option.bind_some, e1, Option.bind_some]
  exact e2
theorem y_lawT (Hq : HSQ sq) : ∀ m n k h, k + m = 49 → m < n → MIv h tx len w un us kp ks ρ rn (tfL (lwB sq) k).2 hq sq → ∃ h', fX11_laws_L14 n h 145 (J (tfL (lwB sq) k).1) (J k) = some (J (tfL (lwB sq) 49).1, h') ∧ MIv h' tx len w un us kp ks ρ rn (tfL (lwB sq) 49).2 hq sq ∧ On PM0 h h'
  | 0, n + 1, k, h, e, _, W => by
    have : k = 49 := by omega
    subst this
    refine ⟨h, ?_, W, On.rf⟩
    rw [fX11_laws_L14]
    simp (disch := omega) only [l_49, J_le]
    rw [if_pos (by omega)]
  | m + 1, n + 1, k, h, e, hn, W => by
    obtain ⟨Hk, i3⟩ := tfL_i (lwB sq) k (by omega)
    have e1 : J k + 1 = J (k + 1) := by rw [l_1, J_add]
    have a1 : J (tfL (lwB sq) k).1 + 1 = J ((tfL (lwB sq) k).1 + 1) := by rw [l_1, J_add]
    have es := tfL_s (lwB sq) k
    have c0 : J (tfL (lwB sq) k).1 = 0 ↔ (tfL (lwB sq) k).1 = 0 := by rw [l_0]; exact J_inj (by omega) (by decide)
    have q1 : jdiv (J k) 7 = some (J (k / 7)) := jdiv_J (by omega) (by decide) (by decide)
    have q2 : jrem (J k) 7 = some (J (k % 7)) := jrem_J (by omega) (by decide) (by decide)
    rw [fX11_laws_L14]
    simp (disch := omega) only [l_49, J_le, y_isLaw W Hq, Option.bind_some, letF, e1, a1, c0, q1, q2]
    rw [if_neg (by omega)]
    by_cases z : lkF sq k = true
    · rw [if_pos z]
      have z' : lwB sq (k / 7) (k % 7) = true := z
      rw [fstep_y z'] at es
      by_cases z0 : (tfL (lwB sq) k).1 = 0
      · rw [if_pos z0]
        obtain ⟨ga, g1, da, d1, W1, O1⟩ := mi_first (a := k / 7) (b := k % 7) Hk W z0
        obtain ⟨g2, d2, W2, O2⟩ := y_lawT Hq m n (k + 1) g1 (by omega) (by omega) (by rw [es]; exact W1)
        rw [es, fstep_1] at d2
        refine ⟨g2, ?_, W2, O1.trans O2⟩
        rw [da, Option.bind_some, d1, Option.bind_some]
        exact d2
      · rw [if_neg z0]
        obtain ⟨g2, d2, W2, O2⟩ := y_lawT Hq m n (k + 1) h (by omega) (by omega) (by rw [es, fstep_t z0]; exact W)
        rw [es, fstep_1] at d2
        exact ⟨g2, d2, W2, O2⟩
    · rw [if_neg z]
      have z' : ¬ lwB sq (k / 7) (k % 7) = true := z
      rw [fstep_n z'] at es
      have := y_lawT Hq m n (k + 1) h (by omega) (by omega) (by rw [es]; exact W)
      rw [es] at this
      exact this
theorem xm_laws (W : MIv h tx len w un us kp ks ρ rn row hq sq) (Hq : HSQ sq) : ∃ h', fX11_laws h 145 = some (J (tfO (lwB sq) 7 7).1, h') ∧ MIv h' tx len w un us kp ks ρ rn (tfO (lwB sq) 7 7).2 hq sq ∧ On PM0 h h' := by
  obtain ⟨g0, e0, W0, -, O0⟩ := mi_t0 W
  obtain ⟨g1, e1, W1, O1⟩ := mi_clr W0
  obtain ⟨g2, e2, W2, O2⟩ := y_lawT Hq 49 FU 0 g1 rfl (FU_gt (by decide)) W1
  refine ⟨g2, ?_, W2, ((mon O0 (fun k hk => by omega)).trans (mon O1 (fun k hk => by omega))).trans O2⟩
  unfold fX11_laws
  rw [if_pos (y_h W.1), e0, Option.bind_some, e1, Option.bind_some]
  exact e2
/-! 39: looks -/
def AGk (h : AH) (sq : List (Nat × Nat × Bool)) (k : Nat) : Prop := ∃ f, h.1 142 = some (.inl (4, 49, .inl f)) ∧ ∀ l, l < k → f l = b2i (lkF sq l)
theorem c_gatS (Hq : HSQ sq) {k : Nat} (hk : k < 49) (W : CIk h mk tx len w un us kp ks C row hq sq) (G : AGk h sq k) : ∃ gg, sI h 4 142 (J k) (b2i (lkF sq k)) = some gg ∧ CIk gg mk tx len w un us kp ks C row hq sq ∧ AGk gg sq (k + 1) ∧ aZ gg 142 (J k) = some (lkF sq k) ∧ gR h 8 138 3 = some 142 ∧ gR gg 8 138 3 = some 142 ∧ aL h 4 142 = some (J 49) ∧ On (fun j => j = 142) h gg := by
  obtain ⟨F, f1, f2, f3, f4, w1, w2, w3, w4, w5, w6, w7, w8, w9, w10, w11, w12⟩ := W.2.2.2.2.2.2.2.2.2.2.1
  obtain ⟨f, g1, g2⟩ := G
  obtain ⟨gg, d, c, O⟩ := wa_t g1 hk (by decide) (x := b2i (lkF sq k)) (nar_b2i _)
  have O' : On (fun j => j = 142) h gg := O.on1 rfl
  have M1 := w1.on O' (by decide)
  have W1 : CIk gg mk tx len w un us kp ks C row hq sq := W.psaw (O'.mono (fun j hj => by omega)) ⟨F, f1, f2, f3, _, M1, w2, w3, w4, w5, w6, (O'.2 _ (by decide)).trans w7, (O'.2 _ (by decide)).trans w8, (O'.2 _ (by decide)).trans w9, c, w11, w12⟩
  have rd : aZ gg 142 (J k) = some (lkF sq k) := by
    unfold aZ
    rw [aI_at c hk (by decide), Option.bind_some]
    show i2z (if k = k then b2i (lkF sq k) else f k) = _
    rw [if_pos (Eq.refl k), i2z_b2]
  refine ⟨gg, d, W1, ⟨_, c, fun l hl => ?_⟩, rd, ob_r w1 (by decide) w5, ob_r M1 (by decide) w5, aL_at g1, O'⟩
  show (if l = k then b2i (lkF sq k) else f l) = b2i (lkF sq l)
  by_cases z : l = k
  · rw [if_pos z, z]
  · rw [if_neg z]
    exact g2 l (by omega)
theorem c_gatL (Hq : HSQ sq) : ∀ m q k h, CIk h mk tx len w un us kp ks C row hq sq → AGk h sq k → k + m = 49 → m < q → ∃ h', fX8_gather_L4 q h 138 (J (cnt (lkF sq) k)) (J k) = some (J (cnt (lkF sq) 49), h') ∧ CIk h' mk tx len w un us kp ks C row hq sq ∧ AGk h' sq 49 ∧ On PC0 h h'
  | 0, q + 1, k, h, W, G, e, _ => by
    have : k = 49 := by omega
    subst this
    obtain ⟨F, f1, f2, f3, f4, w1, w2, w3, w4, w5, w6, w7, w8, w9, w10, w11, w12⟩ := W.2.2.2.2.2.2.2.2.2.2.1
    refine ⟨h, ?_, W, G, On.rf⟩
    rw [fX8_gather_L4, ob_r w1 (k := 3) (by decide) w5, Option.bind_some, aL_at w10, Option.bind_some, if_pos (by rw [J_le (by decide) (by decide)]; omega)]
  | m + 1, q + 1, k, h, W, G, e, hn => by
    obtain ⟨gg, d, W1, G1, rd, r3, r3', al, O'⟩ := c_gatS Hq (show k < 49 by omega) W G
    obtain ⟨g3, e3, W3, G3, O3⟩ := c_gatL Hq m q (k + 1) gg W1 G1 (by omega) (by omega)
    refine ⟨g3, ?_, W3, G3, (lon O' (fun k hk => by omega)).trans O3⟩
    have q1 : jdiv (J k) 7 = some (J (k / 7)) := jdiv_J (by omega) (by decide) (by decide)
    have q2 : jrem (J k) 7 = some (J (k % 7)) := jrem_J (by omega) (by decide) (by decide)
    have ag : fX8_agreeWith h 138 (J (k / 7)) (J (k % 7)) = some (lkF sq k) := c_agW W Hq (by omega) (by omega)
    have e1 : J k + 1 = J (k + 1) := by rw [l_1, J_add]
    rw [fX8_gather_L4]
    unfold fX8_gather_J46
    simp (disch := omega) only [r3, Option.bind_some, al, J_le, q1, q2, ag, d, r3', rd, letF, e1]
    rw [if_neg (by omega)]
    by_cases z : lkF sq k = true
    · rw [cnt_yes z] at e3
      rw [if_pos z, show J (cnt (lkF sq) k) + 1 = J (cnt (lkF sq) k + 1) by rw [l_1, J_add]]
      exact e3
    · rw [cnt_no z] at e3
      rw [if_neg z, show J (cnt (lkF sq) k) + 0 = J (cnt (lkF sq) k) by rw [l_0, J_add, Nat.add_zero]]
      exact e3
theorem c_tidyg (W : CIk h mk tx len w un us kp ks C row hq sq) (G : AGk h sq 49) {n t : Nat} (hn : n < 100) (ht : t < 100) : fX8_tidying h 138 (J n) (J t) = some (J (lkY sq n t)) := by
  obtain ⟨F, f1, f2, f3, f4, w1, w2, w3, w4, w5, w6, w7, w8, w9, w10, w11, w12⟩ := W.2.2.2.2.2.2.2.2.2.2.1
  obtain ⟨f, g1, g2⟩ := G
  unfold fX8_tidying
  rw [if_pos (ob_h w1), l_0]
  exact loop_rec (fun q k x => fX8_tidying_L5 h q 138 (J n) (J t) (J x) (J k)) 49 (fun k => cnt (fun l => lkF sq l && lkG n t l) k) _ (fun q k hk => by
    try dsimp only
    have rd : aZ h 142 (J k) = some (lkF sq k) := by
      unfold aZ
      rw [aI_at g1 (by omega) (by decide), Option.bind_some, g2 k hk, i2z_b2]
    have q1 : jdiv (J k) 7 = some (J (k / 7)) := jdiv_J (by omega) (by decide) (by decide)
    have q2 : jrem (J k) 7 = some (J (k % 7)) := jrem_J (by omega) (by decide) (by decide)
    have sy : fX8_says h (J (k / 7)) (J (k % 7)) (J n) (J t) = some (lkG n t k) := c_says (by omega) (by omega) hn ht
    have e1 : J k + 1 = J (k + 1) := by rw [l_1, J_add]
    have a0 : ∀ x : Nat, J x + 0 = J x := fun x => by rw [l_0, J_add, Nat.add_zero]
    have a1 : ∀ x : Nat, J x + 1 = J (x + 1) := fun x => by rw [l_1, J_add]
    rw [fX8_tidying_L5]
    unfold fX8_tidying_J49
    simp (disch := omega) only [ob_r w1 (k := 3) (by decide) w5, Option.bind_some, aL_at w10, J_le, rd, q1, q2, sy, letF, e1, a0]
    rw [if_neg (by omega)]
    by_cases z : lkF sq k = true
    · rw [if_pos z]
      by_cases y : lkG n t k = true
      · rw [if_pos y, cnt_yes (by simp [z, y]), a1]
      · rw [if_neg y, cnt_no (by simp [y])]
    · rw [if_neg z, cnt_no (by simp [z])]) (fun q => by
    try dsimp only
    rw [fX8_tidying_L5]
    simp (disch := omega) only [ob_r w1 (k := 3) (by decide) w5, Option.bind_some, aL_at w10, J_le]
    rw [if_pos (by omega)]
    rfl) 49 FU 0 rfl (FU_gt (by decide))
theorem c_lookP (W : CIk h mk tx len w un us kp ks C row hq sq) (G : AGk h sq 49) {x : Nat} (hx : x < 10) (K : AH → Nat → Int32 → Int32 → Int32 → Int32 → Option (Int32 × AH)) {st : Nat × Nat} (hst : st.2 ≤ 1000000) : ∀ m n k, k + m = 9 → m < n → fX10_looks_L34 K n h 0 (J (lkT sq)) (J (slP lkV (lkK sq) x k st).1) (J (slP lkV (lkK sq) x k st).2) (J x) (J k) = K h 0 (J (lkT sq)) (J (slP lkV (lkK sq) x 9 st).1) (J (slP lkV (lkK sq) x 9 st).2) (J x)
  | 0, n + 1, k, e, _ => by
    have : k = 9 := by omega
    subst this
    rw [fX10_looks_L34]
    simp (disch := omega) only [l_8, J_lt]
    rw [if_pos (by omega)]
  | m + 1, n + 1, k, e, hn => by
    have ih := c_lookP W G hx K hst m n (k + 1) (by omega) (by omega)
    have sl := slP_le (V := lkV) (K := lkK sq) (x := x) (st := st) k
    obtain ⟨y1, y2⟩ := lkY_le sq x k
    obtain ⟨k1, k2⟩ := lkK_le sq x k
    have e1 : J k + 1 = J (k + 1) := by rw [l_1, J_add]
    have ek : jmax (J (lkY sq x k)) (J (lkT sq - lkY sq x k)) = J (lkK sq x k) := jmax_J (by omega) (by omega)
    have ev : 10 * J x + J k = J (lkV x k) := by rw [l_10, J_mul, J_add]; rfl
    have es : slP lkV (lkK sq) x (k + 1) st = sel (lkV x k) (lkK sq x k) (slP lkV (lkK sq) x k st) := rfl
    rw [es] at ih
    rw [fX10_looks_L34]
    simp (disch := omega) only [l_8, J_lt, x_10 W.1, c_tidyg W G, Option.bind_some, J_sub, ek, ev, letF, e1, J_le]
    rw [if_neg (by omega)]
    unfold sel at ih
    by_cases z : lkK sq x k < (slP lkV (lkK sq) x k st).2
    · rw [if_pos z] at ih
      rw [if_neg (by omega)]
      exact ih
    · rw [if_neg z] at ih
      rw [if_pos (by omega)]
      exact ih
theorem c_lookO (W : CIk h mk tx len w un us kp ks C row hq sq) (G : AGk h sq 49) (K : AH → Nat → Int32 → Int32 → Option (Int32 × AH)) {st : Nat × Nat} (hst : st.2 ≤ 1000000) : ∀ m n k, k + m = 10 → m < n → fX10_looks_L24 K n h 0 (J (lkT sq)) (J (slO lkV (lkK sq) (fun _ => 9) k st).1) (J (slO lkV (lkK sq) (fun _ => 9) k st).2) (J k) = K h 0 (J (slO lkV (lkK sq) (fun _ => 9) 10 st).1) (J (slO lkV (lkK sq) (fun _ => 9) 10 st).2)
  | 0, n + 1, k, e, _ => by
    have : k = 10 := by omega
    subst this
    rw [fX10_looks_L24]
    simp (disch := omega) only [l_9', J_lt]
    rw [if_pos (by omega)]
  | m + 1, n + 1, k, e, hn => by
    have ih := c_lookO W G K hst m n (k + 1) (by omega) (by omega)
    have sl := slO_le (V := lkV) (K := lkK sq) (m := fun _ => 9) (st := st) k
    have e1 : J k + 1 = J (k + 1) := by rw [l_1, J_add]
    have e2 := c_lookP W G (x := k) (by omega) (fun h12 x7 x8 x9 x10 x11 => letF (x11 + 1 : Int32) fun x13 => fX10_looks_L24 K n h12 x7 x8 x9 x10 x13) (st := slO lkV (lkK sq) (fun _ => 9) k st) (by omega) 9 FU 0 rfl (FU_gt (by decide))
    rw [fX10_looks_L24]
    simp (disch := omega) only [l_9', J_lt]
    rw [if_neg (by omega)]
    refine Eq.trans e2 ?_
    simp only [letF, e1]
    exact ih
def lkB (sq : List (Nat × Nat × Bool)) : Nat × Nat := slO lkV (lkK sq) (fun _ => 9) 10 (0, lkT sq + 1)
def lkA (sq : List (Nat × Nat × Bool)) : Nat := if lkT sq = 0 then 4294967294 else (lkB sq).1
def lkR (sq : List (Nat × Nat × Bool)) (row : List Int64) : List Int64 := if lkT sq = 0 then row else [Int32.toInt64 (J (lkB sq).2)]
theorem xc_looks (W : CIk h mk tx len w un us kp ks C row hq sq) (Hq : HSQ sq) : ∃ h' mk', fX10_looks h 0 = some (J (lkA sq), h') ∧ CIk h' mk' tx len w un us kp ks C (lkR sq row) hq sq ∧ On PC0 h h' := by
  obtain ⟨F, f1, f2, f3, f4, w1, w2, w3, w4, w5, w6, w7, w8, w9, w10, w11, w12⟩ := W.2.2.2.2.2.2.2.2.2.2.1
  obtain ⟨g1, e1, W1, G1, O1⟩ := c_gatL Hq 49 FU 0 h W ⟨f4, w10, fun l hl => absurd hl (Nat.not_lt_zero l)⟩ rfl (FU_gt (by decide))
  have tl : lkT sq ≤ 49 := cnt_le
  have hz : J (lkT sq) = 0 ↔ lkT sq = 0 := by rw [l_0]; exact J_inj (by omega) (by decide)
  have gt : fX8_gather h 138 = some (J (lkT sq), g1) := by
    unfold fX8_gather
    rw [if_pos (ob_h w1)]
    exact e1
  unfold fX10_looks lkA lkR
  rw [if_pos (x_h W.1), x_10 W.1, Option.bind_some, gt, Option.bind_some]
  by_cases z : lkT sq = 0
  · rw [if_pos (hz.2 z), if_pos z, if_pos z]
    exact ⟨g1, mk, rfl, W1, O1⟩
  · rw [if_neg (fun y => z (hz.1 y)), if_neg z, if_neg z]
    obtain ⟨g2, e2, W2, O2⟩ := ci_clr W1
    obtain ⟨g3, e3, W3, O3⟩ := ci_add W2 (by simp) (Int32.toInt64 (J (lkB sq).2))
    refine ⟨g3, mk, ?_, W3, (O1.trans (lon O2 (fun k hk => by omega))).trans (lon O3 (fun k hk => by omega))⟩
    have a1 : J (lkT sq) + 1 = J (lkT sq + 1) := by rw [l_1, J_add]
    simp only [letF, a1]
    have e4 := fun K => c_lookO W1 G1 K (st := (0, lkT sq + 1)) (by show lkT sq + 1 ≤ 1000000; omega) 10 FU 0 rfl (FU_gt (by decide))
    have e4' : ∀ K : AH → Nat → Int32 → Int32 → Option (Int32 × AH), fX10_looks_L24 K FU g1 0 (J (lkT sq)) 0 (J (lkT sq + 1)) 0 = K g1 0 (J (lkB sq).1) (J (lkB sq).2) := fun K => e4 K
    rw [e4']
    simp only [x_8 W1.1, Option.bind_some, e2, x_8 W2.1, e3]
theorem y_lookC (W : MIv h tx len w un us kp ks ρ rn row hq sq) (Hq : HSQ sq) {n t : Nat} (hn : n < 100) (ht : t < 100) {b l : Int32} (K : AH → Nat → Int32 → Int32 → Int32 → Int32 → Int32 → Int32 → Option (Int32 × AH)) : ∀ m q k, k + m = 49 → m < q → fX11_looks_L38 K q h 145 b l (J n) (J t) (J (cnt (fun l => lkF sq l && lkG n t l) k)) (J (cnt (fun l => lkF sq l && !lkG n t l) k)) (J k) = K h 145 b l (J n) (J t) (J (lkY sq n t)) (J (lkT sq - lkY sq n t))
  | 0, q + 1, k, e, _ => by
    have : k = 49 := by omega
    subst this
    have sp := cnt_split (lkF sq) (lkG n t) 49
    have sp' : cnt (fun l => lkF sq l && !lkG n t l) 49 = lkT sq - lkY sq n t := by unfold lkT lkY; omega
    rw [fX11_looks_L38]
    simp (disch := omega) only [l_49, J_le]
    rw [if_pos (by omega), sp']
    rfl
  | m + 1, q + 1, k, e, hq' => by
    have ih := y_lookC W Hq hn ht (b := b) (l := l) K m q (k + 1) (by omega) (by omega)
    have e1 : J k + 1 = J (k + 1) := by rw [l_1, J_add]
    have a1 : ∀ x : Nat, J x + 1 = J (x + 1) := fun x => by rw [l_1, J_add]
    have tb : fX11_tidiesBy h (J k) (J n) (J t) = some (lkG n t k) := m_tidBy (by omega) hn ht
    rw [fX11_looks_L38]
    simp (disch := omega) only [l_49, J_le, y_isLaw W Hq, Option.bind_some, tb, letF, e1]
    rw [if_neg (by omega)]
    by_cases z : lkF sq k = true
    · rw [if_pos z]
      by_cases y : lkG n t k = true
      · rw [cnt_yes (f := fun l => lkF sq l && lkG n t l) (by simp [z, y]), cnt_no (f := fun l => lkF sq l && !lkG n t l) (by simp [y])] at ih
        rw [if_pos y, a1]
        exact ih
      · rw [cnt_no (f := fun l => lkF sq l && lkG n t l) (by simp [y]), cnt_yes (f := fun l => lkF sq l && !lkG n t l) (by simp [z, y])] at ih
        rw [if_neg y, a1]
        exact ih
    · rw [cnt_no (f := fun l => lkF sq l && lkG n t l) (by simp [z]), cnt_no (f := fun l => lkF sq l && !lkG n t l) (by simp [z])] at ih
      rw [if_neg z]
      exact ih
theorem y_lookP (W : MIv h tx len w un us kp ks ρ rn row hq sq) (Hq : HSQ sq) {x : Nat} (hx : x < 10) (K : AH → Nat → Int32 → Int32 → Int32 → Option (Int32 × AH)) {st : Nat × Nat} (hst : st.2 ≤ 1000000) : ∀ m n k, k + m = 9 → m < n → fX11_looks_L22 K n h 145 (J (slP lkV (lkK sq) x k st).1) (J (slP lkV (lkK sq) x k st).2) (J x) (J k) = K h 145 (J (slP lkV (lkK sq) x 9 st).1) (J (slP lkV (lkK sq) x 9 st).2) (J x)
  | 0, n + 1, k, e, _ => by
    have : k = 9 := by omega
    subst this
    rw [fX11_looks_L22]
    simp (disch := omega) only [l_8, J_lt]
    rw [if_pos (by omega)]
  | m + 1, n + 1, k, e, hn => by
    have ih := y_lookP W Hq hx K hst m n (k + 1) (by omega) (by omega)
    have sl := slP_le (V := lkV) (K := lkK sq) (x := x) (st := st) k
    obtain ⟨y1, y2⟩ := lkY_le sq x k
    obtain ⟨k1, k2⟩ := lkK_le sq x k
    have e1 : J k + 1 = J (k + 1) := by rw [l_1, J_add]
    have ek : jmax (J (lkY sq x k)) (J (lkT sq - lkY sq x k)) = J (lkK sq x k) := jmax_J (by omega) (by omega)
    have ev : 10 * J x + J k = J (lkV x k) := by rw [l_10, J_mul, J_add]; rfl
    have es : slP lkV (lkK sq) x (k + 1) st = sel (lkV x k) (lkK sq x k) (slP lkV (lkK sq) x k st) := rfl
    rw [es] at ih
    have ec := fun K => y_lookC W Hq (n := x) (t := k) (by omega) (by omega) (b := J (slP lkV (lkK sq) x k st).1) (l := J (slP lkV (lkK sq) x k st).2) K 49 FU 0 rfl (FU_gt (by decide))
    have ec' : ∀ K : AH → Nat → Int32 → Int32 → Int32 → Int32 → Int32 → Int32 → Option (Int32 × AH), fX11_looks_L38 K FU h 145 (J (slP lkV (lkK sq) x k st).1) (J (slP lkV (lkK sq) x k st).2) (J x) (J k) 0 0 0 = K h 145 (J (slP lkV (lkK sq) x k st).1) (J (slP lkV (lkK sq) x k st).2) (J x) (J k) (J (lkY sq x k)) (J (lkT sq - lkY sq x k)) := fun K => ec K
    rw [fX11_looks_L22]
    simp (disch := omega) only [l_8, J_lt]
    rw [if_neg (by omega), ec']
    simp (disch := omega) only [ek, ev, letF, e1, J_lt]
    unfold sel at ih
    by_cases z : lkK sq x k < (slP lkV (lkK sq) x k st).2
    · rw [if_pos z] at ih
      rw [if_pos (by omega)]
      exact ih
    · rw [if_neg z] at ih
      rw [if_neg (by omega)]
      exact ih
theorem y_lookO (W : MIv h tx len w un us kp ks ρ rn row hq sq) (Hq : HSQ sq) (K : AH → Nat → Int32 → Int32 → Option (Int32 × AH)) {st : Nat × Nat} (hst : st.2 ≤ 1000000) : ∀ m n k, k + m = 10 → m < n → fX11_looks_L13 K n h 145 (J (slO lkV (lkK sq) (fun _ => 9) k st).1) (J (slO lkV (lkK sq) (fun _ => 9) k st).2) (J k) = K h 145 (J (slO lkV (lkK sq) (fun _ => 9) 10 st).1) (J (slO lkV (lkK sq) (fun _ => 9) 10 st).2)
  | 0, n + 1, k, e, _ => by
    have : k = 10 := by omega
    subst this
    rw [fX11_looks_L13]
    simp (disch := omega) only [l_9', J_lt]
    rw [if_pos (by omega)]
  | m + 1, n + 1, k, e, hn => by
    have ih := y_lookO W Hq K hst m n (k + 1) (by omega) (by omega)
    have sl := slO_le (V := lkV) (K := lkK sq) (m := fun _ => 9) (st := st) k
    have e1 : J k + 1 = J (k + 1) := by rw [l_1, J_add]
    have e2 := y_lookP W Hq (x := k) (by omega) (fun h24 x20 x21 x22 x23 => letF (x23 + 1 : Int32) fun x25 => fX11_looks_L13 K n h24 x20 x21 x22 x25) (st := slO lkV (lkK sq) (fun _ => 9) k st) (by omega) 9 FU 0 rfl (FU_gt (by decide))
    rw [fX11_looks_L13]
    simp (disch := omega) only [l_9', J_lt]
    rw [if_neg (by omega)]
    refine Eq.trans e2 ?_
    simp only [letF, e1]
    exact ih
theorem xm_looks (W : MIv h tx len w un us kp ks ρ rn row hq sq) (Hq : HSQ sq) : ∃ h', fX11_looks h 145 = some (J (lkA sq), h') ∧ MIv h' tx len w un us kp ks ρ rn (lkR sq row) hq sq ∧ On PM0 h h' := by
  obtain ⟨g0, e0, W0, -, O0⟩ := mi_t0 W
  have O0' : On PM0 h g0 := mon O0 (fun k hk => by omega)
  have tl : lkT sq ≤ 49 := cnt_le
  obtain ⟨k1, k2⟩ := lkK_le sq 0 0
  have same : slO lkV (lkK sq) (fun _ => 9) 10 (4294967295, 1000000) = lkB sq := slO_first (V := lkV) (K := lkK sq) (m := fun _ => 9) (st := (4294967295, 1000000)) (st' := (0, lkT sq + 1)) (by show lkK sq 0 0 < 1000000; omega) (by show lkK sq 0 0 < lkT sq + 1; omega) (by decide) 9
  have e4 := fun K => y_lookO W0 Hq K (st := (4294967295, 1000000)) (by decide) 10 FU 0 rfl (FU_gt (by decide))
  have e4' : ∀ K : AH → Nat → Int32 → Int32 → Option (Int32 × AH), fX11_looks_L13 K FU g0 145 (-1) 1000000 0 = K g0 145 (J (lkB sq).1) (J (lkB sq).2) := fun K => by
    have := e4 K
    rw [same] at this
    exact this
  have bl : (lkB sq).2 ≤ 50 := by
    have := slO_le (V := lkV) (K := lkK sq) (m := fun _ => 9) (st := (0, lkT sq + 1)) 10
    have h2 : (lkB sq).2 ≤ lkT sq + 1 := this
    omega
  have hz : J (lkB sq).2 = 0 ↔ lkT sq = 0 := by
    rw [l_0, J_inj (by omega) (by decide)]
    constructor
    · intro y
      by_cases z : lkT sq = 0
      · exact z
      · have : 0 < (lkB sq).2 := slO_pos (V := lkV) (K := lkK sq) (m := fun _ => 9) (st := (0, lkT sq + 1)) (fun x y => (lkK_le sq x y).2 (by omega)) (Nat.succ_pos _) 10
        omega
    · intro y
      exact slO_zero (V := lkV) (K := lkK sq) (m := fun _ => 9) (st := (0, lkT sq + 1)) (by omega) (by decide) 9
  unfold fX11_looks lkA lkR
  rw [if_pos (y_h W.1), e0, Option.bind_some, e4']
  by_cases z : lkT sq = 0
  · rw [if_pos (hz.2 z), if_pos z, if_pos z]
    exact ⟨g0, rfl, W0, O0'⟩
  · rw [if_neg (fun y => z (hz.1 y)), if_neg z, if_neg z]
    obtain ⟨g2, e2, W2, O2⟩ := mi_clr W0
    obtain ⟨g3, e3, W3, O3⟩ := mi_tell W2 (by simp) (Int32.toInt64 (J (lkB sq).2))
    refine ⟨g3, ?_, W3, (O0'.trans (mon O2 (fun k hk => by omega))).trans (mon O3 (fun k hk => by omega))⟩
    rw [e2, Option.bind_some, e3, Option.bind_some]
end LW
