/-! the game of pages -/
def JL (n : Nat) : Int64 := Int64.ofNat n
theorem JL_eqbv {x : Int64} {n : Nat} (h : x.toBitVec = BitVec.ofNat 64 n) : x = JL n := Int64.toBitVec.inj h
theorem JL_bv (n : Nat) : (JL n).toBitVec = BitVec.ofNat 64 n := rfl
theorem JL_or (a b : Nat) : JL a ||| JL b = JL (a ||| b) := JL_eqbv (by
  rw [Int64.toBitVec_or, JL_bv, JL_bv]
  apply BitVec.eq_of_toNat_eq
  simp only [BitVec.toNat_or, BitVec.toNat_ofNat, Nat.or_mod_two_pow])
theorem JL_sh : ∀ p : Nat, p < 32 → jshlL 1 (J p) = JL (1 <<< p) := by decide +kernel
theorem JL_bset (a : Nat) {p : Nat} (hp : p < 32) : JL a ||| jshlL 1 (J p) = JL (bset a p) := by
  rw [JL_sh p hp, JL_or]
  rfl
def gtL : List Nat := [0, 1, 2, 3, 4, 1, 6, 3, 2, 1, 6, 7, 4, 5, 8, 1, 10, 5, 4, 7, 6, 1, 2, 3, 6, 1, 4, 3, 2, 1, 8, 10, 4, 14, 16, 1, 2, 3, 4, 1, 6, 3, 2, 1, 6, 7, 4, 5, 8, 1, 10, 5, 8, 7, 6, 1, 2, 3, 6, 1, 4]
def gT (n : Nat) : Nat := gtL.getD n 0
def rsI (n t S : Nat) : Nat → Nat
  | 0 => S
  | l + 1 => bset (rsI n t S l) (gT l ^^^ gT (n - t - l))
def rsO (n : Nat) : Nat → Nat
  | 0 => 0
  | d + 1 => rsI n (d + 1) (rsO n d) (n - (d + 1) + 1)
def rsF (n : Nat) : Nat := rsO n (min 3 n)
theorem gt_16 (n : Nat) : gT n < 17 := by
  by_cases z : n < 61
  · have h : ∀ n : Nat, n < 61 → gT n < 17 := by decide
    exact h n z
  · have : gT n = 0 := by
      unfold gT
      have e : gtL.length = 61 := by decide
      rw [List.getD_eq_getElem?_getD, List.getElem?_eq_none (by omega)]
      rfl
    omega
theorem gt_ok : ∀ n : Nat, n < 61 → (∀ v : Nat, v < gT n → (rsF n).testBit v = true) ∧ (rsF n).testBit (gT n) = false ∧ rsF n < 2147483648 := by decide +kernel
theorem gx_16 (a b : Nat) : gT a ^^^ gT b < 32 := Nat.xor_lt_two_pow (n := 5) (Nat.lt_trans (gt_16 a) (by decide)) (Nat.lt_trans (gt_16 b) (by decide))
theorem tz_ok : ∀ n : Nat, n < 61 → fJ13_numberOfTrailingZeros_95d88 (fun _ => none, 0) (JL (rsF n) ^^^ (-1)) = some (J (gT n)) := by decide +kernel
def pgI (n t : Nat) (r : Option (Nat × Nat)) : Nat → Option (Nat × Nat)
  | 0 => r
  | l + 1 => if (pgI n t r l).isSome = false ∧ gT l = gT (n - t - l) then some (t, l) else pgI n t r l
def pgO (n : Nat) : Nat → Option (Nat × Nat)
  | 0 => none
  | d + 1 => pgI n (d + 1) (pgO n d) (n - (d + 1) + 1)
def pgF (n : Nat) : Option (Nat × Nat) := pgO n (min 3 n)
def pgK (r : Option (Nat × Nat)) : List Int64 := match r with
  | none => []
  | some q => [Int32.toInt64 (J q.1), Int32.toInt64 (J q.2)]
theorem pgI_st {n t : Nat} {r : Option (Nat × Nat)} {q : Nat × Nat} {l : Nat} (h : pgI n t r l = some q) : ∀ j, pgI n t r (l + j) = some q
  | 0 => h
  | j + 1 => by
    have ih := pgI_st h j
    show (if (pgI n t r (l + j)).isSome = false ∧ gT (l + j) = gT (n - t - (l + j)) then some (t, l + j) else pgI n t r (l + j)) = some q
    rw [ih, if_neg (fun y => by have := y.1; cases this)]
theorem pgO_st {n : Nat} {q : Nat × Nat} {d : Nat} (h : pgO n d = some q) : ∀ j, pgO n (d + j) = some q
  | 0 => h
  | j + 1 => by
    have ih := pgO_st h j
    show pgI n (d + j + 1) (pgO n (d + j)) (n - (d + j + 1) + 1) = some q
    rw [ih]
    have := pgI_st (n := n) (t := d + j + 1) (r := some q) (l := 0) rfl (n - (d + j + 1) + 1)
    rw [Nat.zero_add] at this
    exact this
theorem pgK_len (r : Option (Nat × Nat)) : (pgK r).length ≤ 2 := by
  cases r with
  | none => exact Nat.zero_le _
  | some q => exact Nat.le_refl _
/-- a table of worths -/
def WTk (h : AH) (a k : Nat) : Prop := ∃ f, h.1 a = some (.inl (0, 61, .inl f)) ∧ ∀ j, j < k → f j = J (gT j)
theorem wt_at {h : AH} {a k j : Nat} (G : WTk h a k) (hk : k ≤ 61) (hj : j < k) : aI h 0 a (J j) = some (J (gT j)) := by
  obtain ⟨f, g1, g2⟩ := G
  rw [aI_at g1 (by omega) (by decide), g2 j hj]
theorem WTk.on {h g : AH} {a k : Nat} {P : Nat → Prop} (G : WTk h a k) (O : On P h g) (h1 : ¬ P a) : WTk g a k := by
  obtain ⟨f, g1, g2⟩ := G
  exact ⟨f, (O.2 _ h1).trans g1, g2⟩
theorem wt_s {h : AH} {a k : Nat} (G : WTk h a k) (hk : k < 61) : ∃ g, sI h 0 a (J k) (J (gT k)) = some g ∧ WTk g a (k + 1) ∧ On (fun j => j = a) h g := by
  obtain ⟨f, g1, g2⟩ := G
  obtain ⟨g, d, c, O⟩ := wa_s g1 hk (by decide) (J (gT k))
  refine ⟨g, d, ⟨_, c, fun j hj => ?_⟩, O.on1 rfl⟩
  show (if j = k then J (gT k) else f j) = J (gT j)
  by_cases z : j = k
  · rw [if_pos z, z]
  · rw [if_neg z]
    exact g2 j (by omega)
section PG
variable {h g : AH} {mk : Nat} {tx : Nat → Nat} {len : Nat} {w : ST} {un : Nat} {us : Nat → ST} {kp : Nat → Bool} {ks : Nat → ST} {C : List Nat} {ρ : Nat → Nat} {rn : Nat} {row : List Int64} {hq : List (Nat × Nat)} {sq : List (Nat × Nat × Bool)}
theorem CIk.pgh (W : CIk h mk tx len w un us kp ks C row hq sq) : hasC h 3 143 = true ∧ gR h 3 143 0 = some 144 ∧ aL h 0 144 = some (J 61) := by
  obtain ⟨⟨F, w1, w2⟩, f, w3⟩ := W.2.2.2.2.2.2.2.2.2.2.2
  exact ⟨ob_h w1, ob_r w1 (by decide) w2, aL_at w3⟩
theorem c_worth (W : CIk h mk tx len w un us kp ks C row hq sq) {k j : Nat} (G : WTk h 144 k) (hk : k ≤ 61) (hj : j < k) : fX3_worthOf h 143 (J j) = some (J (gT j)) := by
  obtain ⟨r1, r2, r3⟩ := W.pgh
  unfold fX3_worthOf
  rw [if_pos r1, if_neg (J_neg (by omega)), r2, Option.bind_some, r3, Option.bind_some, if_neg (fun y => by rw [J_le (by omega) (by omega)] at y; omega), Option.bind_some, wt_at G hk hj, Option.bind_some]
theorem c_lwI (W : CIk h mk tx len w un us kp ks C row hq sq) {n t S : Nat} (G : WTk h 144 n) (hn : n < 61) (ht : 0 < t) (htn : t ≤ n) (K : Nat → Int32 → Int64 → Int32 → Option Int32) : ∀ m q l, l + m = n - t + 1 → m < q → fX3_leastWorthNotReached_L20 h K q 143 (J n) (JL (rsI n t S l)) (J t) (J l) = K 143 (J n) (JL (rsI n t S (n - t + 1))) (J t)
  | 0, q + 1, l, e, _ => by
    rw [fX3_leastWorthNotReached_L20, J_sub htn, if_pos (by rw [J_lt (by omega) (by omega)]; omega), show l = n - t + 1 by omega]
  | m + 1, q + 1, l, e, hq' => by
    have ih := c_lwI W (S := S) G hn ht htn K m q (l + 1) (by omega) (by omega)
    have e1 : J l + 1 = J (l + 1) := by rw [l_1, J_add]
    have gx := gx_16 l (n - t - l)
    rw [fX3_leastWorthNotReached_L20, J_sub htn, if_neg (fun y => by rw [J_lt (by omega) (by omega)] at y; omega), J_sub (show l ≤ n - t by omega), c_worth W G (by omega) (by omega), Option.bind_some, c_worth W G (by omega) (by omega), Option.bind_some, J_xor, JL_bset _ (by omega)]
    simp only [letF, e1]
    exact ih
theorem c_lwO (W : CIk h mk tx len w un us kp ks C row hq sq) {n : Nat} (G : WTk h 144 n) (hn : n < 61) (K : Int64 → Option Int32) : ∀ m q d, d + m = min 3 n → m < q → fX3_leastWorthNotReached_L5 h K q 143 (J n) (JL (rsO n d)) (J (d + 1)) = K (JL (rsF n))
  | 0, q + 1, d, e, _ => by
    have l3 : (3 : Int32) = J 3 := rfl
    have er : rsO n d = rsF n := by unfold rsF; rw [show d = min 3 n by omega]
    rw [fX3_leastWorthNotReached_L5, er]
    by_cases z : 3 < d + 1
    · rw [if_pos (by rw [l3, J_lt (by omega) (by omega)]; omega)]
    · rw [if_neg (fun y => by rw [l3, J_lt (by omega) (by omega)] at y; omega), if_pos (by rw [J_lt (by omega) (by omega)]; omega)]
  | m + 1, q + 1, d, e, hq' => by
    have l3 : (3 : Int32) = J 3 := rfl
    have ih := c_lwO W G hn K m q (d + 1) (by omega) (by omega)
    have e1 : J (d + 1) + 1 = J (d + 1 + 1) := by rw [l_1, J_add]
    have e2 := c_lwI W (S := rsO n d) (t := d + 1) G hn (by omega) (by omega) (fun x5 x6 x7 x8 => letF (x8 + 1 : Int32) fun x9 => fX3_leastWorthNotReached_L5 h K q x5 x6 x7 x9) (n - (d + 1) + 1) FU 0 (by omega) (FU_gt (by omega))
    rw [fX3_leastWorthNotReached_L5, if_neg (fun y => by rw [l3, J_lt (by omega) (by omega)] at y; omega), if_neg (fun y => by rw [J_lt (by omega) (by omega)] at y; omega)]
    refine Eq.trans e2 ?_
    simp only [letF, e1]
    exact ih
theorem c_lw (W : CIk h mk tx len w un us kp ks C row hq sq) {n : Nat} (G : WTk h 144 n) (hn : n < 61) : fX3_leastWorthNotReached h 143 (J n) = some (J (gT n)) := by
  have e := c_lwO W G hn (fun x11 => fX3_leastWorthNotReached_J64 h x11) (min 3 n) FU 0 (by omega) (FU_gt (by omega))
  have tz : fJ13_numberOfTrailingZeros_95d88 h (JL (rsF n) ^^^ (-1)) = some (J (gT n)) := tz_ok n hn
  unfold fX3_leastWorthNotReached
  rw [if_pos W.pgh.1]
  refine Eq.trans e ?_
  unfold fX3_leastWorthNotReached_J64
  rw [tz, Option.bind_some]
theorem c_weighL {n : Nat} (hn : n < 61) : ∀ m q k h, CIk h mk tx len w un us kp ks C row hq sq → WTk h 144 k → k + m = n + 1 → m < q → ∃ h', fX3_weigh_L2 q h 143 (J n) (J k) = some h' ∧ CIk h' mk tx len w un us kp ks C row hq sq ∧ WTk h' 144 (n + 1) ∧ On PC0 h h'
  | 0, q + 1, k, h, W, G, e, _ => by
    have ek : k = n + 1 := by omega
    rw [ek] at G ⊢
    refine ⟨h, ?_, W, G, On.rf⟩
    rw [fX3_weigh_L2, if_pos (by rw [J_lt (by omega) (by omega)]; omega)]
  | m + 1, q + 1, k, h, W, G, e, hq' => by
    obtain ⟨r1, r2, r3⟩ := W.pgh
    obtain ⟨g1, d, G1, O1⟩ := wt_s G (show k < 61 by omega)
    have W1 : CIk g1 mk tx len w un us kp ks C row hq sq := by
      obtain ⟨w1, w2, w3, w4, w5, w6, w7, w8, w9, w10, w11, ⟨w12, w13⟩⟩ := W
      obtain ⟨F, w12, w12'⟩ := w12
      obtain ⟨f1, c1, c2⟩ := G1
      exact ⟨w1.on O1 (by omega), w2.on O1 (by omega), w3.on O1 (fun k h1 h2 => by omega), w4.on O1 (fun k h1 h2 => by omega), w5.on O1 (fun k h1 h2 => by omega), w6.on O1 (by omega) (by omega) (by omega), w7.on O1 (by omega) (by omega) (by omega), w8.on O1 (by omega) (by omega) (by omega), w9.on O1 (by omega) (by omega), w10.on O1 (fun k h1 h2 => by omega), w11.on O1 (fun k h1 h2 => by omega), ⟨⟨F, w12.on O1 (by omega), w12'⟩, f1, c1⟩⟩
    obtain ⟨g2, e2, W2, G2, O2⟩ := c_weighL hn m q (k + 1) g1 W1 G1 (by omega) (by omega)
    refine ⟨g2, ?_, W2, G2, (lon O1 (fun k hk => by omega)).trans O2⟩
    have e1 : J k + 1 = J (k + 1) := by rw [l_1, J_add]
    rw [fX3_weigh_L2, if_neg (fun y => by rw [J_lt (by omega) (by omega)] at y; omega), r2, Option.bind_some, r3, Option.bind_some, if_neg (fun y => by rw [J_le (by omega) (by omega)] at y; omega), Option.bind_some, c_lw W G (by omega), Option.bind_some, d, Option.bind_some]
    simp only [letF, e1]
    exact e2
theorem c_pgI (W : CIk h mk tx len w un us kp ks C row hq sq) {n t : Nat} (G : WTk h 144 (n + 1)) (hn : n < 61) (ht : 0 < t) (htn : t ≤ n) (K1 : AH → Nat → Int32 → Int32 → Option (Int32 × AH)) (K2 : AH → Nat → Int32 → Int32 → Option (Int32 × AH)) : ∀ m q l, l + m = n - t + 1 → m < q → pgI n t none l = none → (∃ j, pgI n t none (n - t + 1) = some (t, j) ∧ fX10_pages_L41 K1 K2 q h 0 (J n) (J t) (J l) = K1 h 0 (J t) (J j)) ∨ (pgI n t none (n - t + 1) = none ∧ fX10_pages_L41 K1 K2 q h 0 (J n) (J t) (J l) = K2 h 0 (J n) (J t))
  | 0, q + 1, l, e, _, hp => by
    right
    have el : l = n - t + 1 := by omega
    rw [el] at hp
    refine ⟨hp, ?_⟩
    rw [fX10_pages_L41, J_sub htn, if_pos (by rw [J_lt (by omega) (by omega)]; omega)]
  | m + 1, q + 1, l, e, hq', hp => by
    obtain ⟨r1, r2, r3⟩ := W.pgh
    have e1 : J l + 1 = J (l + 1) := by rw [l_1, J_add]
    have il : fX3_isLost h 143 (J l) (J (n - t - l)) = some (decide (gT l = gT (n - t - l))) := by
      have h1 := gt_16 l
      have h2 := gt_16 (n - t - l)
      unfold fX3_isLost
      rw [if_pos r1, c_worth W G (by omega) (by omega), Option.bind_some, c_worth W G (by omega) (by omega), Option.bind_some]
      by_cases z : gT l = gT (n - t - l)
      · rw [if_pos (by rw [z]), decide_eq_true z]
      · rw [if_neg (fun y => z ((J_inj (by omega) (by omega)).1 y)), decide_eq_false z]
    have es : pgI n t none (l + 1) = if (pgI n t none l).isSome = false ∧ gT l = gT (n - t - l) then some (t, l) else pgI n t none l := rfl
    rw [fX10_pages_L41, J_sub htn, if_neg (fun y => by rw [J_lt (by omega) (by omega)] at y; omega), x_11 W.1, Option.bind_some, J_sub (show l ≤ n - t by omega), il, Option.bind_some]
    by_cases z : gT l = gT (n - t - l)
    · left
      rw [hp, if_pos ⟨rfl, z⟩] at es
      refine ⟨l, ?_, ?_⟩
      · have := pgI_st es (n - t - l)
        rw [show l + 1 + (n - t - l) = n - t + 1 by omega] at this
        exact this
      · rw [if_pos (decide_eq_true z)]
    · rw [hp, if_neg (fun y => z y.2)] at es
      rw [if_neg (fun y => z (of_decide_eq_true y))]
      simp only [letF, e1]
      exact c_pgI W G hn ht htn K1 K2 m q (l + 1) (by omega) (by omega) es
theorem c_pgO (W : CIk h mk tx len w un us kp ks C row hq sq) {n : Nat} (G : WTk h 144 (n + 1)) (hn : n < 61) (K1 : AH → Nat → Int32 → Int32 → Option (Int32 × AH)) : ∀ m q d, d + m = min 3 n → m < q → pgO n d = none → (∃ t j, pgF n = some (t, j) ∧ fX10_pages_L29 K1 q h 0 (J n) (J (d + 1)) = K1 h 0 (J t) (J j)) ∨ (pgF n = none ∧ fX10_pages_L29 K1 q h 0 (J n) (J (d + 1)) = some (0, h))
  | 0, q + 1, d, e, _, hp => by
    right
    have l3 : (3 : Int32) = J 3 := rfl
    refine ⟨by unfold pgF; rw [show min 3 n = d by omega]; exact hp, ?_⟩
    rw [fX10_pages_L29]
    by_cases z : 3 < d + 1
    · rw [if_pos (by rw [l3, J_lt (by omega) (by omega)]; omega)]
    · rw [if_neg (fun y => by rw [l3, J_lt (by omega) (by omega)] at y; omega), if_pos (by rw [J_lt (by omega) (by omega)]; omega)]
  | m + 1, q + 1, d, e, hq', hp => by
    have l3 : (3 : Int32) = J 3 := rfl
    have e1 : J (d + 1) + 1 = J (d + 1 + 1) := by rw [l_1, J_add]
    have es : pgO n (d + 1) = pgI n (d + 1) (pgO n d) (n - (d + 1) + 1) := rfl
    rw [hp] at es
    rw [fX10_pages_L29, if_neg (fun y => by rw [l3, J_lt (by omega) (by omega)] at y; omega), if_neg (fun y => by rw [J_lt (by omega) (by omega)] at y; omega)]
    rcases c_pgI W G hn (show 0 < d + 1 by omega) (show d + 1 ≤ n by omega) K1 (fun h7 x4 x5 x6 => letF (x6 + 1 : Int32) fun x8 => fX10_pages_L29 K1 q h7 x4 x5 x8) (n - (d + 1) + 1) FU 0 (by omega) (FU_gt (by omega)) rfl with ⟨j, h1, h2⟩ | ⟨h1, h2⟩
    · left
      rw [h1] at es
      refine ⟨d + 1, j, ?_, h2⟩
      have := pgO_st es (min 3 n - (d + 1))
      rw [show d + 1 + (min 3 n - (d + 1)) = min 3 n by omega] at this
      exact this
    · rw [h1] at es
      have ih := c_pgO W G hn K1 m q (d + 1) (by omega) (by omega) es
      have h2' : fX10_pages_L41 K1 (fun h7 x4 x5 x6 => letF (x6 + 1 : Int32) fun x8 => fX10_pages_L29 K1 q h7 x4 x5 x8) FU h 0 (J n) (J (d + 1)) 0 = fX10_pages_L29 K1 q h 0 (J n) (J (d + 1 + 1)) := by
        refine Eq.trans h2 ?_
        simp only [letF, e1]
      rw [h2']
      exact ih
def ppA (n : Nat) : Nat := if n ≤ 60 then (if (pgF n).isSome = true then 1 else 0) else 4294967295
def ppR (n : Nat) (row : List Int64) : List Int64 := if n ≤ 60 then pgK (pgF n) else row
theorem xc_pages (W : CIk h mk tx len w un us kp ks C row hq sq) {n : Nat} (hn : n < 4294967296) : ∃ h' mk', fX10_pages h 0 (J n) = some (J (ppA n), h') ∧ CIk h' mk' tx len w un us kp ks C (ppR n row) hq sq ∧ On PC0 h h' := by
  unfold fX10_pages ppA ppR
  rw [if_pos (x_h W.1)]
  by_cases z : n ≤ 60
  · rw [if_neg (J_neg (by omega)), if_pos (by rw [l_60, J_le (by omega) (by decide)]; omega), if_pos z, if_pos z]
    obtain ⟨g1, e1, W1, O1⟩ := ci_clr W
    obtain ⟨r1, r2, r3⟩ := W1.pgh
    obtain ⟨f, c⟩ := W1.2.2.2.2.2.2.2.2.2.2.2.2
    obtain ⟨g2, e2, W2, G2, O2⟩ := c_weighL (n := n) (by omega) (n + 1) FU 0 g1 W1 ⟨f, c, fun j hj => absurd hj (Nat.not_lt_zero j)⟩ (by omega) (FU_gt (by omega))
    have ew : fX3_weigh g1 143 (J n) = some g2 := by
      unfold fX3_weigh
      rw [if_pos r1]
      exact e2
    have O12 := (lon O1 (fun k hk => by omega)).trans O2
    rw [x_8 W.1, Option.bind_some, e1, Option.bind_some, x_11 W1.1, Option.bind_some, ew, Option.bind_some]
    rcases c_pgO W2 G2 (by omega) (fun h16 x13 x14 x15 =>
            (gR h16 10 x13 8).bind fun x17 =>
            (fX5_add h16 x17 (Int32.toInt64 x14)).bind fun q18 =>
            (gR q18 10 x13 8).bind fun x19 =>
            (fX5_add q18 x19 (Int32.toInt64 x15)).bind fun q20 =>
            some ((1, q20))) (min 3 n) FU 0 (by omega) (FU_gt (by omega)) rfl with ⟨t, j, h1, h2⟩ | ⟨h1, h2⟩
    · rw [h1]
      obtain ⟨g3, e3, W3, O3⟩ := ci_add W2 (by simp) (Int32.toInt64 (J t))
      obtain ⟨g4, e4, W4, O4⟩ := ci_add W3 (by simp) (Int32.toInt64 (J j))
      refine ⟨g4, mk, ?_, W4, (O12.trans (lon O3 (fun k hk => by omega))).trans (lon O4 (fun k hk => by omega))⟩
      refine Eq.trans h2 ?_
      rw [x_8 W2.1, Option.bind_some, e3, Option.bind_some, x_8 W3.1, Option.bind_some, e4, Option.bind_some]
      rfl
    · rw [h1]
      exact ⟨g2, mk, h2, W2, O12⟩
  · rw [if_neg z, if_neg z]
    refine ⟨h, mk, ?_, W, On.rf⟩
    by_cases y : 2147483648 ≤ n
    · rw [if_pos (by rw [l_0, J_lt hn (by decide)]; omega), m1_J]
    · rw [if_neg (J_neg (by omega)), if_neg (fun x => by rw [l_60, J_le (by omega) (by decide)] at x; omega), m1_J]
/-! by the reference -/
theorem jmin_3 {n : Nat} (hn : n < 61) : jmin 3 (J n) = J (min 3 n) := by
  unfold jmin
  rw [l_3]
  by_cases z : n < 3
  · rw [if_pos (by rw [J_lt (by omega) (by decide)]; omega), Nat.min_eq_right (by omega)]
  · rw [if_neg (fun y => by rw [J_lt (by omega) (by decide)] at y; omega), Nat.min_eq_left (by omega)]
theorem y_lwI (W : MIv h tx len w un us kp ks ρ rn row hq sq) {n t S : Nat} (G : WTk h 163 n) (hn : n < 61) (ht : 0 < t) (htn : t ≤ n) (K : Nat → Int32 → Int32 → Int32 → Option Int32) : ∀ m q l, l + m = n - t + 1 → m < q → fX11_worthBy_L16 h K q 145 (J n) (J (rsI n t S l)) (J t) (J l) = K 145 (J n) (J (rsI n t S (n - t + 1))) (J t)
  | 0, q + 1, l, e, _ => by
    rw [fX11_worthBy_L16, J_sub htn, if_pos (by rw [J_lt (by omega) (by omega)]; omega), show l = n - t + 1 by omega]
  | m + 1, q + 1, l, e, hq' => by
    have ih := y_lwI W (S := S) G hn ht htn K m q (l + 1) (by omega) (by omega)
    have e1 : J l + 1 = J (l + 1) := by rw [l_1, J_add]
    have gx := gx_16 l (n - t - l)
    rw [fX11_worthBy_L16, J_sub htn, if_neg (fun y => by rw [J_lt (by omega) (by omega)] at y; omega), y_32 W.1, Option.bind_some, wt_at G (by omega) (show l < n by omega), Option.bind_some, Option.bind_some, J_sub (show l ≤ n - t by omega), wt_at G (by omega) (show n - t - l < n by omega), Option.bind_some, J_xor, J_bset _ (by omega)]
    simp only [letF, e1]
    exact ih
theorem y_lwO (W : MIv h tx len w un us kp ks ρ rn row hq sq) {n : Nat} (G : WTk h 163 n) (hn : n < 61) (K : Int32 → Option Int32) : ∀ m q d, d + m = min 3 n → m < q → fX11_worthBy_L4 h K q 145 (J n) (J (rsO n d)) (J (d + 1)) = K (J (rsF n))
  | 0, q + 1, d, e, _ => by
    have er : rsO n d = rsF n := by unfold rsF; rw [show d = min 3 n by omega]
    rw [fX11_worthBy_L4, er, jmin_3 hn, if_pos (by rw [J_lt (by omega) (by omega)]; omega)]
  | m + 1, q + 1, d, e, hq' => by
    have ih := y_lwO W G hn K m q (d + 1) (by omega) (by omega)
    have e1 : J (d + 1) + 1 = J (d + 1 + 1) := by rw [l_1, J_add]
    have e2 := y_lwI W (S := rsO n d) (t := d + 1) G hn (by omega) (by omega) (fun x7 x8 x9 x10 => letF (x10 + 1 : Int32) fun x11 => fX11_worthBy_L4 h K q x7 x8 x9 x11) (n - (d + 1) + 1) FU 0 (by omega) (FU_gt (by omega))
    rw [fX11_worthBy_L4, jmin_3 hn, if_neg (fun y => by rw [J_lt (by omega) (by omega)] at y; omega)]
    refine Eq.trans e2 ?_
    simp only [letF, e1]
    exact ih
theorem m_low {h : AH} {n : Nat} (hn : n < 61) : ∀ m q v, v + m = gT n → m < q → fX11_worthBy_L62 h q (J (rsF n)) (J v) = some (J (gT n))
  | 0, q + 1, v, e, _ => by
    obtain ⟨o1, o2, o3⟩ := gt_ok n hn
    have g16 := gt_16 n
    have ev : v = gT n := by omega
    rw [ev, fX11_worthBy_L62, m_has (by omega) (by omega), Option.bind_some, o2, if_neg (by decide)]
  | m + 1, q + 1, v, e, hq' => by
    obtain ⟨o1, o2, o3⟩ := gt_ok n hn
    have g16 := gt_16 n
    have e1 : J v + 1 = J (v + 1) := by rw [l_1, J_add]
    rw [fX11_worthBy_L62, m_has (by omega) (by omega), Option.bind_some, o1 v (by omega), if_pos rfl]
    simp only [letF, e1]
    exact m_low hn m q (v + 1) (by omega) (by omega)
theorem y_lw (W : MIv h tx len w un us kp ks ρ rn row hq sq) {n : Nat} (G : WTk h 163 n) (hn : n < 61) : fX11_worthBy h 145 (J n) = some (J (gT n)) := by
  have e := y_lwO W G hn (fun x14 => fX11_worthBy_L62 h FU x14 0) (min 3 n) FU 0 (by omega) (FU_gt (by omega))
  have g16 := gt_16 n
  unfold fX11_worthBy
  rw [if_pos (y_h W.1)]
  refine Eq.trans e ?_
  exact m_low hn (gT n) FU 0 (by omega) (FU_gt (by omega))
theorem y_weighL {n : Nat} (hn : n < 61) : ∀ m q k h, MIv h tx len w un us kp ks ρ rn row hq sq → WTk h 163 k → k + m = n + 1 → m < q → ∃ h', (∀ K : AH → Nat → Int32 → Option (Int32 × AH), fX11_pages_L19 K q h 145 (J n) (J k) = K h' 145 (J n)) ∧ MIv h' tx len w un us kp ks ρ rn row hq sq ∧ WTk h' 163 (n + 1) ∧ On PM0 h h'
  | 0, q + 1, k, h, W, G, e, _ => by
    have ek : k = n + 1 := by omega
    rw [ek] at G ⊢
    refine ⟨h, fun K => ?_, W, G, On.rf⟩
    rw [fX11_pages_L19, if_pos (by rw [J_lt (by omega) (by omega)]; omega)]
  | m + 1, q + 1, k, h, W, G, e, hq' => by
    obtain ⟨g1, d, G1, O1⟩ := wt_s G (show k < 61 by omega)
    have W1 : MIv g1 tx len w un us kp ks ρ rn row hq sq := by
      obtain ⟨w1, w2, w3, w4, w5, w6, w7, w8, w9, w10⟩ := W
      obtain ⟨y1, y2, y3, y4, y5, y6, y7, y8⟩ := w10
      obtain ⟨f1, c1, c2⟩ := G1
      exact ⟨w1.on O1 (by omega), w2.on O1 (by omega), w3.on O1 (by omega), w4.on O1 (by omega), w5.on O1 (by omega) (by omega), w6.on O1 (by omega), w7.on O1 (by omega), w8.on O1 (by omega) (by omega), w9.on O1 (by omega) (by omega) (by omega), ⟨y1.on O1 (by omega), y2.on O1 (by omega), y3.on O1 (by omega), y4.on O1 (by omega), y5.on O1 (by omega), y6.on O1 (by omega), y7.on O1 (by omega), f1, c1⟩⟩
    obtain ⟨g2, e2, W2, G2, O2⟩ := y_weighL hn m q (k + 1) g1 W1 G1 (by omega) (by omega)
    refine ⟨g2, fun K => ?_, W2, G2, (mon O1 (fun k hk => by omega)).trans O2⟩
    have e1 : J k + 1 = J (k + 1) := by rw [l_1, J_add]
    rw [fX11_pages_L19, if_neg (fun y => by rw [J_lt (by omega) (by omega)] at y; omega), y_32 W.1, Option.bind_some, y_lw W G (by omega), Option.bind_some, d, Option.bind_some]
    simp only [letF, e1]
    exact e2 K
theorem y_pgI {n t : Nat} (hn : n < 61) (ht : 0 < t) (htn : t ≤ n) {r : Option (Nat × Nat)} (K : AH → Nat → Int32 → Int32 → Option (Int32 × AH)) : ∀ m q l h, MIv h tx len w un us kp ks ρ rn (pgK (pgI n t r l)) hq sq → WTk h 163 (n + 1) → l + m = n - t + 1 → m < q → ∃ h', fX11_pages_L59 K q h 145 (J n) (J t) (J l) = K h' 145 (J n) (J t) ∧ MIv h' tx len w un us kp ks ρ rn (pgK (pgI n t r (n - t + 1))) hq sq ∧ WTk h' 163 (n + 1) ∧ On PM0 h h'
  | 0, q + 1, l, h, W, G, e, _ => by
    have el : l = n - t + 1 := by omega
    rw [el] at W ⊢
    refine ⟨h, ?_, W, G, On.rf⟩
    rw [fX11_pages_L59, J_sub htn, if_pos (by rw [J_lt (by omega) (by omega)]; omega)]
  | m + 1, q + 1, l, h, W, G, e, hq' => by
    have e1 : J l + 1 = J (l + 1) := by rw [l_1, J_add]
    have es : pgI n t r (l + 1) = if (pgI n t r l).isSome = false ∧ gT l = gT (n - t - l) then some (t, l) else pgI n t r l := rfl
    have go : pgI n t r (l + 1) = pgI n t r l → ∃ h', fX11_pages_L59 K q h 145 (J n) (J t) (J (l + 1)) = K h' 145 (J n) (J t) ∧ MIv h' tx len w un us kp ks ρ rn (pgK (pgI n t r (n - t + 1))) hq sq ∧ WTk h' 163 (n + 1) ∧ On PM0 h h' := fun z => y_pgI hn ht htn K m q (l + 1) h (by rw [z]; exact W) G (by omega) (by omega)
    rw [fX11_pages_L59, J_sub htn, if_neg (fun y => by rw [J_lt (by omega) (by omega)] at y; omega), y_4 W.1, Option.bind_some]
    cases hr : pgI n t r l with
    | some p =>
      rw [hr] at es
      have l2 : (pgK (some p)).length = 2 := rfl
      rw [l2, if_pos (by decide)]
      simp only [letF, e1]
      exact go (by rw [es, hr, if_neg (fun y => by have := y.1; cases this)])
    | none =>
      rw [hr] at es W
      have l2 : (pgK none).length = 0 := rfl
      have h1 := gt_16 l
      have h2 := gt_16 (n - t - l)
      rw [l2, if_neg (by decide), y_32 W.1, Option.bind_some, wt_at G (by omega) (show l < n + 1 by omega), Option.bind_some, Option.bind_some, J_sub (show l ≤ n - t by omega), wt_at G (by omega) (show n - t - l < n + 1 by omega), Option.bind_some]
      by_cases z : gT l = gT (n - t - l)
      · rw [if_pos ⟨rfl, z⟩] at es
        rw [if_pos (by rw [z])]
        obtain ⟨g2, e2, W2, O2⟩ := mi_tell W (by simp [pgK]) (Int32.toInt64 (J t))
        obtain ⟨g3, e3, W3, O3⟩ := mi_tell W2 (by simp [pgK]) (Int32.toInt64 (J l))
        have O23 := (mon O2 (fun k hk => by omega)).trans (mon O3 (fun k hk => by omega))
        have G3 := (G.on O2 (by omega)).on O3 (by omega)
        obtain ⟨g4, e4, W4, G4, O4⟩ := y_pgI hn ht htn K m q (l + 1) g3 (by rw [es]; exact W3) G3 (by omega) (by omega)
        refine ⟨g4, ?_, W4, G4, O23.trans O4⟩
        rw [e2, Option.bind_some, e3, Option.bind_some]
        simp only [letF, e1]
        exact e4
      · rw [if_neg (fun y => z y.2)] at es
        rw [if_neg (fun y => z ((J_inj (by omega) (by omega)).1 y))]
        simp only [letF, e1]
        exact y_pgI hn ht htn K m q (l + 1) h (by rw [es]; exact W) G (by omega) (by omega)
theorem y_pgO {n : Nat} (hn : n < 61) (K : AH → Nat → Option (Int32 × AH)) : ∀ m q d h, MIv h tx len w un us kp ks ρ rn (pgK (pgO n d)) hq sq → WTk h 163 (n + 1) → d + m = min 3 n → m < q → ∃ h', fX11_pages_L48 K q h 145 (J n) (J (d + 1)) = K h' 145 ∧ MIv h' tx len w un us kp ks ρ rn (pgK (pgF n)) hq sq ∧ On PM0 h h'
  | 0, q + 1, d, h, W, G, e, _ => by
    refine ⟨h, ?_, by unfold pgF; rw [show min 3 n = d by omega]; exact W, On.rf⟩
    rw [fX11_pages_L48, jmin_3 hn, if_pos (by rw [J_lt (by omega) (by omega)]; omega)]
  | m + 1, q + 1, d, h, W, G, e, hq' => by
    have e1 : J (d + 1) + 1 = J (d + 1 + 1) := by rw [l_1, J_add]
    obtain ⟨g1, e2, W1, G1, O1⟩ := y_pgI hn (show 0 < d + 1 by omega) (show d + 1 ≤ n by omega) (r := pgO n d) (fun h18 x15 x16 x17 => letF (x17 + 1 : Int32) fun x19 => fX11_pages_L48 K q h18 x15 x16 x19) (n - (d + 1) + 1) FU 0 h W G (by omega) (FU_gt (by omega))
    obtain ⟨g2, e3, W2, O2⟩ := y_pgO hn K m q (d + 1) g1 W1 G1 (by omega) (by omega)
    refine ⟨g2, ?_, W2, O1.trans O2⟩
    rw [fX11_pages_L48, jmin_3 hn, if_neg (fun y => by rw [J_lt (by omega) (by omega)] at y; omega)]
    refine Eq.trans e2 ?_
    simp only [letF, e1]
    exact e3
theorem xm_pages (W : MIv h tx len w un us kp ks ρ rn row hq sq) {n : Nat} (hn : n < 4294967296) : ∃ h', fX11_pages h 145 (J n) = some (J (ppA n), h') ∧ MIv h' tx len w un us kp ks ρ rn (ppR n row) hq sq ∧ On PM0 h h' := by
  obtain ⟨g0, e0, W0, -, O0⟩ := mi_t0 W
  have O0' : On PM0 h g0 := mon O0 (fun k hk => by omega)
  have i5 : fX11_in g0 (J n) 0 60 = some (decide (n ≤ 60)) := by
    rw [l_0, l_60, m_in hn (by decide) (by decide), decide_eq_true (Nat.zero_le n), Bool.true_and]
  unfold fX11_pages ppA ppR
  rw [if_pos (y_h W.1), e0, Option.bind_some, i5, Option.bind_some]
  by_cases z : n ≤ 60
  · rw [if_pos (decide_eq_true z), if_pos z, if_pos z]
    obtain ⟨f, c⟩ := W0.2.2.2.2.2.2.2.2.2.2.2.2.2.2.2.2
    obtain ⟨g1, e1, W1, G1, O1⟩ := y_weighL (n := n) (by omega) (n + 1) FU 0 g0 W0 ⟨f, c, fun j hj => absurd hj (Nat.not_lt_zero j)⟩ (by omega) (FU_gt (by omega))
    obtain ⟨g2, e2, W2, O2⟩ := mi_clr W1
    have G2 := G1.on O2 (by decide)
    obtain ⟨g3, e3, W3, O3⟩ := y_pgO (n := n) (by omega) (fun h27 x26 =>
              (gI h27 11 x26 4).bind fun x28 =>
              if x28 ≤ 0 then (
                some ((0, h27))
              ) else (
                some ((1, h27))
              )) (min 3 n) FU 0 g2 W2 G2 (by omega) (FU_gt (by omega))
    refine ⟨g3, ?_, W3, ((O0'.trans O1).trans (mon O2 (fun k hk => by omega))).trans O3⟩
    refine Eq.trans (e1 _) ?_
    rw [e2, Option.bind_some]
    refine Eq.trans e3 ?_
    rw [y_4 W3.1, Option.bind_some]
    cases pgF n with
    | none => rfl
    | some p => rfl
  · rw [if_neg (fun y => z (of_decide_eq_true y)), if_neg z, if_neg z, m1_J]
    exact ⟨g0, rfl, W0, O0'⟩
end PG
