/-! a day told as a text, by the reference -/
theorem dRun_s {C : List Nat} {tx : Nat → Nat} : ∀ N a τ d, d ≤ (dRun C tx N a τ d).2.1 ∧ (dRun C tx N a τ d).2.1 ≤ d + N ∧ ((dRun C tx N a τ d).2.2 = true ↔ (dRun C tx N a τ d).2.1 < d + N)
  | 0, a, τ, d => ⟨Nat.le_refl _, Nat.le_refl _, ⟨fun z => absurd z (by show ¬ false = true; decide), fun z => absurd z (Nat.lt_irrefl d)⟩⟩
  | N + 1, a, τ, d => by
    unfold dRun
    by_cases z : (dAct C tx a τ).1 < 2147483648
    · rw [if_pos z]
      obtain ⟨h1, h2, h3⟩ := dRun_s N (a + 1 + dL tx a) (dAct C tx a τ).2 (d + 1)
      exact ⟨by omega, by omega, h3.trans ⟨fun y => by omega, fun y => by omega⟩⟩
    · rw [if_neg z]
      exact ⟨Nat.le_refl _, by show d ≤ d + (N + 1); omega, ⟨fun _ => by show d < d + (N + 1); omega, fun _ => rfl⟩⟩
/-- an act that is refused -/
theorem dAct_no {C : List Nat} {tx : Nat → Nat} {n a : Nat} {τ : ST} (I : INV τ) (K : dAk tx n a) (z : ¬ (dAct C tx a τ).1 < 2147483648) : (dAct C tx a τ).2 = τ ∨ ∃ s p, hs τ s = true ∧ p < 8 ∧ (dAct C tx a τ).2 = awS τ s p := by
  have R := I.rg
  have dg : ∀ j, j < dL tx a → dD tx a (j + 1) < 10 ∧ (dHi (dIx (tx a)) j = 55 → dD tx a (j + 1) < 8) := fun j hj => by
    obtain ⟨q1, q2, q3, q4⟩ := dD_r K hj
    have hh := dHi_57 (dIx (tx a)) j
    exact ⟨by omega, fun z => by omega⟩
  unfold dAct at z ⊢
  by_cases c1 : tx a = 97
  · rw [if_pos c1] at z ⊢
    exact Or.inl (if_neg (fun y => z (Nat.lt_trans y (by decide))))
  · rw [if_neg c1] at z ⊢
    by_cases c2 : tx a = 101
    · rw [if_pos c2] at z ⊢
      generalize dD tx a 1 = s at *
      have z' : ¬ edN τ s < 2147483648 := z
      have el := end_le τ s
      show edS τ s = τ ∨ _
      unfold edN at z'
      unfold edS
      by_cases y : hs τ s = true
      · rw [if_pos y] at z'
        omega
      · exact Or.inl (if_neg y)
    · rw [if_neg c2] at z ⊢
      by_cases c3 : tx a = 102
      · rw [if_pos c3] at z ⊢
        exact Or.inl (if_neg (fun y => z (Nat.lt_trans y (by decide))))
      · rw [if_neg c3] at z ⊢
        by_cases c4 : tx a = 114
        · have hl : dL tx a = 2 := by show dLn (dIx (tx a)) = 2; rw [c4]; rfl
          have l2 : dD tx a 2 < 8 := (dg 1 (by omega)).2 (by rw [c4]; rfl)
          rw [if_pos c4] at z ⊢
          clear dg
          generalize dD tx a 1 = s at *
          generalize dD tx a 2 = p at *
          have z' : ¬ rdN τ s p < 2147483648 := z
          show rdS τ s p = τ ∨ ∃ s' p', hs τ s' = true ∧ p' < 8 ∧ rdS τ s p = awS τ s' p'
          unfold rdN at z'
          unfold rdS
          by_cases y : pk τ s p < 2147483648
          · rw [if_pos y]
            by_cases y2 : pgi τ s p = true ∧ tot τ 8 < 64
            · rw [if_neg (fun x => x.2.2 y2.2)] at z'
              exact absurd y z'
            · exact Or.inl (if_neg y2)
          · rw [if_neg y]
            by_cases y2 : pk τ s p = 4294967293
            · rw [if_pos y2]
              refine Or.inr ⟨s, p, Classical.byContradiction fun x => ?_, l2, rfl⟩
              rw [pk_bad (p := p) (fun u => x u.1)] at y2
              exact absurd y2 (by decide)
            · exact Or.inl (if_neg y2)
        · rw [if_neg c4] at z ⊢
          by_cases c5 : tx a = 116
          · rw [if_pos c5] at z ⊢
            generalize dD tx a 1 = s at *
            have z' : ¬ tiN τ s < 2147483648 := z
            have el := tid_le τ s
            show tiS τ s = τ ∨ _
            unfold tiN at z'
            unfold tiS
            by_cases y : hs τ s = true
            · rw [if_pos y] at z'
              omega
            · exact Or.inl (if_neg y)
          · rw [if_neg c5] at z ⊢
            generalize dD tx a 1 = s at *
            generalize dD tx a 2 = p at *
            generalize 10 * dD tx a 3 + dD tx a 4 = v at *
            unfold wrA at z ⊢
            by_cases y : v < 100 ∧ hs τ s = true ∧ p < 8
            · rw [if_pos y] at z ⊢
              by_cases y1 : wrN τ s p = 0
              · rw [if_pos y1] at z
                have dl := dep_le (σ := wrS C τ s p v) 24 (tp (wrS C τ s p v) s)
                have z' : ¬ dep (wrS C τ s p v) 24 (tp (wrS C τ s p v) s) < 2147483648 := z
                omega
              · rw [if_neg y1]
                by_cases y2 : wrN τ s p = 4294967293
                · rw [if_pos y2]
                  exact Or.inr ⟨s, p, y.2.1, y.2.2, rfl⟩
                · rw [if_neg y2]
                  exact Or.inl rfl
            · rw [if_neg y]
              exact Or.inl rfl
theorem dRun_0 {C : List Nat} {tx : Nat → Nat} {n : Nat} {τ : ST} {a : Nat} (I : INV τ) : ∀ N, dOk tx n N a → (dRun C tx N a τ 0).2.1 = 0 → (dRun C tx N a τ 0).1 = τ ∨ ∃ s p, hs τ s = true ∧ p < 8 ∧ (dRun C tx N a τ 0).1 = awS τ s p
  | 0, _, _ => Or.inl rfl
  | N + 1, K, e => by
    unfold dRun at e ⊢
    by_cases z : (dAct C tx a τ).1 < 2147483648
    · rw [if_pos z] at e
      have := (dRun_s (C := C) (tx := tx) N (a + 1 + dL tx a) (dAct C tx a τ).2 (0 + 1)).1
      omega
    · rw [if_neg z]
      exact dAct_no I K.1 z
theorem as_eq {a b : Nat → Int32} {σ : ST} (Sa : AS a σ) (Sb : AS b σ) {j : Nat} (hj : j < 325) : a j = b j := by
  obtain ⟨s1, s2, s3, s4, s5, s6, s7, s8, s9⟩ := Sa
  obtain ⟨t1, t2, t3, t4, t5, t6, t7, t8, t9⟩ := Sb
  by_cases y1 : j < 192
  · have e : j = 8 * (j / 8) + j % 8 := by omega
    rw [e, s1 _ _ (by omega) (by omega), t1 _ _ (by omega) (by omega)]
  · by_cases y2 : j < 216
    · have e : j = 192 + (j - 192) := by omega
      rw [e, s2 _ (by omega), t2 _ (by omega)]
    · by_cases y3 : j < 240
      · have e : j = 216 + (j - 216) := by omega
        rw [e, s3 _ (by omega), t3 _ (by omega)]
      · by_cases y4 : j < 264
        · have e : j = 240 + (j - 240) := by omega
          rw [e, s4 _ (by omega), t4 _ (by omega)]
        · by_cases y5 : j < 288
          · have e : j = 264 + (j - 264) := by omega
            rw [e, s5 _ (by omega), t5 _ (by omega)]
          · by_cases y6 : j < 312
            · have e : j = 288 + (j - 288) := by omega
              rw [e, s6 _ (by omega), t6 _ (by omega)]
            · by_cases y7 : j < 318
              · have e : j = 312 + (j - 312) := by omega
                rw [e, s7 _ (by omega), t7 _ (by omega)]
              · by_cases y8 : j < 324
                · have e : j = 318 + (j - 318) := by omega
                  rw [e, s8 _ (by omega), t8 _ (by omega)]
                · have e : j = 324 := by omega
                  rw [e, s9, t9]
theorem put_self (σ : ST) (f k : Nat) : put σ f k (σ f k) = σ := by
  funext f' k'
  unfold put
  split
  · rename_i z
    rw [z.1, z.2]
  · rfl
theorem day_cmp {a b : Nat → Int32} {w τ : ST} (I : INV w) (Sa : AS a τ) (Sb : AS b w) (H : τ = w ∨ ∃ s p, hs w s = true ∧ p < 8 ∧ τ = awS w s p) : (∃ j, 0 ≤ j ∧ j < 325 ∧ a j ≠ b j) ↔ tot w 7 < tot τ 7 := by
  have same : τ = w → ((∃ j, 0 ≤ j ∧ j < 325 ∧ a j ≠ b j) ↔ tot w 7 < tot τ 7) := fun e => by
    rw [e]
    rw [e] at Sa
    exact ⟨fun ⟨j, _, h1, h2⟩ => absurd (as_eq Sa Sb h1) h2, fun z => absurd z (Nat.lt_irrefl _)⟩
  rcases H with e | ⟨s, p, h0, hp, e⟩
  · exact same e
  · have R := I.rg
    have l1 := (ho_lt (las_ho R I.gr h0)).1
    have r7 := (R.2.2.1 _ l1).2.2.2.2.1
    by_cases tb : (w 7 (las w s)).testBit p = true
    · refine same ?_
      rw [e]
      unfold awS
      have : bset (w 7 (las w s)) p = w 7 (las w s) := by
        apply Nat.eq_of_testBit_eq
        intro i
        rw [bset_tb]
        by_cases y : i = p
        · rw [y, tb, Bool.true_or]
        · rw [decide_eq_false y, Bool.or_false]
      rw [this, put_self]
    · have e7 : τ 7 (las w s) = bset (w 7 (las w s)) p := by rw [e]; unfold awS; rw [put_eq]
      have bb := bset_lt (n := 8) r7 hp
      have c1 := bc_bset (n := w 7 (las w s)) (p := p) (by omega)
      rw [if_neg tb] at c1
      have gr : tot w 7 < tot τ 7 := by
        have := sm_put (f := fun o => bc (τ 7 o)) (g := fun o => bc (w 7 o)) (p := las w s) (fun i hi => by
          show bc (τ 7 i) = bc (w 7 i)
          rw [e]
          unfold awS
          simp [put, hi]) (n := 24) l1
        have h1 : tot τ 7 + bc (w 7 (las w s)) = tot w 7 + bc (τ 7 (las w s)) := this
        rw [e7] at h1
        omega
      refine ⟨fun _ => gr, fun _ => ⟨288 + las w s, Nat.zero_le _, by omega, fun y => ?_⟩⟩
      rw [Sa.2.2.2.2.2.1 _ l1, Sb.2.2.2.2.2.1 _ l1, e7, J_inj (by omega) (by omega)] at y
      rw [y] at c1
      omega
section DAM
variable {h g : AH} {mk : Nat} {tx : Nat → Nat} {len : Nat} {w : ST} {un : Nat} {us : Nat → ST} {kp : Nat → Bool} {ks : Nat → ST} {C : List Nat} {ρ : Nat → Nat} {rn : Nat} {row : List Int64} {hq : List (Nat × Nat)} {sq : List (Nat × Nat × Bool)}
theorem mi_rem2 {σ : ST} (W : MIv h tx len w un us kp ks ρ rn row hq sq) (R : RA h 154 σ) : ∃ g, fX11_remember h 145 154 = some g ∧ MIv g tx len w (uN un) (uS un us σ) kp ks ρ rn row hq sq ∧ On (fun k => k = 145 ∨ k = 153) h g := by
  obtain ⟨w1, w2, w3, w4, w5, w6, w7, w8, w9, w10⟩ := W
  obtain ⟨g, e, M, U, O⟩ := m_remember w1 w4 R ⟨by decide, by decide⟩
  exact ⟨g, e, ⟨M, w2.on O (by omega), w3.on O (by omega), U, w5.on O (by omega) (by omega), w6.on O (by omega), w7.on O (by omega), w8.on O (by omega) (by omega), w9.on O (by omega) (by omega) (by omega), w10.on O (fun k hk => by omega)⟩, O⟩
theorem mi_lay (W : MIv h tx len w un us kp ks ρ rn row hq sq) : ∃ g, fX11_lay h 146 154 0 = some g ∧ MIv g tx len w un us kp ks ρ rn row hq sq ∧ RA g 154 w ∧ On (fun k => k = 154) h g := by
  obtain ⟨w1, w2, w3, w4, w5, w6, w7, w8, w9, w10⟩ := W
  obtain ⟨a, ca, sa⟩ := w3
  obtain ⟨b, cb⟩ := w10.2.2.2.1
  obtain ⟨g, e, c, O'⟩ := m_lay (A := 146) (B := 154) (N := 325) (k := 0) (by decide) ca (by decide) (by decide) cb
  have O : On (fun k => k = 154) h g := O'.on1 rfl
  have w3 : RA h 146 w := ⟨a, ca, sa⟩
  refine ⟨g, e, ⟨w1.on O (by omega), w2.on O (by omega), w3.on O (by omega), w4.on O (by omega), w5.on O (by omega) (by omega), w6.on O (by omega), w7.on O (by omega), w8.on O (by omega) (by omega), w9.on O (by omega) (by omega) (by omega), w10.ot O' ⟨b, cb⟩ c⟩, ⟨_, c, sa.cg fun k hk => ?_⟩, O⟩
  rw [if_pos (by omega)]
  rfl
/-- the acts, one after another -/
theorem y_dyG {n kk : Nat} {f : Nat → Int32} (L : RLR C ρ rn) (t256 : ∀ i, i < n → tx i < 256) (hA : ∀ k', k' < kk → ARw tx (pos tx k') f k') (h30 : kk ≤ 30) : ∀ N k q h τ, MIv h tx 0 τ un us kp ks ρ rn row hq sq → INV τ → h.1 156 = some (.inl (0, 320, .inl f)) → k + N = kk → dOk tx n N (pos tx k) → N < q → ∃ h', (∀ (K : AH → Nat → Int32 → Int32 → Int32 → Option (Int32 × AH)) (v3 : Int32), fX11_day_L74 K q h 145 (J kk) (J k) v3 = K h' 145 (J kk) (J (dRun C tx N (pos tx k) τ k).2.1) v3) ∧ MIv h' tx 0 (dRun C tx N (pos tx k) τ k).1 un us kp ks ρ rn row hq sq ∧ On PA0 h h'
  | 0, k, q + 1, h, τ, W, I, c, e, K, _ => by
    refine ⟨h, fun K' v3 => ?_, W, On.rf⟩
    rw [fX11_day_L74, if_pos (by rw [J_le (by omega) (by omega)]; omega)]
    rfl
  | N + 1, k, q + 1, h, τ, W, I, c, e, K, hq' => by
    have l4 : (4 : Int32) * J k = J (4 * k) := by rw [show (4 : Int32) = J 4 from rfl, J_mul]
    have l1 : J k + 1 = J (k + 1) := by rw [l_1, J_add]
    obtain ⟨g1, e1, W1, O1⟩ := y_act W I L c K.1 (hA k (by omega)) (by omega) (t256 _ K.1.1)
    obtain ⟨i1, i2⟩ := inv_dAct (C := C) I K.1
    have er : dRun C tx (N + 1) (pos tx k) τ k = if (dAct C tx (pos tx k) τ).1 < 2147483648 then dRun C tx N (pos tx (k + 1)) (dAct C tx (pos tx k) τ).2 (k + 1) else ((dAct C tx (pos tx k) τ).2, k, true) := rfl
    by_cases z : (dAct C tx (pos tx k) τ).1 < 2147483648
    · rw [if_pos z] at er
      obtain ⟨g2, e2, W2, O2⟩ := y_dyG L t256 hA h30 N (k + 1) q g1 (dAct C tx (pos tx k) τ).2 W1 i1 ((O1.2 156 (by decide)).trans c) (by omega) K.2 (by omega)
      rw [er]
      refine ⟨g2, fun K' v3 => ?_, W2, O1.trans O2⟩
      rw [fX11_day_L74, if_neg (fun y => by rw [J_le (by omega) (by omega)] at y; omega), l4, e1, Option.bind_some]
      show (if decide ((dAct C tx (pos tx k) τ).1 < 2147483648) = true then letF (J k + 1 : Int32) fun x7 => fX11_day_L74 K' q g1 145 (J kk) x7 v3 else K' g1 145 (J kk) (J k) v3) = _
      rw [if_pos (decide_eq_true z)]
      simp only [letF, l1]
      exact e2 K' v3
    · rw [if_neg z] at er
      rw [er]
      refine ⟨g1, fun K' v3 => ?_, W1, O1⟩
      rw [fX11_day_L74, if_neg (fun y => by rw [J_le (by omega) (by omega)] at y; omega), l4, e1, Option.bind_some]
      show (if decide ((dAct C tx (pos tx k) τ).1 < 2147483648) = true then letF (J k + 1 : Int32) fun x7 => fX11_day_L74 K' q g1 145 (J kk) x7 v3 else K' g1 145 (J kk) (J k) v3) = _
      rw [if_neg (fun y => z (of_decide_eq_true y))]
/-- two rows compared -/
theorem y_cmpL (W : MO h 0 row.length un rn hq.length sq.length) {a b : Nat → Int32} (cA : h.1 146 = some (.inl (0, 325, .inl a))) (cB : h.1 154 = some (.inl (0, 325, .inl b))) {v1 v2 : Int32} : ∀ m q i (fl : Bool), i + m = 325 → m < q → ∃ fl' : Bool, (∀ K : AH → Nat → Int32 → Int32 → Int32 → Option (Int32 × AH), fX11_day_L98 K q h 145 v1 v2 (if fl = true then 1 else 0) (J i) = K h 145 v1 v2 (if fl' = true then 1 else 0)) ∧ (fl' = true ↔ fl = true ∨ ∃ j, i ≤ j ∧ j < 325 ∧ a j ≠ b j)
  | 0, q + 1, i, fl, e, _ => by
    refine ⟨fl, fun K => ?_, ⟨Or.inl, fun z => z.elim id (fun ⟨j, h1, h2, _⟩ => by omega)⟩⟩
    rw [fX11_day_L98, if_pos (by rw [show (325 : Int32) = J 325 from rfl, J_le (by decide) (by omega)]; omega)]
  | m + 1, q + 1, i, fl, e, hq' => by
    have l1 : J i + 1 = J (i + 1) := by rw [l_1, J_add]
    have r1 : aI h 0 146 (J i) = some (a i) := aI_at cA (by omega) (by decide)
    have r2 : aI h 0 154 (J i) = some (b i) := aI_at cB (by omega) (by decide)
    cases fl
    · by_cases z : a i = b i
      · obtain ⟨f1, e1, i1⟩ := y_cmpL W cA cB (v1 := v1) (v2 := v2) m q (i + 1) false (by omega) (by omega)
        refine ⟨f1, fun K => ?_, i1.trans ⟨fun y => y.imp id (fun ⟨j, h1, h2, h3⟩ => ⟨j, by omega, h2, h3⟩), fun y => y.imp id (fun ⟨j, h1, h2, h3⟩ => ⟨j, by
          by_cases u : j = i
          · rw [u] at h3; exact absurd z h3
          · omega, h2, h3⟩)⟩⟩
        rw [fX11_day_L98, if_neg (fun y => by rw [show (325 : Int32) = J 325 from rfl, J_le (by decide) (by omega)] at y; omega), if_pos (show (if false = true then (1 : Int32) else 0) = 0 from rfl), y_0 W, Option.bind_some, r1, Option.bind_some, y_19 W, Option.bind_some, r2, Option.bind_some, if_pos z]
        simp only [letF, l1]
        exact e1 K
      · obtain ⟨f1, e1, i1⟩ := y_cmpL W cA cB (v1 := v1) (v2 := v2) m q (i + 1) true (by omega) (by omega)
        refine ⟨f1, fun K => ?_, i1.trans ⟨fun y => Or.inr ⟨i, Nat.le_refl _, by omega, z⟩, fun y => Or.inl rfl⟩⟩
        rw [fX11_day_L98, if_neg (fun y => by rw [show (325 : Int32) = J 325 from rfl, J_le (by decide) (by omega)] at y; omega), if_pos (show (if false = true then (1 : Int32) else 0) = 0 from rfl), y_0 W, Option.bind_some, r1, Option.bind_some, y_19 W, Option.bind_some, r2, Option.bind_some, if_neg z]
        simp only [letF, l1]
        exact e1 K
    · obtain ⟨f1, e1, i1⟩ := y_cmpL W cA cB (v1 := v1) (v2 := v2) m q (i + 1) true (by omega) (by omega)
      refine ⟨f1, fun K => ?_, i1.trans ⟨fun y => Or.inl rfl, fun y => Or.inl rfl⟩⟩
      rw [fX11_day_L98, if_neg (fun y => by rw [show (325 : Int32) = J 325 from rfl, J_le (by decide) (by omega)] at y; omega), if_neg (by decide)]
      simp only [letF, l1]
      exact e1 K
theorem y_dayE (W : MIv h tx 0 w un us kp ks ρ rn row hq sq) (I : INV w) {t d : Nat} (ht : t < 100) (hd : d ≤ t) {b : Bool} (hb : b = true ↔ d < t) : ∃ g, fX11_day_J155 h 145 (J t) (J d) = some (J d, g) ∧ MIv g tx 0 w un us kp ks ρ rn [if b = true then 1 else 0, Int32.toInt64 (J (tot w 8))] hq sq ∧ On (fun k => k = 145 ∨ k = 148) h g := by
  obtain ⟨g4, e4, W4, O4⟩ := mi_clr W
  obtain ⟨g5, e5, W5, O5⟩ := mi_tell W4 (by simp) (if b = true then (1 : Int64) else 0)
  obtain ⟨g6, e6, W6, O6⟩ := mi_tell W5 (by simp) (Int32.toInt64 (J (tot w 8)))
  refine ⟨g6, ?_, W6, ((O4.mono (fun k hk => Or.inl hk)).trans O5).trans O6⟩
  have x1 := m_frames W5.2.2.1 I.rg
  unfold fX11_day_J155 fX11_day_J171
  rw [e4, Option.bind_some]
  by_cases z : d < t
  · rw [if_pos (hb.2 z)] at e5
    rw [if_neg (fun y => by rw [J_le (by omega) (by omega)] at y; omega), e5, Option.bind_some, y_0 W5.1, Option.bind_some, x1, Option.bind_some, e6, Option.bind_some]
  · rw [if_neg (fun y => z (hb.1 y))] at e5
    rw [if_pos (by rw [J_le (by omega) (by omega)]; omega), e5, Option.bind_some, y_0 W5.1, Option.bind_some, x1, Option.bind_some, e6, Option.bind_some]
theorem xm_day (W : MIv h tx len w un us kp ks ρ rn row hq sq) (I : INV w) (L : RLR C ρ rn) : ∃ h', fX11_day h 145 = some (J (dyA C tx len w), h') ∧ MIv h' tx 0 (dyW C tx len w) (kN (dyK C tx len w) un) (kS (dyK C tx len w) un us w) kp ks ρ rn (dyO C tx len w row) hq sq ∧ On PM0 h h' := by
  have big : BIG = 4294967295 := rfl
  obtain ⟨g0, e0, W0, -, O0⟩ := mi_t0 W
  obtain ⟨g1, F, e1, R1, F11, F23, mo, l80, t256, O1⟩ := mi_begin (top := 60) (by decide) W0
  have O01 : On (fun k => k = 145) h g1 := O0.trans O1
  obtain ⟨fA, cA⟩ := W.2.2.2.2.2.2.2.2.2.1
  obtain ⟨fB, cB⟩ := W.2.2.2.2.2.2.2.2.2.2.2.2.2.2.1
  have e1' : fX11_beginText g0 145 60 = some g1 := e1
  have cB1 : g1.1 156 = some (.inl (0, 320, .inl fB)) := (O01.2 156 (by decide)).trans cB
  obtain ⟨g2, f2, a2, w2, kk, e2, R2, c2, out, O2⟩ := dyR_L (tx := tx) (n := len) F23 t256 61 0 FU g1 fB 0 0 (Nat.le_add_left _ _) (FU_gt (by decide)) (Nat.zero_le _) ⟨R1, Or.inl ⟨rfl, Nat.zero_le _, Nat.zero_le 60, rfl⟩⟩ (Nat.zero_le _) cB1 (fun k' hk' => absurd hk' (Nat.not_lt_zero k'))
  have O02 : On (fun k => k = 145 ∨ k = 156) h g2 := (O01.mono (fun k hk => Or.inl hk)).trans O2
  -- the world, once the text is read
  have fin : ∀ (gB : AH) (a b : Nat), On (fun k => k = 145) g2 gB → RS gB 145 F 147 tx len 60 a b → MIv gB tx 0 w un us kp ks ρ rn row hq sq ∧ gB.1 156 = some (.inl (0, 320, .inl f2)) ∧ On PM0 h gB := by
    intro gB a b OB RB
    have OB' : On (fun k => k = 145 ∨ k = 156) h gB := O02.trans (OB.mono (fun k hk => Or.inl hk))
    have c : gB.1 156 = some (.inl (0, 320, .inl f2)) := (OB.2 156 (by decide)).trans c2
    exact ⟨W.prd (OB'.mono (fun k hk => by omega)) (mo RB) ⟨fA, (OB'.2 149 (by decide)).trans cA⟩ ⟨f2, c⟩, c, mon OB' (fun k hk => by omega)⟩
  unfold fX11_day
  rw [if_pos (y_h W.1), e0, Option.bind_some, e1', Option.bind_some]
  have start : ∀ x, fX11_day_J44 g2 145 (J kk) = x → fX11_day_L13 (fun h49 x47 x48 => fX11_day_J44 h49 x47 x48) FU g1 145 0 = x := fun x hx => (e2 _).trans hx
  rcases out with ⟨rfl, ha, hp, hk, hB, hA⟩ | ⟨hw, ha, es⟩
  · obtain ⟨gB, dB, RB, OB⟩ := m_wasRight R2 (by omega) (Or.inl rfl)
    rw [decide_eq_true (show BIG = BIG ∧ a2 = len from ⟨rfl, ha⟩)] at dB
    obtain ⟨WB, cBB, OBh⟩ := fin gB _ _ OB RB
    obtain ⟨n60, K⟩ := dyR_ok hB
    have eN : dyN tx len 100 0 = kk := by
      have := pos_ok (dyN tx len 100 0) 0 K
      rw [Nat.zero_add] at this
      exact pos_inj (this.trans hp.symm)
    obtain ⟨g3, e3, W3, R154, O3⟩ := mi_lay WB
    rw [eN] at K
    obtain ⟨g4, e4, W4, O4⟩ := y_dyG (C := C) (n := len) L t256 hA (by omega) kk 0 FU g3 w W3 I ((O3.2 156 (by decide)).trans cBB) (Nat.zero_add _) K (FU_gt (by omega))
    have eR : dyR C tx len w = dRun C tx kk (pos tx 0) w 0 := by unfold dyR; rw [eN]; rfl
    have e4' : ∀ (K : AH → Nat → Int32 → Int32 → Int32 → Option (Int32 × AH)), fX11_day_L74 K FU g3 145 (J kk) 0 0 = K g4 145 (J kk) (J (dyR C tx len w).2.1) 0 := fun K => by rw [eR]; exact e4 K 0
    rw [← eR] at W4
    obtain ⟨s1, s2, s3⟩ := dRun_s (C := C) (tx := tx) kk (pos tx 0) w 0
    rw [← eR] at s2 s3
    have iR : INV (dyR C tx len w).1 := by rw [eR]; exact (dRun_i kk (pos tx 0) w 0 K I).1
    have d0 : (dyR C tx len w).2.1 = 0 → (dyR C tx len w).1 = w ∨ ∃ s p, hs w s = true ∧ p < 8 ∧ (dyR C tx len w).1 = awS w s p := by
      rw [eR]
      exact dRun_0 I kk K
    rw [Nat.zero_add] at s2 s3
    have R154' : RA g4 154 w := R154.on O4 (by decide)
    obtain ⟨a, ca, sa⟩ := W4.2.2.1
    obtain ⟨b, cb, sb⟩ := R154'
    obtain ⟨fl, e5, i5⟩ := y_cmpL W4.1 ca cb (v1 := J kk) (v2 := J (dyR C tx len w).2.1) 325 FU 0 false rfl (FU_gt (by decide))
    have e5' : ∀ K : AH → Nat → Int32 → Int32 → Int32 → Option (Int32 × AH), fX11_day_L98 K FU g4 145 (J kk) (J (dyR C tx len w).2.1) 0 0 = K g4 145 (J kk) (J (dyR C tx len w).2.1) (if fl = true then 1 else 0) := fun K => e5 K
    have hfl : (dyR C tx len w).2.1 = 0 → (fl = true ↔ tot w 7 < tot (dyR C tx len w).1 7) := fun z => i5.trans ⟨fun y => (day_cmp I sa sb (d0 z)).1 (y.resolve_left (by decide)), fun y => Or.inr ((day_cmp I sa sb (d0 z)).2 y)⟩
    have R154' : RA g4 154 w := ⟨b, cb, sb⟩
    have eO : dyO C tx len w row = [if (dyR C tx len w).2.2 = true then (1 : Int64) else 0, Int32.toInt64 (J (tot (dyR C tx len w).1 8))] := by unfold dyO; rw [if_pos hB]
    have eW : dyW C tx len w = (dyR C tx len w).1 := by unfold dyW; rw [if_pos hB]
    have eA : dyA C tx len w = (dyR C tx len w).2.1 := by unfold dyA; rw [if_pos hB]
    have O04 : On PM0 h g4 := (OBh.trans (mon O3 (fun k hk => by omega))).trans (mon O4 (fun k hk => by have : k = 145 ∨ k = 146 ∨ k = 152 := hk; omega))
    have ekv : dyK C tx len w = decide (dyF tx len = BIG ∧ (0 < (dyR C tx len w).2.1 ∨ tot w 7 < tot (dyR C tx len w).1 7)) := rfl
    rw [eO, eW, eA]
    have head : ∀ x, (if 0 < J (dyR C tx len w).2.1 then fX11_day_J147 (fun h39 x36 x37 x38 => fX11_day_J155 h39 x36 x37 x38) g4 145 (J kk) (J (dyR C tx len w).2.1) else if (if fl = true then (1 : Int32) else 0) = 0 then fX11_day_J155 g4 145 (J kk) (J (dyR C tx len w).2.1) else fX11_day_J147 (fun h43 x40 x41 x42 => fX11_day_J155 h43 x40 x41 x42) g4 145 (J kk) (J (dyR C tx len w).2.1)) = x → fX11_day_L13 (fun h49 x47 x48 => fX11_day_J44 h49 x47 x48) FU g1 145 0 = x := by
      intro x hx
      refine start _ ?_
      unfold fX11_day_J44
      rw [dB, Option.bind_some, if_pos rfl, y_0 WB.1, Option.bind_some, y_19 WB.1, Option.bind_some, e3, Option.bind_some]
      exact (e4' _).trans ((e5' _).trans hx)
    have done : (0 < (dyR C tx len w).2.1 ∨ tot w 7 < tot (dyR C tx len w).1 7) → ∃ g, fX11_day_J147 (fun h39 x36 x37 x38 => fX11_day_J155 h39 x36 x37 x38) g4 145 (J kk) (J (dyR C tx len w).2.1) = some (J (dyR C tx len w).2.1, g) ∧ MIv g tx 0 (dyR C tx len w).1 (kN (dyK C tx len w) un) (kS (dyK C tx len w) un us w) kp ks ρ rn [if (dyR C tx len w).2.2 = true then (1 : Int64) else 0, Int32.toInt64 (J (tot (dyR C tx len w).1 8))] hq sq ∧ On PM0 h g := by
      intro z
      obtain ⟨g5, r5, W5, O5⟩ := mi_rem2 W4 R154'
      obtain ⟨g6, r6, W6, O6⟩ := y_dayE W5 iR (t := kk) (d := (dyR C tx len w).2.1) (by omega) s2 s3
      have ek : dyK C tx len w = true := by rw [ekv]; exact decide_eq_true ⟨hB, z⟩
      rw [ek]
      refine ⟨g6, ?_, W6, (O04.trans (mon O5 (fun k hk => by omega))).trans (mon O6 (fun k hk => by omega))⟩
      unfold fX11_day_J147
      rw [y_19 W4.1, Option.bind_some, r5, Option.bind_some]
      exact r6
    by_cases z : 0 < (dyR C tx len w).2.1
    · obtain ⟨g6, r6, W6, O6⟩ := done (Or.inl z)
      refine ⟨g6, head _ ?_, W6, O6⟩
      rw [if_pos (by rw [l_0, J_lt (by decide) (by omega)]; omega)]
      exact r6
    · have z0 : ¬ (0 : Int32) < J (dyR C tx len w).2.1 := fun y => by rw [l_0, J_lt (by decide) (by omega)] at y; omega
      by_cases y : fl = true
      · obtain ⟨g6, r6, W6, O6⟩ := done (Or.inr ((hfl (by omega)).1 y))
        refine ⟨g6, head _ ?_, W6, O6⟩
        rw [if_neg z0, if_neg (by rw [if_pos y]; decide)]
        exact r6
      · have ek : dyK C tx len w = false := by rw [ekv]; exact decide_eq_false (fun u => u.2.elim z (fun v => y ((hfl (by omega)).2 v)))
        obtain ⟨g6, r6, W6, O6⟩ := y_dayE W4 iR (t := kk) (d := (dyR C tx len w).2.1) (by omega) s2 s3
        rw [ek]
        refine ⟨g6, head _ ?_, W6, O04.trans (mon O6 (fun k hk => by omega))⟩
        rw [if_neg z0, if_pos (by rw [if_neg y])]
        exact r6
  · have hB : ¬ dyF tx len = BIG := by rw [es]; exact Nat.ne_of_lt hw
    have hl : dyF tx len ≤ 60 := (dyP_r tx len 61 0 0 0 rfl).resolve_left hB
    obtain ⟨WB, cBB, OBh⟩ := fin g2 _ _ On.rf R2
    have dB := m_wasR_f R2 hw (by omega)
    have ek : dyK C tx len w = false := decide_eq_false (fun x => hB x.1)
    have eO : dyO C tx len w row = row := by unfold dyO; rw [if_neg hB]
    have eW : dyW C tx len w = w := by unfold dyW; rw [if_neg hB]
    have eA : dyA C tx len w = 4294967295 - dyF tx len := by unfold dyA; rw [if_neg hB]
    rw [ek, eO, eW, eA]
    refine ⟨g2, start _ ?_, WB, OBh⟩
    unfold fX11_day_J44
    rw [dB, Option.bind_some, if_neg (show ¬ false = true by decide), rs_10 R2, Option.bind_some, m1_J, ← es, J_sub (by omega)]
end DAM
