/-! the deepest space -/
def dq (w : ST) (s : Nat) : Nat := dep w 24 (tp w s)
def dpB (w : ST) : Nat → Nat × Nat × Nat
  | 0 => (6, 0, 0)
  | k + 1 => if (dpB w k).2.1 < dq w k then (k, dq w k, 1) else if dq w k = (dpB w k).2.1 then ((dpB w k).1, (dpB w k).2.1, (dpB w k).2.2 + 1) else dpB w k
theorem dp_inv (w : ST) : ∀ k, k ≤ 6 → (dpB w k).2.1 ≤ 24 ∧ (dpB w k).2.2 ≤ k ∧ ((dpB w k).1 = 6 ∧ (dpB w k).2.1 = 0 ∨ (dpB w k).1 < k ∧ 0 < (dpB w k).2.1 ∧ (dpB w k).2.1 = dq w (dpB w k).1)
  | 0, _ => ⟨Nat.zero_le _, Nat.le_refl _, Or.inl ⟨rfl, rfl⟩⟩
  | k + 1, hk => by
    obtain ⟨i1, i2, i3⟩ := dp_inv w k (by omega)
    have d := dep_le (σ := w) 24 (tp w k)
    have dd : dq w k ≤ 24 := d
    unfold dpB
    by_cases h1 : (dpB w k).2.1 < dq w k
    · rw [if_pos h1]
      exact ⟨dd, by show 1 ≤ k + 1; omega, Or.inr ⟨by show k < k + 1; omega, by show 0 < dq w k; omega, rfl⟩⟩
    · rw [if_neg h1]
      by_cases h2 : dq w k = (dpB w k).2.1
      · rw [if_pos h2]
        refine ⟨i1, by show (dpB w k).2.2 + 1 ≤ k + 1; omega, ?_⟩
        show (dpB w k).1 = 6 ∧ (dpB w k).2.1 = 0 ∨ (dpB w k).1 < k + 1 ∧ 0 < (dpB w k).2.1 ∧ (dpB w k).2.1 = dq w (dpB w k).1
        rcases i3 with i3 | i3
        · exact Or.inl i3
        · exact Or.inr ⟨by omega, i3.2⟩
      · rw [if_neg h2]
        refine ⟨i1, by omega, ?_⟩
        rcases i3 with i3 | i3
        · exact Or.inl i3
        · exact Or.inr ⟨by omega, i3.2⟩
def n2 (b : Nat) : Nat := if b = 6 then 4294967294 else b
def dpR (w : ST) (row : List Int64) : List Int64 := if (dpB w 6).1 = 6 then row else [Int32.toInt64 (J (dpB w 6).2.1), Int32.toInt64 (J (dpB w 6).2.2)]
theorem dq_hs {w : ST} {s : Nat} (R : RG w) (hs6 : s < 6) : hs w s = true ∨ dq w s = 0 := by
  by_cases z : hs w s = true
  · exact Or.inl z
  · right
    have : tp w s = 24 := by
      unfold tp
      rw [if_pos hs6]
      have := R.1 s hs6
      by_cases z2 : w 0 s < 24
      · exact absurd (by unfold hs; rw [decide_eq_true hs6, decide_eq_true z2]; rfl) z
      · omega
    unfold dq
    rw [this, dep_24]
theorem dq_pos {w : ST} {s : Nat} (R : RG w) (G : GR w) (h : hs w s = true) : 0 < dq w s := dep_pos (hs_tp h R G).2.2
section CI
variable {h g : AH} {mk : Nat} {tx : Nat → Nat} {len : Nat} {w : ST} {un : Nat} {us : Nat → ST} {kp : Nat → Bool} {ks : Nat → ST} {C : List Nat} {ρ : Nat → Nat} {rn : Nat} {row : List Int64} {hq : List (Nat × Nat)} {sq : List (Nat × Nat × Bool)}
theorem c_deepL (W : CIk h mk tx len w un us kp ks C row hq sq) (I : INV w) (K : AH → Nat → Int32 → Int32 → Int32 → Option (Int32 × AH)) : ∀ m n k, k + m = 6 → m < n → fX10_deepest_L10 K n h 0 (J (n2 (dpB w k).1)) (J (dpB w k).2.1) (J (dpB w k).2.2) (J k) = K h 0 (J (n2 (dpB w 6).1)) (J (dpB w 6).2.1) (J (dpB w 6).2.2)
  | 0, n + 1, k, e, _ => by
    have : k = 6 := by omega
    subst this
    rw [fX10_deepest_L10]
    simp (disch := omega) only [l_6, J_le]
    rw [if_pos (by omega)]
  | m + 1, n + 1, k, e, hn => by
    obtain ⟨i1, i2, i3⟩ := dp_inv w k (by omega)
    have dd : dq w k ≤ 24 := dep_le (σ := w) 24 (tp w k)
    have ih := c_deepL W I K m n (k + 1) (by omega) (by omega)
    have ec : fX9_chainLength h 2 (J k) = some (J (dq w k)) := c_chain W.2.2.1 I.rg (by omega)
    have e1 : J k + 1 = J (k + 1) := by rw [l_1, J_add]
    have a0 : ∀ x : Nat, J x + 0 = J x := fun x => by rw [l_0, J_add, Nat.add_zero]
    have a1 : ∀ x : Nat, J x + 1 = J (x + 1) := fun x => by rw [l_1, J_add]
    rw [fX10_deepest_L10]
    simp (disch := omega) only [l_6, J_le, x_2 W.1, Option.bind_some, ec]
    rw [if_neg (by omega)]
    unfold fX10_deepest_J42 fX10_deepest_J54
    simp (disch := omega) only [J_inj, letF, e1, a0]
    by_cases h1 : (dpB w k).2.1 < dq w k
    · have es : dpB w (k + 1) = (k, dq w k, 1) := by
        conv => lhs; unfold dpB
        rw [if_pos h1]
      rw [es] at ih
      have en : n2 k = k := by unfold n2; rw [if_neg (by omega)]
      rw [if_neg (by omega), if_pos trivial]
      have e01 : (0 : Int32) + 1 = J 1 := rfl
      rw [e01]
      simp only [en] at ih
      exact ih
    · rw [if_pos (by omega)]
      by_cases h2 : dq w k = (dpB w k).2.1
      · have es : dpB w (k + 1) = ((dpB w k).1, (dpB w k).2.1, (dpB w k).2.2 + 1) := by
          conv => lhs; unfold dpB
          rw [if_neg h1, if_pos h2]
        rw [es] at ih
        rw [if_pos h2, a1]
        exact ih
      · have es : dpB w (k + 1) = dpB w k := by
          conv => lhs; unfold dpB
          rw [if_neg h1, if_neg h2]
        rw [es] at ih
        rw [if_neg h2]
        exact ih
theorem xc_deepest (W : CIk h mk tx len w un us kp ks C row hq sq) (I : INV w) : ∃ h' mk', fX10_deepest h 0 = some (J (n2 (dpB w 6).1), h') ∧ CIk h' mk' tx len w un us kp ks C (dpR w row) hq sq ∧ On PC0 h h' := by
  obtain ⟨i1, i2, i3⟩ := dp_inv w 6 (by omega)
  have e := fun K => c_deepL W I K 6 FU 0 rfl (FU_gt (by decide))
  have n20 : (-2 : Int32) = J (n2 (dpB w 0).1) := rfl
  have z0 : (0 : Int32) = J (dpB w 0).2.1 := rfl
  have e' : ∀ K : AH → Nat → Int32 → Int32 → Int32 → Option (Int32 × AH), fX10_deepest_L10 K FU h 0 (-2) 0 0 0 = K h 0 (J (n2 (dpB w 6).1)) (J (dpB w 6).2.1) (J (dpB w 6).2.2) := fun K => e K
  unfold fX10_deepest dpR
  rw [if_pos (x_h W.1), e']
  by_cases z : (dpB w 6).1 = 6
  · have en : n2 (dpB w 6).1 = 4294967294 := by unfold n2; rw [if_pos z]
    rw [if_pos z, en, if_pos ((J_neg0 (by decide)).2 (by decide))]
    exact ⟨h, mk, rfl, W, On.rf⟩
  · have en : n2 (dpB w 6).1 = (dpB w 6).1 := by unfold n2; rw [if_neg z]
    rw [if_neg z, en, if_neg (fun y => by have := (J_neg0 (show (dpB w 6).1 < 4294967296 by omega)).1 y; omega)]
    obtain ⟨g1, e1, W1, O1⟩ := ci_clr W
    obtain ⟨g2, e2, W2, O2⟩ := ci_add W1 (by simp) (Int32.toInt64 (J (dpB w 6).2.1))
    obtain ⟨g3, e3, W3, O3⟩ := ci_add W2 (by simp) (Int32.toInt64 (J (dpB w 6).2.2))
    refine ⟨g3, mk, ?_, W3, ((lon O1 (fun k hk => by omega)).trans (lon O2 (fun k hk => by omega))).trans (lon O3 (fun k hk => by omega))⟩
    simp only [x_8 W.1, Option.bind_some, e1, x_8 W1.1, e2, x_8 W2.1, e3]
def dpC (w : ST) (k : Nat) : Nat := if (dpB w k).1 = 6 then 0 else (dpB w k).2.2
theorem y_deepL (W : MIv h tx len w un us kp ks ρ rn row hq sq) (I : INV w) (K : AH → Nat → Int32 → Int32 → Option (Int32 × AH)) : ∀ m n k, k + m = 6 → m < n → fX11_deepest_L11 K n h 145 (J (n6 (dpB w k).1)) (J (dpC w k)) (J k) = K h 145 (J (n6 (dpB w 6).1)) (J (dpC w 6))
  | 0, n + 1, k, e, _ => by
    have : k = 6 := by omega
    subst this
    rw [fX11_deepest_L11]
    simp (disch := omega) only [l_6, J_le]
    rw [if_pos (by omega)]
  | m + 1, n + 1, k, e, hn => by
    obtain ⟨i1, i2, i3⟩ := dp_inv w k (by omega)
    have R := I.rg
    have G := I.gr
    have dd : dq w k ≤ 24 := dep_le (σ := w) 24 (tp w k)
    have ih := y_deepL W I K m n (k + 1) (by omega) (by omega)
    have ec : ∀ s, s < 6 → fX11_lengthOf h 146 (J s) = some (J (dq w s)) := fun s hs6 => m_len W.2.2.1 R G hs6
    have e1 : J k + 1 = J (k + 1) := by rw [l_1, J_add]
    have a1 : ∀ x : Nat, J x + 1 = J (x + 1) := fun x => by rw [l_1, J_add]
    have nb : n6 (dpB w k).1 < 4294967296 := by unfold n6; split <;> omega
    have kb : n6 k = k := by unfold n6; rw [if_neg (by omega)]
    have nm : n6 (dpB w k).1 = 4294967295 ↔ (dpB w k).1 = 6 := by unfold n6; split <;> omega
    rw [fX11_deepest_L11]
    simp (disch := omega) only [l_6, J_le, y_0 W.1, Option.bind_some, m_hs W.2.2.1 R, m1_J, J_inj, nm]
    rw [if_neg (by omega)]
    unfold fX11_deepest_J57 fX11_deepest_J69
    simp only [letF, e1]
    rcases dq_hs R (show k < 6 by omega) with hh | hh
    · have dp := dq_pos R G hh
      rw [if_pos hh]
      by_cases h6 : (dpB w k).1 = 6
      · have d0 : (dpB w k).2.1 = 0 := by omega
        have es : dpB w (k + 1) = (k, dq w k, 1) := by
          conv => lhs; unfold dpB
          rw [if_pos (by omega)]
        have ek : dpC w (k + 1) = 1 := by unfold dpC; rw [es, if_neg (show ¬ k = 6 by omega)]
        rw [ek, es] at ih
        simp only [kb] at ih
        rw [if_pos h6, if_neg (by decide), if_neg (by decide)]
        exact ih
      · have d0 : 0 < (dpB w k).2.1 ∧ (dpB w k).2.1 = dq w (dpB w k).1 := by omega
        have bl : (dpB w k).1 < 6 := by omega
        have en : n6 (dpB w k).1 = (dpB w k).1 := by unfold n6; rw [if_neg h6]
        have ck : dpC w k = (dpB w k).2.2 := by unfold dpC; rw [if_neg h6]
        rw [if_neg h6, ec k (by omega), Option.bind_some, en, ec _ bl, Option.bind_some, ← d0.2, ck]
        by_cases h1 : (dpB w k).2.1 < dq w k
        · have es : dpB w (k + 1) = (k, dq w k, 1) := by
            conv => lhs; unfold dpB
            rw [if_pos h1]
          have ek : dpC w (k + 1) = 1 := by unfold dpC; rw [es, if_neg (show ¬ k = 6 by omega)]
          rw [ek, es] at ih
          simp only [kb] at ih
          have np : ¬ J (dq w k - (dpB w k).2.1) ≤ 0 := fun z => by rw [l_0, J_le (by omega) (by decide)] at z; omega
          rw [J_sub (by omega), if_neg np, if_neg np]
          exact ih
        · by_cases h2 : dq w k = (dpB w k).2.1
          · have es : dpB w (k + 1) = ((dpB w k).1, (dpB w k).2.1, (dpB w k).2.2 + 1) := by
              conv => lhs; unfold dpB
              rw [if_neg h1, if_pos h2]
            have ek : dpC w (k + 1) = (dpB w k).2.2 + 1 := by unfold dpC; rw [es, if_neg h6]
            rw [ek, es] at ih
            simp only [en] at ih
            have z0 : J (dq w k) - J (dpB w k).2.1 = 0 := by rw [h2, J_sub (Nat.le_refl _), Nat.sub_self]; rfl
            rw [z0, if_pos (by decide), if_pos (by decide), if_pos rfl, a1]
            exact ih
          · have es : dpB w (k + 1) = dpB w k := by
              conv => lhs; unfold dpB
              rw [if_neg h1, if_neg h2]
            have ek : dpC w (k + 1) = (dpB w k).2.2 := by unfold dpC; rw [es, if_neg h6]
            rw [ek, es] at ih
            rw [en] at ih
            have ng : J (dq w k) - J (dpB w k).2.1 = J (4294967296 + dq w k - (dpB w k).2.1) := by
              have : J (dq w k) = J (4294967296 + dq w k) := by
                rw [← J_mod (4294967296 + dq w k), ← J_mod (dq w k)]
                congr 1
                omega
              rw [this, J_sub (by omega)]
            have n1 : J (4294967296 + dq w k - (dpB w k).2.1) ≤ 0 := Int32.le_of_lt ((J_neg0 (by omega)).2 (by omega))
            have n2' : ¬ J (4294967296 + dq w k - (dpB w k).2.1) = 0 := fun z => by rw [l_0, J_inj (by omega) (by decide)] at z; omega
            rw [ng, if_pos n1, if_pos n1, if_neg n2']
            exact ih
    · have hn0 : ¬ hs w k = true := fun z => by have := dq_pos R G z; omega
      have ed : (dpB w (k + 1)).1 = (dpB w k).1 ∧ dpC w (k + 1) = dpC w k := by
        have e0 : ¬ (dpB w k).2.1 < dq w k := by omega
        unfold dpC
        conv in (occs := *) dpB w (k + 1) => all_goals unfold dpB
        rw [if_neg e0]
        by_cases h2 : dq w k = (dpB w k).2.1
        · have h6 : (dpB w k).1 = 6 := by omega
          rw [if_pos h2]
          exact ⟨rfl, by rw [if_pos h6]; exact (if_pos h6).symm⟩
        · rw [if_neg h2]
          exact ⟨rfl, rfl⟩
      rw [if_neg hn0]
      rw [ed.1, ed.2] at ih
      exact ih
theorem xm_deepest (W : MIv h tx len w un us kp ks ρ rn row hq sq) (I : INV w) : ∃ h', fX11_deepest h 145 = some (J (n2 (dpB w 6).1), h') ∧ MIv h' tx len w un us kp ks ρ rn (dpR w row) hq sq ∧ On PM0 h h' := by
  obtain ⟨i1, i2, i3⟩ := dp_inv w 6 (by omega)
  obtain ⟨g0, e0, W0, -, O0⟩ := mi_t0 W
  have O0' : On PM0 h g0 := mon O0 (fun k hk => by omega)
  have e := fun K => y_deepL W0 I K 6 FU 0 rfl (FU_gt (by decide))
  have n60 : (-1 : Int32) = J (n6 (dpB w 0).1) := rfl
  have e' : ∀ K : AH → Nat → Int32 → Int32 → Option (Int32 × AH), fX11_deepest_L11 K FU g0 145 (-1) 0 0 = K g0 145 (J (n6 (dpB w 6).1)) (J (dpC w 6)) := fun K => e K
  unfold fX11_deepest dpR
  rw [if_pos (y_h W.1), e0, Option.bind_some, e']
  by_cases z : (dpB w 6).1 = 6
  · have en : n2 (dpB w 6).1 = 4294967294 := by unfold n2; rw [if_pos z]
    have en6 : n6 (dpB w 6).1 = 4294967295 := by unfold n6; rw [if_pos z]
    rw [if_pos z, en, en6, if_pos (show J 4294967295 = -1 from rfl)]
    exact ⟨g0, rfl, W0, O0'⟩
  · have en : n2 (dpB w 6).1 = (dpB w 6).1 := by unfold n2; rw [if_neg z]
    have en6 : n6 (dpB w 6).1 = (dpB w 6).1 := by unfold n6; rw [if_neg z]
    have bl : (dpB w 6).1 < 6 := by omega
    have ck : dpC w 6 = (dpB w 6).2.2 := by unfold dpC; rw [if_neg z]
    rw [if_neg z, en, en6, ck, if_neg (fun y => by rw [m1_J, J_inj (by omega) (by decide)] at y; omega)]
    obtain ⟨g1, e1, W1, O1⟩ := mi_clr W0
    obtain ⟨g2, e2, W2, O2⟩ := mi_tell W1 (by simp) (Int32.toInt64 (J (dpB w 6).2.1))
    obtain ⟨g3, e3, W3, O3⟩ := mi_tell W2 (by simp) (Int32.toInt64 (J (dpB w 6).2.2))
    have el : fX11_lengthOf g1 146 (J (dpB w 6).1) = some (J (dpB w 6).2.1) := by
      rw [m_len W1.2.2.1 I.rg I.gr bl]
      have : (dpB w 6).2.1 = dq w (dpB w 6).1 := by omega
      rw [this]
      rfl
    refine ⟨g3, ?_, W3, ((O0'.trans (mon O1 (fun k hk => by omega))).trans (mon O2 (fun k hk => by omega))).trans (mon O3 (fun k hk => by omega))⟩
    rw [e1, Option.bind_some, y_0 W1.1, Option.bind_some, el, Option.bind_some, e2, Option.bind_some, e3, Option.bind_some]
end CI
