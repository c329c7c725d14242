/-! the object where two chains meet -/
def cmF (σ : ST) (b : Nat) : Nat → Nat → Nat → Option (Nat × Nat)
  | 0, _, _ => none
  | m + 1, o, i => if plc σ o 24 (tp σ b) < dep σ 24 (tp σ b) then some (o, i) else cmF σ b m (σ 4 o) (i + 1)
def cmK {α : Type} (r : Option (Nat × Nat)) (N : α) (S : Nat → Nat → α) : α := match r with
  | none => N
  | some q => S q.1 q.2
def cmV (w : ST) (a b : Nat) : Option (Nat × Nat) := cmF w b (dep w 24 (tp w a)) (tp w a) 0
def cmA (w : ST) (a b : Nat) : Nat := if a2B w a b = true then cmK (cmV w a b) 4294967294 (fun o _ => o) else 4294967295
def cmR (w : ST) (a b : Nat) (row : List Int64) : List Int64 := if a2B w a b = true then cmK (cmV w a b) row (fun o i => [Int32.toInt64 (J i), Int32.toInt64 (J (plc w o 24 (tp w b)))]) else row
theorem cmF_ok {σ : ST} {a b : Nat} : ∀ m o i, i + m = dep σ 24 (tp σ a) → o = itr σ i (tp σ a) → ∀ q, cmF σ b m o i = some q → q.1 = itr σ q.2 (tp σ a) ∧ q.2 < dep σ 24 (tp σ a) ∧ plc σ q.1 24 (tp σ b) < dep σ 24 (tp σ b)
  | 0, _, _, _, _, _, h => by cases h
  | m + 1, o, i, e, ho', q, h => by
    unfold cmF at h
    by_cases z : plc σ o 24 (tp σ b) < dep σ 24 (tp σ b)
    · rw [if_pos z] at h
      cases h
      exact ⟨ho', by show i < _; omega, z⟩
    · rw [if_neg z] at h
      exact cmF_ok m (σ 4 o) (i + 1) (by omega) (by rw [itr_s, ho']) q h
theorem itr_plc {σ : ST} {o : Nat} : ∀ k x, chn σ k x → plc σ o k x < dep σ k x → itr σ (plc σ o k x) x = o ∧ ∀ j, j < plc σ o k x → itr σ j x ≠ o
  | 0, x, _, h => absurd h (Nat.not_lt_zero _)
  | k + 1, x, c, h => by
    rcases c with c | ⟨c1, c2⟩
    · subst c
      rw [dep_24] at h
      exact absurd h (Nat.not_lt_zero _)
    · have ed : dep σ (k + 1) x = dep σ k (σ 4 x) + 1 := by
        conv => lhs; unfold dep
        rw [if_pos c1]
      by_cases z : x = o
      · have ep : plc σ o (k + 1) x = 0 := by
          unfold plc
          rw [if_neg (fun y => y.2 z)]
        rw [ep]
        exact ⟨z, fun j hj => absurd hj (Nat.not_lt_zero j)⟩
      · have ep : plc σ o (k + 1) x = plc σ o k (σ 4 x) + 1 := by
          conv => lhs; unfold plc
          rw [if_pos ⟨c1, z⟩]
        rw [ep, ed] at h
        rw [ep]
        obtain ⟨i1, i2⟩ := itr_plc (o := o) k (σ 4 x) c2 (by omega)
        refine ⟨i1, fun j hj => ?_⟩
        cases j with
        | zero => exact z
        | succ j => exact i2 j (by omega)
section CJ
variable {h g : AH} {mk : Nat} {tx : Nat → Nat} {len : Nat} {w : ST} {un : Nat} {us : Nat → ST} {kp : Nat → Bool} {ks : Nat → ST} {C : List Nat} {ρ : Nat → Nat} {rn : Nat} {row : List Int64} {hq : List (Nat × Nat)} {sq : List (Nat × Nat × Bool)}
theorem c_comL (W : CIk h mk tx len w un us kp ks C row hq sq) (I : INV w) {a b : Nat} (hb : b < 4294967296) (K : AH → Nat → Int32 → Int32 → Int32 → Option (Int32 × AH)) : ∀ m n i o, i + m = dep w 24 (tp w a) → o = itr w i (tp w a) → m < n → fX10_common_L43 K n h 0 (J b) (J (dep w 24 (tp w a))) (J (dep w 24 (tp w b))) (J o) (J i) = cmK (cmF w b m o i) (some (J 4294967294, h)) (fun o i => K h 0 (J o) (J i) (J (plc w o 24 (tp w b))))
  | 0, n + 1, i, o, e, ho', _ => by
    have d := dep_le (σ := w) 24 (tp w a)
    rw [fX10_common_L43]
    simp (disch := omega) only [J_le]
    rw [if_pos (by omega)]
    rfl
  | m + 1, n + 1, i, o, e, ho', hn => by
    have R := I.rg
    have G := I.gr
    have d := dep_le (σ := w) 24 (tp w a)
    have d2 := dep_le (σ := w) 24 (tp w b)
    have pl := plc_le (σ := w) (x := o) 24 (tp w b)
    have hho := itr_ho 24 (tp w a) (chn_tp R G a) i (by omega)
    rw [← ho'] at hho
    obtain ⟨o1, o2⟩ := ho_lt hho
    rw [fX10_common_L43]
    have e1 : J i + 1 = J (i + 1) := by rw [l_1, J_add]
    have a4 : at24 w 4 o = w 4 o := by unfold at24; rw [if_pos o1]
    simp (disch := omega) only [J_le, x_2 W.1, Option.bind_some, c_place W.2.2.1 R hb, c_shadowOf W.2.2.1 R, a4, letF, e1]
    rw [if_neg (by omega)]
    unfold cmF
    by_cases z : plc w o 24 (tp w b) < dep w 24 (tp w b)
    · rw [if_neg (by omega), if_pos z]
      rfl
    · rw [if_pos (by omega), if_neg z]
      exact c_comL W I hb K m n (i + 1) (w 4 o) (by omega) (by rw [itr_s, ho']) (by omega)
theorem xc_common (W : CIk h mk tx len w un us kp ks C row hq sq) (I : INV w) {a b : Nat} (ha : a < 4294967296) (hb : b < 4294967296) : ∃ h' mk', fX10_common h 0 (J a) (J b) = some (J (cmA w a b), h') ∧ CIk h' mk' tx len w un us kp ks C (cmR w a b row) hq sq ∧ On PC0 h h' := by
  have R := I.rg
  have d := dep_le (σ := w) 24 (tp w a)
  unfold fX10_common cmA cmR
  rw [if_pos (x_h W.1), c_areTwo W I ha hb, Option.bind_some]
  by_cases e2 : a2B w a b = true
  · rw [if_pos e2, if_pos e2, if_pos e2]
    simp only [x_2 W.1, Option.bind_some, c_chain W.2.2.1 R ha, c_chain W.2.2.1 R hb, c_tp W.2.2.1 R ha]
    rw [l_0, c_comL W I hb _ (dep w 24 (tp w a)) FU 0 (tp w a) (by omega) rfl (FU_gt (by omega))]
    unfold cmV
    generalize cmF w b (dep w 24 (tp w a)) (tp w a) 0 = r
    cases r with
    | none => exact ⟨h, mk, rfl, W, On.rf⟩
    | some q =>
      obtain ⟨g1, e1, W1, O1⟩ := ci_clr W
      obtain ⟨g2, e2, W2, O2⟩ := ci_add W1 (by simp) (Int32.toInt64 (J q.2))
      obtain ⟨g3, e3, W3, O3⟩ := ci_add W2 (by simp) (Int32.toInt64 (J (plc w q.1 24 (tp w b))))
      refine ⟨g3, mk, ?_, W3, ((lon O1 (fun k hk => by omega)).trans (lon O2 (fun k hk => by omega))).trans (lon O3 (fun k hk => by omega))⟩
      unfold cmK
      simp only [x_8 W.1, Option.bind_some, e1, x_8 W1.1, e2, x_8 W2.1, e3]
  · rw [if_neg e2, if_neg e2, if_neg e2, m1_J]
    exact ⟨h, mk, rfl, W, On.rf⟩
theorem y_comL (W : MIv h tx len w un us kp ks ρ rn row hq sq) (I : INV w) {a b : Nat} (ha : a < 6) (hb : b < 6) (K : AH → Nat → Int32 → Int32 → Int32 → Option (Int32 × AH)) : ∀ m n i o, i + m = dep w 24 (tp w a) → o = itr w i (tp w a) → m < n → fX11_common_L18 K n h 145 (J a) (J b) (J i) = cmK (cmF w b m o i) (some (J 4294967294, h)) (fun o i => K h 145 (J b) (J i) (J o))
  | 0, n + 1, i, o, e, ho', _ => by
    have R := I.rg
    have G := I.gr
    have d := dep_le (σ := w) 24 (tp w a)
    rw [fX11_common_L18]
    simp (disch := omega) only [y_0 W.1, Option.bind_some, m_len W.2.2.1 R G ha, J_le]
    rw [if_pos (by omega)]
    rfl
  | m + 1, n + 1, i, o, e, ho', hn => by
    have R := I.rg
    have G := I.gr
    have d := dep_le (σ := w) 24 (tp w a)
    have hho := itr_ho 24 (tp w a) (chn_tp R G a) i (by omega)
    rw [← ho'] at hho
    obtain ⟨o1, o2⟩ := ho_lt hho
    have ea := m_at W.2.2.1 R G ha (j := i) (by omega)
    rw [← ho', nn_id o1] at ea
    rw [fX11_common_L18]
    have e1 : J i + 1 = J (i + 1) := by rw [l_1, J_add]
    simp (disch := omega) only [y_0 W.1, Option.bind_some, m_len W.2.2.1 R G ha, J_le, ea, m_inCh W.2.2.1 R G hb o1, letF, e1, decide_eq_true_eq]
    rw [if_neg (by omega)]
    unfold cmF
    by_cases z : plc w o 24 (tp w b) < dep w 24 (tp w b)
    · rw [if_pos z, if_pos z]
      rfl
    · rw [if_neg z, if_neg z]
      exact y_comL W I ha hb K m n (i + 1) (w 4 o) (by omega) (by rw [itr_s, ho']) (by omega)
theorem y_com2 (W : MIv h tx len w un us kp ks ρ rn row hq sq) (I : INV w) {b o : Nat} {x : Int32} (hb : b < 6) (ho' : o < 24) (hp : plc w o 24 (tp w b) < dep w 24 (tp w b)) (K : AH → Nat → Int32 → Int32 → Int32 → Option (Int32 × AH)) : ∀ m n j, j + m = plc w o 24 (tp w b) → m < n → fX11_common_L60 K n h 145 (J b) x (J o) (J j) = K h 145 x (J o) (J (plc w o 24 (tp w b)))
  | 0, n + 1, j, e, _ => by
    have R := I.rg
    have G := I.gr
    obtain ⟨p1, p2⟩ := itr_plc 24 (tp w b) (chn_tp R G b) hp
    have hj : j = plc w o 24 (tp w b) := by omega
    have ea := m_at W.2.2.1 R G hb (j := j) (by omega)
    rw [hj, p1, nn_id ho'] at ea
    rw [fX11_common_L60, hj]
    simp only [y_0 W.1, Option.bind_some, ea]
    rw [if_pos trivial]
  | m + 1, n + 1, j, e, hn => by
    have R := I.rg
    have G := I.gr
    have d := dep_le (σ := w) 24 (tp w b)
    obtain ⟨p1, p2⟩ := itr_plc 24 (tp w b) (chn_tp R G b) hp
    have hne := p2 j (by omega)
    obtain ⟨q1, q2⟩ := ho_lt (itr_ho 24 (tp w b) (chn_tp R G b) j (by omega))
    have ea := m_at W.2.2.1 R G hb (j := j) (by omega)
    rw [nn_id q1] at ea
    rw [fX11_common_L60]
    have e1 : J j + 1 = J (j + 1) := by rw [l_1, J_add]
    simp (disch := omega) only [y_0 W.1, Option.bind_some, ea, J_inj, letF, e1]
    rw [if_neg hne]
    exact y_com2 W I hb ho' hp K m n (j + 1) (by omega) (by omega)
theorem xm_common (W : MIv h tx len w un us kp ks ρ rn row hq sq) (I : INV w) {a b : Nat} (ha : a < 4294967296) (hb : b < 4294967296) : ∃ h', fX11_common h 145 (J a) (J b) = some (J (cmA w a b), h') ∧ MIv h' tx len w un us kp ks ρ rn (cmR w a b row) hq sq ∧ On PM0 h h' := by
  have R := I.rg
  have G := I.gr
  have d := dep_le (σ := w) 24 (tp w a)
  have d2 := dep_le (σ := w) 24 (tp w b)
  obtain ⟨g0, e0, W0, -, O0⟩ := mi_t0 W
  have O0' : On PM0 h g0 := mon O0 (fun k hk => by omega)
  unfold fX11_common cmA cmR
  rw [if_pos (y_h W.1), e0, Option.bind_some, y_areTwo W0 I ha hb, Option.bind_some]
  by_cases e2 : a2B w a b = true
  · obtain ⟨q1, q2, q3⟩ := a2B_t e2
    rw [if_pos e2, if_pos e2, if_pos e2, l_0, y_comL W0 I (hs_lt q1).1 (hs_lt q2).1 _ (dep w 24 (tp w a)) FU 0 (tp w a) (by omega) rfl (FU_gt (by omega))]
    unfold cmV
    have ok := cmF_ok (σ := w) (a := a) (b := b) (dep w 24 (tp w a)) (tp w a) 0 (by omega) rfl
    generalize cmF w b (dep w 24 (tp w a)) (tp w a) 0 = r at ok ⊢
    cases r with
    | none => exact ⟨g0, rfl, W0, O0'⟩
    | some q =>
      obtain ⟨k1, k2, k3⟩ := ok q rfl
      have hho := itr_ho 24 (tp w a) (chn_tp R G a) q.2 k2
      rw [← k1] at hho
      obtain ⟨g1, e1, W1, O1⟩ := mi_clr W0
      obtain ⟨g2, e2, W2, O2⟩ := mi_tell W1 (by simp) (Int32.toInt64 (J q.2))
      obtain ⟨g3, e3, W3, O3⟩ := mi_tell W2 (by simp) (Int32.toInt64 (J (plc w q.1 24 (tp w b))))
      refine ⟨g3, ?_, W3, ((O0'.trans (mon O1 (fun k hk => by omega))).trans (mon O2 (fun k hk => by omega))).trans (mon O3 (fun k hk => by omega))⟩
      unfold cmK
      show fX11_common_L60 _ FU g0 145 (J b) (J q.2) (J q.1) (J 0) = _
      rw [y_com2 W0 I (hs_lt q2).1 (ho_lt hho).1 k3 _ (plc w q.1 24 (tp w b)) FU 0 (by omega) (FU_gt (by omega))]
      rw [← l_0, e1, Option.bind_some, e2, Option.bind_some, e3, Option.bind_some]
  · rw [if_neg e2, if_neg e2, if_neg e2, m1_J]
    exact ⟨g0, rfl, W0, O0'⟩
end CJ
