/-! the two objects, as the law holds them: the class at 0, the reference at 145 -/
def C0 (h : AH) (len : Nat) : Prop := ∃ F, OBJ 10 12 h 0 F ∧ F 0 = .ref 1 ∧ F 1 = .int (J len) ∧ F 2 = .ref 2 ∧ F 3 = .ref 11 ∧ F 4 = .ref 20 ∧ F 5 = .ref 123 ∧ F 6 = .ref 126 ∧ F 7 = .ref 129 ∧ F 8 = .ref 132 ∧ F 9 = .ref 134 ∧ F 10 = .ref 138 ∧ F 11 = .ref 143
section C0
variable {h : AH} {len : Nat}
theorem C0.on {h' : AH} {P : Nat → Prop} (W : C0 h len) (O : On P h h') (hP : ¬ P 0) : C0 h' len := by
  obtain ⟨F, w1, w2⟩ := W
  exact ⟨F, w1.on O hP, w2⟩
theorem x_h (W : C0 h len) : hasC h 10 0 = true := by
  obtain ⟨F, w1, w2⟩ := W
  exact ob_h w1
theorem x_1 (W : C0 h len) : gI h 10 0 1 = some (J len) := by
  obtain ⟨F, w1, w2, w3, w4⟩ := W
  exact ob_i w1 (by decide) w3

theorem x_0 (W : C0 h len) : gR h 10 0 0 = some 1 := by
  obtain ⟨F, w1, w2, w3, w4, w5, w6, w7, w8, w9, w10, w11, w12, w13⟩ := W
  exact ob_r w1 (by decide) w2
theorem x_2 (W : C0 h len) : gR h 10 0 2 = some 2 := by
  obtain ⟨F, w1, w2, w3, w4, w5, w6, w7, w8, w9, w10, w11, w12, w13⟩ := W
  exact ob_r w1 (by decide) w4
theorem x_3 (W : C0 h len) : gR h 10 0 3 = some 11 := by
  obtain ⟨F, w1, w2, w3, w4, w5, w6, w7, w8, w9, w10, w11, w12, w13⟩ := W
  exact ob_r w1 (by decide) w5
theorem x_4 (W : C0 h len) : gR h 10 0 4 = some 20 := by
  obtain ⟨F, w1, w2, w3, w4, w5, w6, w7, w8, w9, w10, w11, w12, w13⟩ := W
  exact ob_r w1 (by decide) w6
theorem x_5 (W : C0 h len) : gR h 10 0 5 = some 123 := by
  obtain ⟨F, w1, w2, w3, w4, w5, w6, w7, w8, w9, w10, w11, w12, w13⟩ := W
  exact ob_r w1 (by decide) w7
theorem x_6 (W : C0 h len) : gR h 10 0 6 = some 126 := by
  obtain ⟨F, w1, w2, w3, w4, w5, w6, w7, w8, w9, w10, w11, w12, w13⟩ := W
  exact ob_r w1 (by decide) w8
theorem x_7 (W : C0 h len) : gR h 10 0 7 = some 129 := by
  obtain ⟨F, w1, w2, w3, w4, w5, w6, w7, w8, w9, w10, w11, w12, w13⟩ := W
  exact ob_r w1 (by decide) w9
theorem x_8 (W : C0 h len) : gR h 10 0 8 = some 132 := by
  obtain ⟨F, w1, w2, w3, w4, w5, w6, w7, w8, w9, w10, w11, w12, w13⟩ := W
  exact ob_r w1 (by decide) w10
theorem x_9 (W : C0 h len) : gR h 10 0 9 = some 134 := by
  obtain ⟨F, w1, w2, w3, w4, w5, w6, w7, w8, w9, w10, w11, w12, w13⟩ := W
  exact ob_r w1 (by decide) w11
theorem x_10 (W : C0 h len) : gR h 10 0 10 = some 138 := by
  obtain ⟨F, w1, w2, w3, w4, w5, w6, w7, w8, w9, w10, w11, w12, w13⟩ := W
  exact ob_r w1 (by decide) w12
theorem x_11 (W : C0 h len) : gR h 10 0 11 = some 143 := by
  obtain ⟨F, w1, w2, w3, w4, w5, w6, w7, w8, w9, w10, w11, w12, w13⟩ := W
  exact ob_r w1 (by decide) w13
theorem x_p1 (W : C0 h len) (n : Nat) : ∃ h', pF h 10 0 1 (.int (J n)) = some h' ∧ C0 h' n ∧ Ot 0 1 h h' := by
  obtain ⟨F, w1, w2, w3, w4, w5, w6, w7, w8, w9, w10, w11, w12, w13⟩ := W
  obtain ⟨g, e, M, O⟩ := ob_p w1 (k := 1) (by decide) (.int (J n))
  exact ⟨g, e, ⟨_, M, by rw [fput_ne (by decide)]; exact w2, fput_eq, by rw [fput_ne (by decide)]; exact w4, by rw [fput_ne (by decide)]; exact w5, by rw [fput_ne (by decide)]; exact w6, by rw [fput_ne (by decide)]; exact w7, by rw [fput_ne (by decide)]; exact w8, by rw [fput_ne (by decide)]; exact w9, by rw [fput_ne (by decide)]; exact w10, by rw [fput_ne (by decide)]; exact w11, by rw [fput_ne (by decide)]; exact w12, by rw [fput_ne (by decide)]; exact w13⟩, O⟩
end C0
/-- what can be undone, what is kept, by the class -/
def CHk (h : AH) (mk un : Nat) (us : Nat → ST) (kp : Nat → Bool) (ks : Nat → ST) : Prop := ∃ F fm fs fb, OBJ 2 5 h 20 F ∧ F 0 = .ref 21 ∧ F 1 = .ref 22 ∧ F 2 = .ref 23 ∧ F 3 = .int (J mk) ∧ F 4 = .int (J un) ∧ mk < 9 ∧ un ≤ 8 ∧ h.1 21 = some (.inl (5, 9, .inr (.inr (.inr (.inr fm))))) ∧ (∀ i, i < 9 → fm i = some (24 + 9 * i)) ∧ h.1 22 = some (.inl (5, 2, .inr (.inr (.inr (.inr fs))))) ∧ (∀ j, j < 2 → fs j = some (105 + 9 * j)) ∧ h.1 23 = some (.inl (4, 2, .inl fb)) ∧ (∀ j, j < 2 → fb j = b2i (kp j)) ∧ (∀ i, i < 9 → WC1 h (24 + 9 * i)) ∧ (∀ i, i < un → WR h (24 + 9 * ((mk + 9 - un + i) % 9)) (us i)) ∧ (∀ j, j < 2 → WC1 h (105 + 9 * j)) ∧ (∀ j, j < 2 → kp j = true → WR h (105 + 9 * j) (ks j))
theorem CHk.on {h h' : AH} {mk un : Nat} {us : Nat → ST} {kp : Nat → Bool} {ks : Nat → ST} {P : Nat → Prop} (W : CHk h mk un us kp ks) (O : On P h h') (hP : ∀ k, 20 ≤ k → k < 123 → ¬ P k) : CHk h' mk un us kp ks := by
  obtain ⟨F, fm, fs, fb, w1, w2, w3, w4, w5, w6, w7, w8, w9, w10, w11, w12, w13, w14, w15, w16, w17, w18⟩ := W
  refine ⟨F, fm, fs, fb, w1.on O (hP _ (by omega) (by omega)), w2, w3, w4, w5, w6, w7, w8, (O.2 _ (hP _ (by omega) (by omega))).trans w9, w10, (O.2 _ (hP _ (by omega) (by omega))).trans w11, w12, (O.2 _ (hP _ (by omega) (by omega))).trans w13, w14, fun i hi => (w15 i hi).on O (fun k h1 h2 => hP k (by omega) (by omega)), fun i hi => (w16 i hi).on O (fun k h1 h2 => hP k (by omega) (by omega)), fun j hj => (w17 j hj).on O (fun k h1 h2 => hP k (by omega) (by omega)), fun j hj hk => (w18 j hj hk).on O (fun k h1 h2 => hP k (by omega) (by omega))⟩
def CRow (h : AH) (row : List Int64) : Prop := ∃ F g, OBJ 5 2 h 132 F ∧ F 0 = .ref 133 ∧ F 1 = .int (J row.length) ∧ h.1 133 = some (.inl (1, 24, .inr (.inl g))) ∧ row.length ≤ 24 ∧ ∀ i x, row[i]? = some x → g i = x
theorem CRow.on {h h' : AH} {row : List Int64} {P : Nat → Prop} (W : CRow h row) (O : On P h h') (h1 : ¬ P 132) (h2 : ¬ P 133) : CRow h' row := by
  obtain ⟨F, g, w1, w2, w3, w4, w5⟩ := W
  exact ⟨F, g, w1.on O h1, w2, w3, (O.2 _ h2).trans w4, w5⟩
def CHear (h : AH) (hd : List (Nat × Nat)) : Prop := ∃ F f1 f2 f3 x, OBJ 1 5 h 134 F ∧ F 0 = .ref 135 ∧ F 1 = .ref 136 ∧ F 2 = .ref 137 ∧ F 3 = .int (J hd.length) ∧ F 4 = .int x ∧ h.1 135 = some (.inl (0, 12, .inl f1)) ∧ h.1 136 = some (.inl (0, 12, .inl f2)) ∧ h.1 137 = some (.inl (0, 64, .inl f3)) ∧ hd.length ≤ 12 ∧ ∀ i q, hd[i]? = some q → f1 i = J q.1 ∧ f2 i = J q.2
theorem CHear.on {h h' : AH} {hd : List (Nat × Nat)} {P : Nat → Prop} (W : CHear h hd) (O : On P h h') (hP : ∀ k, 134 ≤ k → k < 138 → ¬ P k) : CHear h' hd := by
  obtain ⟨F, f1, f2, f3, x, w1, w2, w3, w4, w5, w6, w7, w8, w9, w10⟩ := W
  exact ⟨F, f1, f2, f3, x, w1.on O (hP _ (by omega) (by omega)), w2, w3, w4, w5, w6, (O.2 _ (hP _ (by omega) (by omega))).trans w7, (O.2 _ (hP _ (by omega) (by omega))).trans w8, (O.2 _ (hP _ (by omega) (by omega))).trans w9, w10⟩
def CSaw (h : AH) (sw : List (Nat × Nat × Bool)) : Prop := ∃ F f1 f2 f3 f4, OBJ 8 5 h 138 F ∧ F 0 = .ref 139 ∧ F 1 = .ref 140 ∧ F 2 = .ref 141 ∧ F 3 = .ref 142 ∧ F 4 = .int (J sw.length) ∧ h.1 139 = some (.inl (0, 10, .inl f1)) ∧ h.1 140 = some (.inl (0, 10, .inl f2)) ∧ h.1 141 = some (.inl (4, 10, .inl f3)) ∧ h.1 142 = some (.inl (4, 49, .inl f4)) ∧ sw.length ≤ 10 ∧ ∀ i q, sw[i]? = some q → f1 i = J q.1 ∧ f2 i = J q.2.1 ∧ f3 i = b2i q.2.2
theorem CSaw.on {h h' : AH} {sw : List (Nat × Nat × Bool)} {P : Nat → Prop} (W : CSaw h sw) (O : On P h h') (hP : ∀ k, 138 ≤ k → k < 143 → ¬ P k) : CSaw h' sw := by
  obtain ⟨F, f1, f2, f3, f4, w1, w2, w3, w4, w5, w6, w7, w8, w9, w10, w11⟩ := W
  exact ⟨F, f1, f2, f3, f4, w1.on O (hP _ (by omega) (by omega)), w2, w3, w4, w5, w6, (O.2 _ (hP _ (by omega) (by omega))).trans w7, (O.2 _ (hP _ (by omega) (by omega))).trans w8, (O.2 _ (hP _ (by omega) (by omega))).trans w9, (O.2 _ (hP _ (by omega) (by omega))).trans w10, w11⟩
def cel (h : AH) (t a n : Nat) : Prop := ∃ f, h.1 a = some (.inl (t, n, .inl f))
theorem cel.on {h h' : AH} {t a n : Nat} {P : Nat → Prop} (W : cel h t a n) (O : On P h h') (hP : ¬ P a) : cel h' t a n := by
  obtain ⟨f, w⟩ := W
  exact ⟨f, (O.2 _ hP).trans w⟩
def CPg (h : AH) : Prop := (∃ F, OBJ 3 1 h 143 F ∧ F 0 = .ref 144) ∧ cel h 0 144 61
theorem CPg.on {h h' : AH} {P : Nat → Prop} (W : CPg h) (O : On P h h') (h1 : ¬ P 143) (h2 : ¬ P 144) : CPg h' := by
  obtain ⟨⟨F, w1, w2⟩, w3⟩ := W
  exact ⟨⟨F, w1.on O h1, w2⟩, w3.on O h2⟩
/-- the class -/
def CIk (h : AH) (mk : Nat) (tx : Nat → Nat) (len : Nat) (w : ST) (un : Nat) (us : Nat → ST) (kp : Nat → Bool) (ks : Nat → ST) (C : List Nat) (row : List Int64) (hd : List (Nat × Nat)) (sw : List (Nat × Nat × Bool)) : Prop :=
  C0 h len ∧ TC h 1 tx len ∧ WR h 2 w ∧ WC1 h 11 ∧ CHk h mk un us kp ks ∧ RU h 123 C ∧ RUw h 126 ∧ RD7w h 129 ∧ CRow h row ∧ CHear h hd ∧ CSaw h sw ∧ CPg h
section CIk
variable {h h' : AH} {mk : Nat} {tx : Nat → Nat} {len : Nat} {w : ST} {un : Nat} {us : Nat → ST} {kp : Nat → Bool} {ks : Nat → ST} {C : List Nat} {row : List Int64} {hd : List (Nat × Nat)} {sw : List (Nat × Nat × Bool)}
theorem CIk.on {P : Nat → Prop} (W : CIk h mk tx len w un us kp ks C row hd sw) (O : On P h h') (hP : ∀ k, k < 145 → ¬ P k) : CIk h' mk tx len w un us kp ks C row hd sw := by
  obtain ⟨w1, w2, w3, w4, w5, w6, w7, w8, w9, w10, w11, w12⟩ := W
  exact ⟨w1.on O (hP _ (by omega)), w2.on O (hP _ (by omega)), w3.on O (fun k _ _ => hP k (by omega)), w4.on O (fun k _ _ => hP k (by omega)), w5.on O (fun k _ _ => hP k (by omega)), w6.on O (hP _ (by omega)) (hP _ (by omega)) (hP _ (by omega)), w7.on O (hP _ (by omega)) (hP _ (by omega)) (hP _ (by omega)), w8.on O (hP _ (by omega)) (hP _ (by omega)) (hP _ (by omega)), w9.on O (hP _ (by omega)) (hP _ (by omega)), w10.on O (fun k _ _ => hP k (by omega)), w11.on O (fun k _ _ => hP k (by omega)), w12.on O (hP _ (by omega)) (hP _ (by omega))⟩
end CIk
/-! the reference's object -/
def mref (k : Nat) : Option Nat := if k = 0 then some 146 else if k = 1 then some 147 else if k = 3 then some 148 else if k = 11 then some 149 else if k = 12 then some 150 else if k = 13 then some 151 else if k = 16 then some 152 else if k = 17 then some 153 else if k = 19 then some 154 else if k = 20 then some 155 else if k = 23 then some 156 else if k = 24 then some 157 else if k = 25 then some 158 else if k = 27 then some 159 else if k = 28 then some 160 else if k = 29 then some 161 else if k = 30 then some 162 else if k = 32 then some 163 else if k = 34 then some 164 else if k = 35 then some 165 else none
def MF (F : Nat → Value) (len rl un rn hl sl : Nat) : Prop := (∀ k r, mref k = some r → F k = .ref r) ∧ F 2 = .int (J len) ∧ F 4 = .int (J rl) ∧ F 14 = .int (J rn) ∧ F 18 = .int (J un) ∧ F 26 = .int (J hl) ∧ F 31 = .int (J sl)
section MF
variable {F : Nat → Value} {len rl un rn hl sl : Nat}
/-- the fields that are no one's -/
def NF (k : Nat) : Prop := k = 5 ∨ k = 6 ∨ k = 7 ∨ k = 8 ∨ k = 9 ∨ k = 10 ∨ k = 15 ∨ k = 21 ∨ k = 22 ∨ k = 33
theorem mref_nf {k : Nat} (h : NF k) : mref k = none := by
  rcases h with h | h | h | h | h | h | h | h | h | h <;> subst h <;> rfl
theorem mref_lt {k r : Nat} (h : mref k = some r) : k < 36 := by
  by_cases hk : k < 36
  · exact hk
  · exfalso
    unfold mref at h
    rw [if_neg (by omega), if_neg (by omega), if_neg (by omega), if_neg (by omega), if_neg (by omega), if_neg (by omega), if_neg (by omega), if_neg (by omega), if_neg (by omega), if_neg (by omega), if_neg (by omega), if_neg (by omega), if_neg (by omega), if_neg (by omega), if_neg (by omega), if_neg (by omega), if_neg (by omega), if_neg (by omega), if_neg (by omega), if_neg (by omega)] at h
    cases h
theorem MF.cg {F' : Nat → Value} (M : MF F len rl un rn hl sl) (e : ∀ k, ¬ NF k → F' k = F k) : MF F' len rl un rn hl sl := by
  obtain ⟨m1, m2, m3, m4, m5, m6, m7⟩ := M
  refine ⟨fun k r hk => ?_, ?_, ?_, ?_, ?_, ?_, ?_⟩
  · rw [e k (fun z => by rw [mref_nf z] at hk; cases hk)]
    exact m1 k r hk
  · rw [e _ (by unfold NF; omega)]; exact m2
  · rw [e _ (by unfold NF; omega)]; exact m3
  · rw [e _ (by unfold NF; omega)]; exact m4
  · rw [e _ (by unfold NF; omega)]; exact m5
  · rw [e _ (by unfold NF; omega)]; exact m6
  · rw [e _ (by unfold NF; omega)]; exact m7
theorem MF.p {k : Nat} (M : MF F len rl un rn hl sl) (hk : NF k) (v : Value) : MF (fput F k v) len rl un rn hl sl := M.cg fun j hj => fput_ne (fun z => hj (by rw [z]; exact hk))
theorem mf_r {k r : Nat} (M : MF F len rl un rn hl sl) (hk : mref k = some r) : ∀ {j x : Nat}, mref j = some x → F j = .ref x := fun hj => M.1 _ _ hj

theorem MF.p2 (M : MF F len rl un rn hl sl) (n : Nat) : MF (fput F 2 (.int (J n))) n rl un rn hl sl := by
  obtain ⟨m1, m2, m3, m4, m5, m6, m7⟩ := M
  refine ⟨fun k r hk => ?_, fput_eq, by rw [fput_ne (by decide)]; exact m3, by rw [fput_ne (by decide)]; exact m4, by rw [fput_ne (by decide)]; exact m5, by rw [fput_ne (by decide)]; exact m6, by rw [fput_ne (by decide)]; exact m7⟩
  rw [fput_ne (fun z => by rw [z] at hk; cases hk)]
  exact m1 k r hk
theorem MF.p4 (M : MF F len rl un rn hl sl) (n : Nat) : MF (fput F 4 (.int (J n))) len n un rn hl sl := by
  obtain ⟨m1, m2, m3, m4, m5, m6, m7⟩ := M
  refine ⟨fun k r hk => ?_, by rw [fput_ne (by decide)]; exact m2, fput_eq, by rw [fput_ne (by decide)]; exact m4, by rw [fput_ne (by decide)]; exact m5, by rw [fput_ne (by decide)]; exact m6, by rw [fput_ne (by decide)]; exact m7⟩
  rw [fput_ne (fun z => by rw [z] at hk; cases hk)]
  exact m1 k r hk
theorem MF.p14 (M : MF F len rl un rn hl sl) (n : Nat) : MF (fput F 14 (.int (J n))) len rl un n hl sl := by
  obtain ⟨m1, m2, m3, m4, m5, m6, m7⟩ := M
  refine ⟨fun k r hk => ?_, by rw [fput_ne (by decide)]; exact m2, by rw [fput_ne (by decide)]; exact m3, fput_eq, by rw [fput_ne (by decide)]; exact m5, by rw [fput_ne (by decide)]; exact m6, by rw [fput_ne (by decide)]; exact m7⟩
  rw [fput_ne (fun z => by rw [z] at hk; cases hk)]
  exact m1 k r hk
theorem MF.p18 (M : MF F len rl un rn hl sl) (n : Nat) : MF (fput F 18 (.int (J n))) len rl n rn hl sl := by
  obtain ⟨m1, m2, m3, m4, m5, m6, m7⟩ := M
  refine ⟨fun k r hk => ?_, by rw [fput_ne (by decide)]; exact m2, by rw [fput_ne (by decide)]; exact m3, by rw [fput_ne (by decide)]; exact m4, fput_eq, by rw [fput_ne (by decide)]; exact m6, by rw [fput_ne (by decide)]; exact m7⟩
  rw [fput_ne (fun z => by rw [z] at hk; cases hk)]
  exact m1 k r hk
theorem MF.p26 (M : MF F len rl un rn hl sl) (n : Nat) : MF (fput F 26 (.int (J n))) len rl un rn n sl := by
  obtain ⟨m1, m2, m3, m4, m5, m6, m7⟩ := M
  refine ⟨fun k r hk => ?_, by rw [fput_ne (by decide)]; exact m2, by rw [fput_ne (by decide)]; exact m3, by rw [fput_ne (by decide)]; exact m4, by rw [fput_ne (by decide)]; exact m5, fput_eq, by rw [fput_ne (by decide)]; exact m7⟩
  rw [fput_ne (fun z => by rw [z] at hk; cases hk)]
  exact m1 k r hk
theorem MF.p31 (M : MF F len rl un rn hl sl) (n : Nat) : MF (fput F 31 (.int (J n))) len rl un rn hl n := by
  obtain ⟨m1, m2, m3, m4, m5, m6, m7⟩ := M
  refine ⟨fun k r hk => ?_, by rw [fput_ne (by decide)]; exact m2, by rw [fput_ne (by decide)]; exact m3, by rw [fput_ne (by decide)]; exact m4, by rw [fput_ne (by decide)]; exact m5, by rw [fput_ne (by decide)]; exact m6, fput_eq⟩
  rw [fput_ne (fun z => by rw [z] at hk; cases hk)]
  exact m1 k r hk
end MF
def MO (h : AH) (len rl un rn hl sl : Nat) : Prop := ∃ F, OBJ 11 36 h 145 F ∧ MF F len rl un rn hl sl
section MO
variable {h : AH} {len rl un rn hl sl : Nat}
theorem MO.on {h' : AH} {P : Nat → Prop} (W : MO h len rl un rn hl sl) (O : On P h h') (hP : ¬ P 145) : MO h' len rl un rn hl sl := by
  obtain ⟨F, w1, w2⟩ := W
  exact ⟨F, w1.on O hP, w2⟩
theorem y_h (W : MO h len rl un rn hl sl) : hasC h 11 145 = true := by
  obtain ⟨F, w1, w2⟩ := W
  exact ob_h w1
theorem y_r (W : MO h len rl un rn hl sl) {k r : Nat} (hk : mref k = some r) : gR h 11 145 k = some r := by
  obtain ⟨F, w1, w2⟩ := W
  exact ob_r w1 (mref_lt hk) (w2.1 k r hk)

theorem y_0 (W : MO h len rl un rn hl sl) : gR h 11 145 0 = some 146 := y_r W rfl
theorem y_1 (W : MO h len rl un rn hl sl) : gR h 11 145 1 = some 147 := y_r W rfl
theorem y_3 (W : MO h len rl un rn hl sl) : gR h 11 145 3 = some 148 := y_r W rfl
theorem y_11 (W : MO h len rl un rn hl sl) : gR h 11 145 11 = some 149 := y_r W rfl
theorem y_12 (W : MO h len rl un rn hl sl) : gR h 11 145 12 = some 150 := y_r W rfl
theorem y_13 (W : MO h len rl un rn hl sl) : gR h 11 145 13 = some 151 := y_r W rfl
theorem y_16 (W : MO h len rl un rn hl sl) : gR h 11 145 16 = some 152 := y_r W rfl
theorem y_17 (W : MO h len rl un rn hl sl) : gR h 11 145 17 = some 153 := y_r W rfl
theorem y_19 (W : MO h len rl un rn hl sl) : gR h 11 145 19 = some 154 := y_r W rfl
theorem y_20 (W : MO h len rl un rn hl sl) : gR h 11 145 20 = some 155 := y_r W rfl
theorem y_23 (W : MO h len rl un rn hl sl) : gR h 11 145 23 = some 156 := y_r W rfl
theorem y_24 (W : MO h len rl un rn hl sl) : gR h 11 145 24 = some 157 := y_r W rfl
theorem y_25 (W : MO h len rl un rn hl sl) : gR h 11 145 25 = some 158 := y_r W rfl
theorem y_27 (W : MO h len rl un rn hl sl) : gR h 11 145 27 = some 159 := y_r W rfl
theorem y_28 (W : MO h len rl un rn hl sl) : gR h 11 145 28 = some 160 := y_r W rfl
theorem y_29 (W : MO h len rl un rn hl sl) : gR h 11 145 29 = some 161 := y_r W rfl
theorem y_30 (W : MO h len rl un rn hl sl) : gR h 11 145 30 = some 162 := y_r W rfl
theorem y_32 (W : MO h len rl un rn hl sl) : gR h 11 145 32 = some 163 := y_r W rfl
theorem y_34 (W : MO h len rl un rn hl sl) : gR h 11 145 34 = some 164 := y_r W rfl
theorem y_35 (W : MO h len rl un rn hl sl) : gR h 11 145 35 = some 165 := y_r W rfl
theorem y_2 (W : MO h len rl un rn hl sl) : gI h 11 145 2 = some (J len) := by
  obtain ⟨F, w1, w2⟩ := W
  exact ob_i w1 (by decide) w2.2.1
theorem y_p2 (W : MO h len rl un rn hl sl) (n : Nat) : ∃ h', pF h 11 145 2 (.int (J n)) = some h' ∧ MO h' n rl un rn hl sl ∧ On (fun k => k = 145) h h' := by
  obtain ⟨F, w1, w2⟩ := W
  obtain ⟨g, e, M, O⟩ := ob_p w1 (k := 2) (by decide) (.int (J n))
  exact ⟨g, e, ⟨_, M, w2.p2 n⟩, O.on1 rfl⟩
theorem y_4 (W : MO h len rl un rn hl sl) : gI h 11 145 4 = some (J rl) := by
  obtain ⟨F, w1, w2⟩ := W
  exact ob_i w1 (by decide) w2.2.2.1
theorem y_p4 (W : MO h len rl un rn hl sl) (n : Nat) : ∃ h', pF h 11 145 4 (.int (J n)) = some h' ∧ MO h' len n un rn hl sl ∧ On (fun k => k = 145) h h' := by
  obtain ⟨F, w1, w2⟩ := W
  obtain ⟨g, e, M, O⟩ := ob_p w1 (k := 4) (by decide) (.int (J n))
  exact ⟨g, e, ⟨_, M, w2.p4 n⟩, O.on1 rfl⟩
theorem y_14 (W : MO h len rl un rn hl sl) : gI h 11 145 14 = some (J rn) := by
  obtain ⟨F, w1, w2⟩ := W
  exact ob_i w1 (by decide) w2.2.2.2.1
theorem y_p14 (W : MO h len rl un rn hl sl) (n : Nat) : ∃ h', pF h 11 145 14 (.int (J n)) = some h' ∧ MO h' len rl un n hl sl ∧ On (fun k => k = 145) h h' := by
  obtain ⟨F, w1, w2⟩ := W
  obtain ⟨g, e, M, O⟩ := ob_p w1 (k := 14) (by decide) (.int (J n))
  exact ⟨g, e, ⟨_, M, w2.p14 n⟩, O.on1 rfl⟩
theorem y_18 (W : MO h len rl un rn hl sl) : gI h 11 145 18 = some (J un) := by
  obtain ⟨F, w1, w2⟩ := W
  exact ob_i w1 (by decide) w2.2.2.2.2.1
theorem y_p18 (W : MO h len rl un rn hl sl) (n : Nat) : ∃ h', pF h 11 145 18 (.int (J n)) = some h' ∧ MO h' len rl n rn hl sl ∧ On (fun k => k = 145) h h' := by
  obtain ⟨F, w1, w2⟩ := W
  obtain ⟨g, e, M, O⟩ := ob_p w1 (k := 18) (by decide) (.int (J n))
  exact ⟨g, e, ⟨_, M, w2.p18 n⟩, O.on1 rfl⟩
theorem y_26 (W : MO h len rl un rn hl sl) : gI h 11 145 26 = some (J hl) := by
  obtain ⟨F, w1, w2⟩ := W
  exact ob_i w1 (by decide) w2.2.2.2.2.2.1
theorem y_p26 (W : MO h len rl un rn hl sl) (n : Nat) : ∃ h', pF h 11 145 26 (.int (J n)) = some h' ∧ MO h' len rl un rn n sl ∧ On (fun k => k = 145) h h' := by
  obtain ⟨F, w1, w2⟩ := W
  obtain ⟨g, e, M, O⟩ := ob_p w1 (k := 26) (by decide) (.int (J n))
  exact ⟨g, e, ⟨_, M, w2.p26 n⟩, O.on1 rfl⟩
theorem y_31 (W : MO h len rl un rn hl sl) : gI h 11 145 31 = some (J sl) := by
  obtain ⟨F, w1, w2⟩ := W
  exact ob_i w1 (by decide) w2.2.2.2.2.2.2
theorem y_p31 (W : MO h len rl un rn hl sl) (n : Nat) : ∃ h', pF h 11 145 31 (.int (J n)) = some h' ∧ MO h' len rl un rn hl n ∧ On (fun k => k = 145) h h' := by
  obtain ⟨F, w1, w2⟩ := W
  obtain ⟨g, e, M, O⟩ := ob_p w1 (k := 31) (by decide) (.int (J n))
  exact ⟨g, e, ⟨_, M, w2.p31 n⟩, O.on1 rfl⟩
theorem y_p (W : MO h len rl un rn hl sl) {k : Nat} (hk : NF k) (v : Value) : ∃ h', pF h 11 145 k v = some h' ∧ MO h' len rl un rn hl sl ∧ gF h' 11 145 k = some v ∧ On (fun k => k = 145) h h' := by
  obtain ⟨F, w1, w2⟩ := W
  have hk36 : k < 36 := by unfold NF at hk; omega
  obtain ⟨g, e, M, O⟩ := ob_p w1 hk36 v
  refine ⟨g, e, ⟨_, M, w2.p hk v⟩, ?_, O.on1 rfl⟩
  obtain ⟨fs, c, l, s⟩ := M
  unfold gF
  rw [c]
  simp only [if_true]
  rw [s k hk36, fput_eq]
end MO
def MU (h : AH) (un : Nat) (us : Nat → ST) : Prop := un ≤ 8 ∧ ∃ f, h.1 153 = some (.inl (0, 2600, .inl f)) ∧ ∀ i, i < un → AS (fun k => f (325 * i + k)) (us i)
def MK (h : AH) (kp : Nat → Bool) (ks : Nat → ST) : Prop := (∃ f, h.1 164 = some (.inl (0, 650, .inl f)) ∧ ∀ j, j < 2 → kp j = true → AS (fun k => f (325 * j + k)) (ks j)) ∧ ∃ f, h.1 165 = some (.inl (4, 2, .inl f)) ∧ ∀ j, j < 2 → f j = b2i (kp j)
def MRow (h : AH) (row : List Int64) : Prop := row.length ≤ 24 ∧ ∃ g, h.1 148 = some (.inl (1, 24, .inr (.inl g))) ∧ ∀ i x, row[i]? = some x → g i = x
def MTx (h : AH) (a n : Nat) (tx : Nat → Nat) (len : Nat) : Prop := len ≤ n ∧ ∃ f, h.1 a = some (.inl (3, n, .inl f)) ∧ TXT f tx len
def MHear (h : AH) (hd : List (Nat × Nat)) : Prop := hd.length ≤ 12 ∧ ∃ f1 f2, h.1 157 = some (.inl (0, 12, .inl f1)) ∧ h.1 158 = some (.inl (0, 12, .inl f2)) ∧ ∀ i q, hd[i]? = some q → f1 i = J q.1 ∧ f2 i = J q.2
def MSaw (h : AH) (sw : List (Nat × Nat × Bool)) : Prop := sw.length ≤ 10 ∧ ∃ f1 f2 f3, h.1 160 = some (.inl (0, 10, .inl f1)) ∧ h.1 161 = some (.inl (0, 10, .inl f2)) ∧ h.1 162 = some (.inl (0, 10, .inl f3)) ∧ ∀ i q, sw[i]? = some q → f1 i = J q.1 ∧ f2 i = J q.2.1 ∧ f3 i = b2i q.2.2
/-- the rows that are written before they are read -/
def MCe (h : AH) : Prop := cel h 0 149 8 ∧ cel h 3 151 40 ∧ cel h 0 152 7 ∧ cel h 0 154 325 ∧ cel h 0 155 325 ∧ cel h 0 156 320 ∧ cel h 4 159 192 ∧ cel h 0 163 61
section MP
variable {h h' : AH} {un : Nat} {us : Nat → ST} {kp : Nat → Bool} {ks : Nat → ST} {row : List Int64} {tx : Nat → Nat} {len a n : Nat} {hd : List (Nat × Nat)} {sw : List (Nat × Nat × Bool)} {P : Nat → Prop}
theorem MU.on (W : MU h un us) (O : On P h h') (hP : ¬ P 153) : MU h' un us := by
  obtain ⟨w0, f, w1, w2⟩ := W
  exact ⟨w0, f, (O.2 _ hP).trans w1, w2⟩
theorem MK.on (W : MK h kp ks) (O : On P h h') (h1 : ¬ P 164) (h2 : ¬ P 165) : MK h' kp ks := by
  obtain ⟨⟨f, w1, w2⟩, g, w3, w4⟩ := W
  exact ⟨⟨f, (O.2 _ h1).trans w1, w2⟩, g, (O.2 _ h2).trans w3, w4⟩
theorem MRow.on (W : MRow h row) (O : On P h h') (hP : ¬ P 148) : MRow h' row := by
  obtain ⟨w0, f, w1, w2⟩ := W
  exact ⟨w0, f, (O.2 _ hP).trans w1, w2⟩
theorem MTx.on (W : MTx h a n tx len) (O : On P h h') (hP : ¬ P a) : MTx h' a n tx len := by
  obtain ⟨w0, f, w1, w2⟩ := W
  exact ⟨w0, f, (O.2 _ hP).trans w1, w2⟩
theorem MHear.on (W : MHear h hd) (O : On P h h') (h1 : ¬ P 157) (h2 : ¬ P 158) : MHear h' hd := by
  obtain ⟨w0, f1, f2, w1, w2, w3⟩ := W
  exact ⟨w0, f1, f2, (O.2 _ h1).trans w1, (O.2 _ h2).trans w2, w3⟩
theorem MSaw.on (W : MSaw h sw) (O : On P h h') (h1 : ¬ P 160) (h2 : ¬ P 161) (h3 : ¬ P 162) : MSaw h' sw := by
  obtain ⟨w0, f1, f2, f3, w1, w2, w3, w4⟩ := W
  exact ⟨w0, f1, f2, f3, (O.2 _ h1).trans w1, (O.2 _ h2).trans w2, (O.2 _ h3).trans w3, w4⟩
theorem MCe.on (W : MCe h) (O : On P h h') (hP : ∀ k, (k = 149 ∨ k = 151 ∨ k = 152 ∨ k = 154 ∨ k = 155 ∨ k = 156 ∨ k = 159 ∨ k = 163) → ¬ P k) : MCe h' := by
  obtain ⟨w1, w2, w3, w4, w5, w6, w7, w8⟩ := W
  exact ⟨w1.on O (hP _ (by omega)), w2.on O (hP _ (by omega)), w3.on O (hP _ (by omega)), w4.on O (hP _ (by omega)), w5.on O (hP _ (by omega)), w6.on O (hP _ (by omega)), w7.on O (hP _ (by omega)), w8.on O (hP _ (by omega))⟩
/-- changes inside of the rows that are written before they are read -/
theorem MCe.ot (W : MCe h) {t b m : Nat} {f : Nat → Int32} (O : Ot b (b + 1) h h') (c0 : cel h t b m) (c : h'.1 b = some (.inl (t, m, .inl f))) : MCe h' := by
  have key : ∀ {t' a' n' : Nat}, cel h t' a' n' → cel h' t' a' n' := by
    intro t' a' n' hc
    by_cases e : a' = b
    · subst e
      obtain ⟨f1, h1⟩ := hc
      obtain ⟨f2, h2⟩ := c0
      rw [h1] at h2
      cases h2
      exact ⟨f, c⟩
    · obtain ⟨f1, h1⟩ := hc
      exact ⟨f1, (O.2 a' (by omega)).trans h1⟩
  obtain ⟨w1, w2, w3, w4, w5, w6, w7, w8⟩ := W
  exact ⟨key w1, key w2, key w3, key w4, key w5, key w6, key w7, key w8⟩
end MP
/-- the reference -/
def MIv (h : AH) (tx : Nat → Nat) (len : Nat) (w : ST) (un : Nat) (us : Nat → ST) (kp : Nat → Bool) (ks : Nat → ST) (ρ : Nat → Nat) (rn : Nat) (row : List Int64) (hd : List (Nat × Nat)) (sw : List (Nat × Nat × Bool)) : Prop :=
  MO h len row.length un rn hd.length sw.length ∧ MTx h 147 80 tx len ∧ RA h 146 w ∧ MU h un us ∧ MK h kp ks ∧ MTx h 150 40 ρ rn ∧ MRow h row ∧ MHear h hd ∧ MSaw h sw ∧ MCe h
section MIv
variable {h h' : AH} {tx : Nat → Nat} {len : Nat} {w : ST} {un : Nat} {us : Nat → ST} {kp : Nat → Bool} {ks : Nat → ST} {ρ : Nat → Nat} {rn : Nat} {row : List Int64} {hd : List (Nat × Nat)} {sw : List (Nat × Nat × Bool)}
theorem MIv.on {P : Nat → Prop} (W : MIv h tx len w un us kp ks ρ rn row hd sw) (O : On P h h') (hP : ∀ k, 145 ≤ k → k < 166 → ¬ P k) : MIv h' tx len w un us kp ks ρ rn row hd sw := by
  obtain ⟨w1, w2, w3, w4, w5, w6, w7, w8, w9, w10⟩ := W
  exact ⟨w1.on O (hP _ (by omega) (by omega)), w2.on O (hP _ (by omega) (by omega)), w3.on O (hP _ (by omega) (by omega)), w4.on O (hP _ (by omega) (by omega)), w5.on O (hP _ (by omega) (by omega)) (hP _ (by omega) (by omega)), w6.on O (hP _ (by omega) (by omega)), w7.on O (hP _ (by omega) (by omega)), w8.on O (hP _ (by omega) (by omega)) (hP _ (by omega) (by omega)), w9.on O (hP _ (by omega) (by omega)) (hP _ (by omega) (by omega)) (hP _ (by omega) (by omega)), w10.on O (fun k hk => hP k (by omega) (by omega))⟩
end MIv
