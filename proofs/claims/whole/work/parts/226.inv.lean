/-! invariants of a world -/
def GRk (rk : Nat → Nat) (σ : ST) : Prop := ∀ o, o < 24 → σ 4 o < 24 → rk (σ 4 o) < rk o
def GC (σ : ST) : Prop := (∀ s, s < 6 → σ 0 s < 24 → σ 2 (σ 0 s) < 4) ∧ (∀ o, o < 24 → σ 4 o < 24 → σ 2 (σ 4 o) < 4) ∧ (∀ o, o < 24 → σ 5 o < 24 → σ 2 (σ 5 o) < 4)
def CPs (σ : ST) : Prop := ∀ o, o < 24 → σ 5 o < 24 → σ 4 (σ 5 o) = o ∧ σ 2 o ≠ 0
def PGs (σ : ST) : Prop := ∀ o, o < 24 → σ 2 o < 4 → σ 2 o ≠ 0 → σ 4 o = 24
def SBs (σ : ST) : Prop := ∀ s, s < 6 → (σ 1 0).testBit s = true → σ 0 s < 24
def IV1 (rk : Nat → Nat) (σ : ST) : Prop := RG σ ∧ GC σ ∧ GRk rk σ ∧ CPs σ ∧ PGs σ ∧ tot σ 8 ≤ 64 ∧ SBs σ
def INV (σ : ST) : Prop := ∃ rk, IV1 rk σ ∧ HL σ
theorem IV1.gr {rk : Nat → Nat} {σ : ST} (I : IV1 rk σ) : GR σ := ⟨I.2.1.1, I.2.1.2.1, I.2.1.2.2, rk, I.2.2.1⟩
theorem INV.gr {σ : ST} (I : INV σ) : GR σ := I.choose_spec.1.gr
theorem INV.rg {σ : ST} (I : INV σ) : RG σ := I.choose_spec.1.1
theorem INV.hl {σ : ST} (I : INV σ) : HL σ := I.choose_spec.2
theorem INV.frm {σ : ST} (I : INV σ) : tot σ 8 ≤ 64 := I.choose_spec.1.2.2.2.2.2.1
theorem INV.cp {σ : ST} (I : INV σ) : CPs σ := I.choose_spec.1.2.2.2.1
theorem INV.pg {σ : ST} (I : INV σ) : PGs σ := I.choose_spec.1.2.2.2.2.1
theorem INV.sb {σ : ST} (I : INV σ) : SBs σ := I.choose_spec.1.2.2.2.2.2.2
theorem cnt_zero {f : Nat → Bool} : ∀ {n : Nat}, cnt f n = 0 → ∀ i, i < n → f i = false
  | 0, _, i, hi => absurd hi (Nat.not_lt_zero i)
  | n + 1, h, i, hi => by
    have h1 : cnt f n + (if f n = true then 1 else 0) = 0 := h
    by_cases h2 : f n = true
    · rw [if_pos h2] at h1; omega
    · by_cases h3 : i = n
      · subst h3; simpa using h2
      · exact cnt_zero (n := n) (by omega) i (by omega)
theorem cnt_pos {f : Nat → Bool} {n i : Nat} (hi : i < n) (h : f i = true) : cnt f n ≠ 0 := fun h0 => by
  have := cnt_zero h0 i hi
  rw [h] at this
  cases this
theorem cnt_ex {f : Nat → Bool} : ∀ {n : Nat}, cnt f n ≠ 0 → ∃ i, i < n ∧ f i = true
  | 0, h => absurd rfl h
  | n + 1, h => by
    by_cases h2 : f n = true
    · exact ⟨n, by omega, h2⟩
    · have h1 : cnt f n + (if f n = true then 1 else 0) ≠ 0 := h
      rw [if_neg h2] at h1
      obtain ⟨i, h3, h4⟩ := cnt_ex (n := n) h1
      exact ⟨i, by omega, h4⟩
theorem cnt_one {f : Nat → Bool} {n p i : Nat} (h : cnt f n ≤ 1) (hp : p < n) (fp : f p = true) (hi : i < n) (hne : i ≠ p) : f i = false := by
  cases hf : f i with
  | false => rfl
  | true =>
    exfalso
    have h1 := cnt_upd (f := fun j => f j && !decide (j = i)) (g := f) (p := i) (by simp) hf (fun j hj => by simp [hj]) hi
    have h2 : cnt (fun j => f j && !decide (j = i)) n ≠ 0 := cnt_pos hp (by simp [fp, Ne.symm hne])
    omega
theorem hol_no {σ : ST} {a : Nat} (h : hol σ a = 0) : (∀ s, s < 6 → σ 0 s ≠ a) ∧ ∀ o, o < 24 → σ 4 o ≠ a := by
  unfold hol at h
  refine ⟨fun s hs e => ?_, fun o ho e => ?_⟩
  · exact cnt_pos hs (decide_eq_true e) (show cnt (fun s => decide (σ 0 s = a)) 6 = 0 by omega)
  · exact cnt_pos ho (decide_eq_true e) (show cnt (fun o => decide (σ 4 o = a)) 24 = 0 by omega)
theorem hol_yes {σ : ST} {a : Nat} : hol σ a ≠ 0 ↔ (∃ s, s < 6 ∧ σ 0 s = a) ∨ ∃ o, o < 24 ∧ σ 4 o = a := by
  constructor
  · intro h
    unfold hol at h
    by_cases h1 : cnt (fun s => decide (σ 0 s = a)) 6 = 0
    · obtain ⟨o, h2, h3⟩ := cnt_ex (f := fun o => decide (σ 4 o = a)) (n := 24) (by omega)
      exact Or.inr ⟨o, h2, of_decide_eq_true h3⟩
    · obtain ⟨o, h2, h3⟩ := cnt_ex h1
      exact Or.inl ⟨o, h2, of_decide_eq_true h3⟩
  · rintro (⟨s, h1, h2⟩ | ⟨o, h1, h2⟩) h0
    · exact (hol_no h0).1 s h1 h2
    · exact (hol_no h0).2 o h1 h2
theorem hol_one {σ : ST} {x y : Nat} (h : hol σ y = 1) (hx : x < 24) (e : σ 4 x = y) : (∀ s, s < 6 → σ 0 s ≠ y) ∧ ∀ k, k < 24 → k ≠ x → σ 4 k ≠ y := by
  unfold hol at h
  have h1 : cnt (fun o => decide (σ 4 o = y)) 24 ≠ 0 := cnt_pos hx (decide_eq_true e)
  refine ⟨fun s hs e1 => ?_, fun k hk hne e1 => ?_⟩
  · exact cnt_pos hs (decide_eq_true e1) (show cnt (fun s => decide (σ 0 s = y)) 6 = 0 by omega)
  · have := cnt_one (f := fun o => decide (σ 4 o = y)) (n := 24) (p := x) (i := k) (by omega) hx (decide_eq_true e) hk hne
    exact of_decide_eq_false this e1
theorem HL.cg {σ τ : ST} (H : HL σ) (e0 : ∀ k, τ 0 k = σ 0 k) (e2 : ∀ k, τ 2 k = σ 2 k) (e4 : ∀ k, τ 4 k = σ 4 k) : HL τ := by
  intro o h1 h2
  rw [e2] at h2
  have := H o h1 h2
  rw [hol_yes] at this ⊢
  rcases this with ⟨s, h3, h4⟩ | ⟨k, h3, h4⟩
  · exact Or.inl ⟨s, h3, (e0 s).trans h4⟩
  · exact Or.inr ⟨k, h3, (e4 k).trans h4⟩
theorem IV1.cg {rk : Nat → Nat} {σ τ : ST} (I : IV1 rk σ) (R : RG τ) (e0 : ∀ k, τ 0 k = σ 0 k) (e2 : ∀ k, τ 2 k = σ 2 k) (e4 : ∀ k, τ 4 k = σ 4 k) (e5 : ∀ k, τ 5 k = σ 5 k) (ht : tot τ 8 ≤ 64) (hs : SBs τ) : IV1 rk τ := by
  obtain ⟨-, ⟨g1, g2, g3⟩, g4, g5, g6, -, -⟩ := I
  refine ⟨R, ⟨fun s h1 h2 => ?_, fun o h1 h2 => ?_, fun o h1 h2 => ?_⟩, fun o h1 h2 => ?_, fun o h1 h2 => ?_, fun o h1 h2 h3 => ?_, ht, hs⟩
  · rw [e0] at h2 ⊢; rw [e2]; exact g1 s h1 h2
  · rw [e4] at h2 ⊢; rw [e2]; exact g2 o h1 h2
  · rw [e5] at h2 ⊢; rw [e2]; exact g3 o h1 h2
  · rw [e4] at h2 ⊢; exact g4 o h1 h2
  · rw [e5] at h2 ⊢; rw [e4, e2]; exact g5 o h1 h2
  · rw [e2] at h2 h3; rw [e4]; exact g6 o h1 h2 h3
theorem INV.cg {σ τ : ST} (I : INV σ) (R : RG τ) (e0 : ∀ k, τ 0 k = σ 0 k) (e2 : ∀ k, τ 2 k = σ 2 k) (e4 : ∀ k, τ 4 k = σ 4 k) (e5 : ∀ k, τ 5 k = σ 5 k) (ht : tot τ 8 ≤ 64) (hs : SBs τ) : INV τ := by
  obtain ⟨rk, I1, H⟩ := I
  exact ⟨rk, I1.cg R e0 e2 e4 e5 ht hs, H.cg e0 e2 e4⟩
/-! frames counted -/
theorem sm_le {f g : Nat → Nat} : ∀ {n : Nat}, (∀ i, i < n → f i ≤ g i) → sm f n ≤ sm g n
  | 0, _ => Nat.le_refl _
  | n + 1, h => by
    show sm f n + _ ≤ sm g n + _
    have h1 := sm_le (fun i hi => h i (Nat.lt_succ_of_lt hi) : ∀ i, i < n → f i ≤ g i)
    have h2 := h n (by omega)
    omega
theorem sm_put {f g : Nat → Nat} {p : Nat} (h : ∀ i, i ≠ p → f i = g i) : ∀ {n : Nat}, p < n → sm f n + g p = sm g n + f p
  | 0, hp => absurd hp (Nat.not_lt_zero p)
  | n + 1, hp => by
    show sm f n + f n + g p = sm g n + g n + f p
    by_cases h1 : p = n
    · subst h1
      rw [sm_congr (fun i hi => h i (by omega) : ∀ i, i < p → f i = g i)]
      omega
    · have h2 := sm_put h (n := n) (by omega)
      have h3 := h n (Ne.symm h1)
      omega
theorem tot_put8 {σ : ST} {o v : Nat} (ho : o < 24) : tot (put σ 8 o v) 8 + bc (σ 8 o) = tot σ 8 + bc v := by
  have := sm_put (f := fun k => bc (put σ 8 o v 8 k)) (g := fun k => bc (σ 8 k)) (p := o) (fun i hi => by simp [put, hi]) (n := 24) ho
  rw [put_eq] at this
  exact this
theorem tot_cg {σ τ : ST} {f : Nat} (h : ∀ k, τ f k = σ f k) : tot τ f = tot σ f := sm_congr fun i _ => by rw [h]
theorem tot_hold {σ : ST} {o p v : Nat} (ho : o < 24) (hp : p < 8) : tot (holdS σ o p v) 8 = tot σ 8 + (if (σ 8 o).testBit p = true then 0 else 1) := by
  have e : tot (holdS σ o p v) 8 = tot (put σ 8 o (bset (σ 8 o) p)) 8 := tot_cg fun k => by simp [holdS, put]
  have h1 := tot_put8 (σ := σ) (v := bset (σ 8 o) p) ho
  rw [bc_bset (by omega)] at h1
  omega
theorem bc_0 : bc 0 = 0 := by decide
section RM
variable {σ : ST} {a x k : Nat}
theorem rem_0 : remS σ a x 0 k = σ 0 k := by simp [remS, put, pasS]
theorem rem_10 : remS σ a x 1 0 = σ 1 0 := by simp [remS, put, pasS]
theorem rem_13 : remS σ a x 1 3 = σ 1 3 := by simp [remS, put, pasS]
theorem rem_2 : remS σ a x 2 k = if k = a then 4 else σ 2 k := by simp [remS, put, pasS]
theorem rem_3 : remS σ a x 3 k = if k = a then 0 else σ 3 k := by simp [remS, put, pasS]
theorem rem_4 : remS σ a x 4 k = if k = a then 24 else σ 4 k := by simp [remS, put, pasS]
theorem rem_5 : remS σ a x 5 k = if k = a then 24 else if k < 24 ∧ σ 5 k = a then x else σ 5 k := by simp [remS, put, pasS]
theorem rem_6 : remS σ a x 6 k = σ 6 k := by simp [remS, put, pasS]
theorem rem_7 : remS σ a x 7 k = if k = a then 0 else σ 7 k := by simp [remS, put, pasS]
theorem rem_8 : remS σ a x 8 k = if k = a then 0 else σ 8 k := by simp [remS, put, pasS]
theorem tot_rem (ha : a < 24) : tot (remS σ a x) 8 + bc (σ 8 a) = tot σ 8 := by
  have e : tot (remS σ a x) 8 = tot (put σ 8 a 0) 8 := tot_cg fun k => by rw [rem_8]; simp [put]
  have h1 := tot_put8 (σ := σ) (v := 0) ha
  rw [bc_0] at h1
  omega
end RM
section IVR
variable {σ : ST} {rk : Nat → Nat}
theorem grk_rem {a x : Nat} (G : GRk rk σ) : GRk rk (remS σ a x) := by
  intro o h1 h2
  rw [rem_4] at h2 ⊢
  by_cases e : o = a
  · rw [if_pos e] at h2; omega
  · rw [if_neg e] at h2 ⊢; exact G o h1 h2
theorem iv_rem (I : IV1 rk σ) {a : Nat} (h1 : a < 24) (h3 : hol σ a = 0) : IV1 rk (remS σ a 24) := by
  obtain ⟨R, ⟨g1, g2, g3⟩, g4, g5, g6, g7, g8⟩ := I
  obtain ⟨n1, n2⟩ := hol_no h3
  refine ⟨rg_rem R h1 (Nat.le_refl _), ⟨fun s k1 k2 => ?_, fun o k1 k2 => ?_, fun o k1 k2 => ?_⟩, grk_rem g4, fun o k1 k2 => ?_, fun o k1 k2 k3 => ?_, ?_, fun s k1 k2 => ?_⟩
  · rw [rem_0] at k2 ⊢
    rw [rem_2, if_neg (n1 s k1)]
    exact g1 s k1 k2
  · rw [rem_4] at k2 ⊢
    by_cases e : o = a
    · rw [if_pos e] at k2; omega
    · rw [if_neg e] at k2 ⊢
      rw [rem_2, if_neg (n2 o k1)]
      exact g2 o k1 k2
  · rw [rem_5] at k2 ⊢
    by_cases e : o = a
    · rw [if_pos e] at k2; omega
    · rw [if_neg e] at k2 ⊢
      by_cases e2 : o < 24 ∧ σ 5 o = a
      · rw [if_pos e2] at k2; omega
      · rw [if_neg e2] at k2 ⊢
        rw [rem_2, if_neg (fun z => e2 ⟨k1, z⟩)]
        exact g3 o k1 k2
  · rw [rem_5] at k2 ⊢
    by_cases e : o = a
    · rw [if_pos e] at k2; omega
    · rw [if_neg e] at k2 ⊢
      by_cases e2 : o < 24 ∧ σ 5 o = a
      · rw [if_pos e2] at k2; omega
      · rw [if_neg e2] at k2 ⊢
        rw [rem_4, if_neg (fun z => e2 ⟨k1, z⟩), rem_2, if_neg e]
        exact g5 o k1 k2
  · rw [rem_2] at k2 k3
    rw [rem_4]
    by_cases e : o = a
    · rw [if_pos e]
    · rw [if_neg e] at k2 k3 ⊢
      exact g6 o k1 k2 k3
  · have := tot_rem (σ := σ) (x := 24) h1
    omega
  · rw [rem_10] at k2
    rw [rem_0]
    exact g8 s k1 k2
theorem iv_rel : ∀ k {σ : ST} {a : Nat}, IV1 rk σ → IV1 rk (relS k σ a).2
  | 0, _, _, I => I
  | k + 1, σ, a, I => by
    unfold relS
    split
    · rename_i h1
      exact iv_rel k (iv_rem I (ho_lt h1.1).1 h1.2)
    · exact I
theorem rel_keep : ∀ k {σ : ST} {a o : Nat}, GRk rk σ → (a < 24 → rk a < rk o) → ∀ f, (f = 2 ∨ f = 3 ∨ f = 4 ∨ f = 7 ∨ f = 8) → (relS k σ a).2 f o = σ f o
  | 0, _, _, _, _, _, _, _ => rfl
  | k + 1, σ, a, o, G, hr, f, hf => by
    unfold relS
    split
    · rename_i h1
      have a1 := (ho_lt h1.1).1
      have hne : o ≠ a := fun e => by rw [e] at hr; exact Nat.lt_irrefl _ (hr a1)
      have := rel_keep k (σ := remS σ a 24) (a := σ 4 a) (o := o) (grk_rem G) (fun h2 => Nat.lt_trans (G a a1 h2) (hr a1)) f hf
      rw [this]
      rcases hf with rfl | rfl | rfl | rfl | rfl
      · rw [rem_2, if_neg hne]
      · rw [rem_3, if_neg hne]
      · rw [rem_4, if_neg hne]
      · rw [rem_7, if_neg hne]
      · rw [rem_8, if_neg hne]
    · rfl
theorem rel_0 : ∀ k {σ : ST} {a s : Nat}, (relS k σ a).2 0 s = σ 0 s
  | 0, _, _, _ => rfl
  | k + 1, σ, a, s => by
    unfold relS
    split
    · rw [rel_0 k, rem_0]
    · rfl
theorem rel_10 : ∀ k {σ : ST} {a : Nat}, (relS k σ a).2 1 0 = σ 1 0
  | 0, _, _ => rfl
  | k + 1, σ, a => by
    unfold relS
    split
    · rw [rel_10 k, rem_10]
    · rfl
theorem rel_13 : ∀ k {σ : ST} {a : Nat}, (relS k σ a).2 1 3 = σ 1 3
  | 0, _, _ => rfl
  | k + 1, σ, a => by
    unfold relS
    split
    · rw [rel_13 k, rem_13]
    · rfl
/-- what a bypass comes to before who is free is freed -/
def by0 (σ : ST) (x nx : Nat) : ST := if nx = 24 then pasS (put σ 4 x nx) x 24 24 else put σ 4 x nx
theorem by0_f {x nx f k : Nat} (h4 : f ≠ 4) (h5 : f ≠ 5) : by0 σ x nx f k = σ f k := by
  unfold by0
  split <;> simp [pasS, put, h4, h5]
theorem by0_4 {x nx k : Nat} : by0 σ x nx 4 k = if k = x then nx else σ 4 k := by
  unfold by0
  split <;> simp [pasS, put]
theorem by0_5 {x nx k : Nat} : by0 σ x nx 5 k = if nx = 24 ∧ k < 24 ∧ σ 5 k = x then 24 else σ 5 k := by
  unfold by0
  split <;> simp [pasS, put, *]
theorem iv_by0 (I : IV1 rk σ) {x nx : Nat} (hx : ho σ x = true) (hy : ho σ (σ 4 x) = true) (hn : nx = 24 ∨ (nx = σ 4 (σ 4 x) ∧ σ 2 (σ 4 x) = 0)) : IV1 rk (by0 σ x nx) := by
  obtain ⟨x1, x2⟩ := ho_lt hx
  obtain ⟨y1, y2⟩ := ho_lt hy
  obtain ⟨R, ⟨g1, g2, g3⟩, g4, g5, g6, g7, g8⟩ := I
  have hn24 : nx ≤ 24 := by
    rcases hn with hn | hn
    · omega
    · rw [hn.1]; exact (R.2.2.1 _ y1).2.2.1
  have R1 := rg_put4 R x2 hn24
  have R2 : RG (by0 σ x nx) := by
    unfold by0
    split
    · exact rg_pas R1 x1 (Nat.le_refl _)
    · exact R1
  have b2 : ∀ k, by0 σ x nx 2 k = σ 2 k := fun k => by0_f (by decide) (by decide)
  have b0 : ∀ k, by0 σ x nx 0 k = σ 0 k := fun k => by0_f (by decide) (by decide)
  refine ⟨R2, ⟨fun s k1 k2 => ?_, fun o k1 k2 => ?_, fun o k1 k2 => ?_⟩, fun o k1 k2 => ?_, fun o k1 k2 => ?_, fun o k1 k2 k3 => ?_, ?_, fun s k1 k2 => ?_⟩
  · rw [b0] at k2 ⊢
    rw [b2]
    exact g1 s k1 k2
  · rw [by0_4] at k2 ⊢
    rw [b2]
    by_cases e : o = x
    · rw [if_pos e] at k2 ⊢
      rcases hn with hn | hn
      · omega
      · rw [hn.1] at k2 ⊢; exact g2 _ y1 k2
    · rw [if_neg e] at k2 ⊢
      exact g2 o k1 k2
  · rw [by0_5] at k2 ⊢
    rw [b2]
    by_cases e : nx = 24 ∧ o < 24 ∧ σ 5 o = x
    · rw [if_pos e] at k2; omega
    · rw [if_neg e] at k2 ⊢
      exact g3 o k1 k2
  · rw [by0_4] at k2 ⊢
    by_cases e : o = x
    · rw [if_pos e] at k2 ⊢
      rcases hn with hn | hn
      · omega
      · rw [hn.1] at k2 ⊢
        rw [e]
        exact Nat.lt_trans (g4 _ y1 k2) (g4 x x1 y1)
    · rw [if_neg e] at k2 ⊢
      exact g4 o k1 k2
  · rw [by0_5] at k2 ⊢
    by_cases e : nx = 24 ∧ o < 24 ∧ σ 5 o = x
    · rw [if_pos e] at k2; omega
    · rw [if_neg e] at k2 ⊢
      have q := g5 o k1 k2
      rw [b2, by0_4]
      by_cases e2 : σ 5 o = x
      · exfalso
        have q1 := q.1
        rw [e2] at q1
        rcases hn with hn | hn
        · exact e ⟨hn, k1, e2⟩
        · exact q.2 (by rw [← q1]; exact hn.2)
      · rw [if_neg e2]
        exact q
  · rw [b2] at k2 k3
    rw [by0_4]
    by_cases e : o = x
    · rw [e] at k2 k3
      have := g6 x x1 k2 k3
      omega
    · rw [if_neg e]
      exact g6 o k1 k2 k3
  · rw [tot_cg (fun k => by0_f (by decide) (by decide))]
    exact g7
  · rw [by0_f (by decide) (by decide)] at k2 ⊢
    exact g8 s k1 k2
theorem nz_by0 (H : HL σ) {x nx : Nat} : NZ (by0 σ x nx) (σ 4 x) := by
  intro o h1 h2 h3
  rw [by0_f (by decide) (by decide)] at h2
  have := H o h1 h2
  rw [hol_yes] at this ⊢
  rcases this with ⟨s, h4, h5⟩ | ⟨k, h4, h5⟩
  · exact Or.inl ⟨s, h4, by rw [by0_f (by decide) (by decide)]; exact h5⟩
  · refine Or.inr ⟨k, h4, ?_⟩
    have hk : k ≠ x := fun e => h3 (by rw [← h5, e])
    rw [by0_4, if_neg hk]
    exact h5
theorem bypS_eq {x nx : Nat} : bypS σ x nx = (relS 24 (by0 σ x nx) (σ 4 x)).2 := rfl
theorem iv_byp (I : IV1 rk σ) {x nx : Nat} (hx : ho σ x = true) (hy : ho σ (σ 4 x) = true) (hn : nx = 24 ∨ (nx = σ 4 (σ 4 x) ∧ σ 2 (σ 4 x) = 0)) : IV1 rk (bypS σ x nx) := iv_rel 24 (iv_by0 I hx hy hn)
theorem byp_x (I : IV1 rk σ) {x nx : Nat} (hx : ho σ x = true) (hy : ho σ (σ 4 x) = true) (hn : nx = 24 ∨ (nx = σ 4 (σ 4 x) ∧ σ 2 (σ 4 x) = 0)) : bypS σ x nx 4 x = nx ∧ bypS σ x nx 2 x = σ 2 x ∧ bypS σ x nx 8 x = σ 8 x := by
  have x1 := (ho_lt hx).1
  have y1 := (ho_lt hy).1
  have I2 := iv_by0 I hx hy hn
  have hr : σ 4 x < 24 → rk (σ 4 x) < rk x := fun h => I.2.2.1 x x1 h
  rw [bypS_eq, rel_keep 24 I2.2.2.1 hr 4 (by simp), rel_keep 24 I2.2.2.1 hr 2 (by simp), rel_keep 24 I2.2.2.1 hr 8 (by simp), by0_4, if_pos rfl, by0_f (by decide) (by decide), by0_f (by decide) (by decide)]
  exact ⟨rfl, rfl, rfl⟩
theorem col_y {x y : Nat} (h : y ≠ x) : ∀ n, colS σ x y n 8 y = σ 8 y
  | 0 => rfl
  | n + 1 => by
    unfold colS
    split
    · rw [show holdS (colS σ x y n) x n (colS σ x y n 6 (8 * y + n)) 8 y = colS σ x y n 8 y by simp [holdS, put, h]]
      exact col_y h n
    · exact col_y h n
theorem col_tot {x y : Nat} (h : y ≠ x) (hx : x < 24) (hy : y < 24) : ∀ n, n ≤ 8 → tot (colS σ x y n) 8 ≤ tot σ 8 + cnt (fun i => (σ 8 y).testBit i) n
  | 0, _ => Nat.le_refl _
  | n + 1, hn => by
    have ih := col_tot h hx hy n (by omega)
    unfold colS
    split
    · rename_i h1
      have h2 := (hd_lt h1.1).2.2
      rw [col_y h] at h2
      rw [tot_hold hx (by omega), cnt_yes (f := fun i => (σ 8 y).testBit i) h2]
      split <;> omega
    · have : cnt (fun i => (σ 8 y).testBit i) n ≤ cnt (fun i => (σ 8 y).testBit i) (n + 1) := Nat.le_add_right _ _
      omega
theorem clp_f {x y f k : Nat} (h8 : f ≠ 8) (h6 : f ≠ 6) (h4 : f ≠ 4) : put (colS σ x y 8) 4 x (σ 4 y) f k = σ f k := by
  rw [put_f h4, col_f h8 h6]
theorem clp_0 {x y k : Nat} : clpS σ x y 0 k = σ 0 k := by
  unfold clpS
  rw [rem_0, clp_f (by decide) (by decide) (by decide)]
theorem clp_2 {x y k : Nat} : clpS σ x y 2 k = if k = y then 4 else σ 2 k := by
  unfold clpS
  rw [rem_2, clp_f (by decide) (by decide) (by decide)]
theorem clp_4 {x y k : Nat} : clpS σ x y 4 k = if k = y then 24 else if k = x then σ 4 y else σ 4 k := by
  unfold clpS
  rw [rem_4]
  by_cases e : k = y
  · rw [if_pos e, if_pos e]
  · rw [if_neg e, if_neg e]
    by_cases e2 : k = x
    · rw [if_pos e2, e2, put_eq]
    · rw [if_neg e2, put_k e2, col_f (by decide) (by decide)]
theorem clp_5 {x y k : Nat} : clpS σ x y 5 k = if k = y then 24 else if k < 24 ∧ σ 5 k = y then x else σ 5 k := by
  unfold clpS
  rw [rem_5, clp_f (by decide) (by decide) (by decide)]
theorem iv_clp (I : IV1 rk σ) (H : HL σ) {x : Nat} (hx : ho σ x = true) (hy : ho σ (σ 4 x) = true) (h2 : σ 2 (σ 4 x) = 0) (h1 : hol σ (σ 4 x) = 1) : IV1 rk (clpS σ x (σ 4 x)) ∧ HL (clpS σ x (σ 4 x)) := by
  obtain ⟨x1, x2⟩ := ho_lt hx
  obtain ⟨y1, y2⟩ := ho_lt hy
  obtain ⟨R, ⟨g1, g2, g3⟩, g4, g5, g6, g7, g8⟩ := I
  have hr := g4 x x1 y1
  have hyx : σ 4 x ≠ x := fun e => by rw [e] at hr; exact Nat.lt_irrefl _ hr
  obtain ⟨n1, n2⟩ := hol_one h1 x1 rfl
  have y8 := (R.2.2.1 _ y1).2.2.2.2.2
  have zy : ∀ {z : Nat}, z = σ 4 (σ 4 x) → z < 24 → z ≠ σ 4 x := fun hz hz2 e => by
    have := g4 _ y1 (by rw [← hz]; exact hz2)
    rw [← hz, e] at this
    exact Nat.lt_irrefl _ this
  constructor
  · refine ⟨rg_clp R hx hy, ⟨fun s k1 k2 => ?_, fun o k1 k2 => ?_, fun o k1 k2 => ?_⟩, fun o k1 k2 => ?_, fun o k1 k2 => ?_, fun o k1 k2 k3 => ?_, ?_, fun s k1 k2 => ?_⟩
    · rw [clp_0] at k2 ⊢
      rw [clp_2, if_neg (n1 s k1)]
      exact g1 s k1 k2
    · rw [clp_4] at k2 ⊢
      by_cases e : o = σ 4 x
      · rw [if_pos e] at k2; omega
      · rw [if_neg e] at k2 ⊢
        by_cases e2 : o = x
        · rw [if_pos e2] at k2 ⊢
          rw [clp_2, if_neg (zy rfl k2)]
          exact g2 _ y1 k2
        · rw [if_neg e2] at k2 ⊢
          rw [clp_2, if_neg (n2 o k1 e2)]
          exact g2 o k1 k2
    · rw [clp_5] at k2 ⊢
      by_cases e : o = σ 4 x
      · rw [if_pos e] at k2; omega
      · rw [if_neg e] at k2 ⊢
        by_cases e2 : o < 24 ∧ σ 5 o = σ 4 x
        · rw [if_pos e2, clp_2, if_neg (Ne.symm hyx)]
          exact x2
        · rw [if_neg e2] at k2 ⊢
          rw [clp_2, if_neg (fun z => e2 ⟨k1, z⟩)]
          exact g3 o k1 k2
    · rw [clp_4] at k2 ⊢
      by_cases e : o = σ 4 x
      · rw [if_pos e] at k2; omega
      · rw [if_neg e] at k2 ⊢
        by_cases e2 : o = x
        · rw [if_pos e2] at k2 ⊢
          rw [e2]
          exact Nat.lt_trans (g4 _ y1 k2) hr
        · rw [if_neg e2] at k2 ⊢
          exact g4 o k1 k2
    · rw [clp_5] at k2 ⊢
      by_cases e : o = σ 4 x
      · rw [if_pos e] at k2; omega
      · rw [if_neg e] at k2 ⊢
        by_cases e2 : o < 24 ∧ σ 5 o = σ 4 x
        · have q := g5 o k1 (by rw [e2.2]; exact y1)
          rw [e2.2] at q
          rw [if_pos e2, clp_4, if_neg (Ne.symm hyx), if_pos rfl, clp_2, if_neg e]
          exact q
        · rw [if_neg e2] at k2 ⊢
          have q := g5 o k1 k2
          rw [clp_4, if_neg (fun z => e2 ⟨k1, z⟩), clp_2, if_neg e]
          by_cases e3 : σ 5 o = x
          · exfalso
            rw [e3] at q
            exact e q.1.symm
          · rw [if_neg e3]
            exact q
    · rw [clp_2] at k2 k3
      rw [clp_4]
      by_cases e : o = σ 4 x
      · rw [if_pos e]
      · rw [if_neg e] at k2 k3 ⊢
        by_cases e2 : o = x
        · have := g6 o k1 k2 k3
          rw [e2] at this
          omega
        · rw [if_neg e2]
          exact g6 o k1 k2 k3
    · have t1 := tot_rem (σ := put (colS σ x (σ 4 x) 8) 4 x (σ 4 (σ 4 x))) (a := σ 4 x) (x := x) y1
      have t2 : tot (put (colS σ x (σ 4 x) 8) 4 x (σ 4 (σ 4 x))) 8 = tot (colS σ x (σ 4 x) 8) 8 := tot_cg fun k => put_f (by decide)
      have t3 := col_tot (σ := σ) hyx x1 y1 8 (Nat.le_refl _)
      have t4 : put (colS σ x (σ 4 x) 8) 4 x (σ 4 (σ 4 x)) 8 (σ 4 x) = σ 8 (σ 4 x) := by
        rw [put_f (by decide), col_y hyx]
      rw [t4, t2] at t1
      rw [← bc_eq (N := 8) (by decide) y8] at t3
      show tot (clpS σ x (σ 4 x)) 8 ≤ 64
      unfold clpS
      omega
    · unfold clpS at k2
      rw [rem_10, clp_f (by decide) (by decide) (by decide)] at k2
      rw [clp_0]
      exact g8 s k1 k2
  · intro o k1 k2
    rw [clp_2] at k2
    have e : o ≠ σ 4 x := fun e => by rw [if_pos e] at k2; omega
    rw [if_neg e] at k2
    have := H o k1 k2
    rw [hol_yes] at this ⊢
    rcases this with ⟨s, h4, h5⟩ | ⟨k, h4, h5⟩
    · exact Or.inl ⟨s, h4, by rw [clp_0]; exact h5⟩
    · by_cases e2 : k = σ 4 x
      · refine Or.inr ⟨x, x1, ?_⟩
        rw [clp_4, if_neg (Ne.symm hyx), if_pos rfl, ← e2]
        exact h5
      · refine Or.inr ⟨k, h4, ?_⟩
        have e3 : k ≠ x := fun e3 => e (by rw [← h5, e3])
        rw [clp_4, if_neg e2, if_neg e3]
        exact h5
theorem clp_x (I : IV1 rk σ) {x : Nat} (hx : ho σ x = true) (hy : ho σ (σ 4 x) = true) : clpS σ x (σ 4 x) 4 x = σ 4 (σ 4 x) ∧ clpS σ x (σ 4 x) 2 x = σ 2 x := by
  obtain ⟨x1, x2⟩ := ho_lt hx
  obtain ⟨y1, y2⟩ := ho_lt hy
  have hr := I.2.2.1 x x1 y1
  have hyx : σ 4 x ≠ x := fun e => by rw [e] at hr; exact Nat.lt_irrefl _ hr
  rw [clp_4, if_neg (Ne.symm hyx), if_pos rfl, clp_2, if_neg (Ne.symm hyx)]
  exact ⟨rfl, rfl⟩
end IVR
