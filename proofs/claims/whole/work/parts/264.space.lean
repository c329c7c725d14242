/-! a space told as a text -/
def spB (tx : Nat → Nat) (i : Nat) : Bool := if i = 0 then decide (48 ≤ tx 0) && decide (tx 0 ≤ 51) else if i = 1 then dgc (tx 1) else if i % 2 = 0 then (dgc (tx i) || decide (tx i = 46)) else if tx (i - 1) = 46 then decide (tx i = 46) else dgc (tx i)
theorem spB_e (tx : Nat → Nat) (p : Nat) : spB tx (2 + 2 * p) = (dgc (tx (2 + 2 * p)) || decide (tx (2 + 2 * p) = 46)) := by
  unfold spB
  rw [if_neg (by omega), if_neg (by omega), if_pos (by omega)]
theorem spB_o (tx : Nat → Nat) (p : Nat) : spB tx (3 + 2 * p) = if tx (2 + 2 * p) = 46 then decide (tx (3 + 2 * p) = 46) else dgc (tx (3 + 2 * p)) := by
  unfold spB
  rw [if_neg (by omega), if_neg (by omega), if_neg (by omega), show 3 + 2 * p - 1 = 2 + 2 * p by omega]
/-- where the pages of a text go wrong -/
def spP (tx : Nat → Nat) (n : Nat) : Nat → Nat → Nat
  | 0, _ => if 18 < n then 18 else BIG
  | m + 1, p => if n ≤ 2 + 2 * p then BIG else if ¬ spB tx (2 + 2 * p) = true then 2 + 2 * p else if n ≤ 3 + 2 * p ∨ ¬ spB tx (3 + 2 * p) = true then 3 + 2 * p else spP tx n m (p + 1)
def spF (tx : Nat → Nat) (n : Nat) : Nat := if n = 0 ∨ ¬ spB tx 0 = true then 0 else if n = 1 ∨ ¬ spB tx 1 = true then 1 else spP tx n 8 0
theorem spP_r (tx : Nat → Nat) (n : Nat) : ∀ m p, p + m = 8 → spP tx n m p = BIG ∨ spP tx n m p ≤ 18
  | 0, p, e => by
    unfold spP
    split
    · exact Or.inr (Nat.le_refl _)
    · exact Or.inl rfl
  | m + 1, p, e => by
    unfold spP
    split
    · exact Or.inl rfl
    · split
      · exact Or.inr (by omega)
      · split
        · exact Or.inr (by omega)
        · exact spP_r tx n m (p + 1) (by omega)
theorem spF_r (tx : Nat → Nat) (n : Nat) : spF tx n = BIG ∨ spF tx n ≤ 18 := by
  unfold spF
  split
  · exact Or.inr (by omega)
  · split
    · exact Or.inr (by omega)
    · exact spP_r tx n 8 0 rfl
def SPK (tx : Nat → Nat) (n M : Nat) : Prop := n = 2 + 2 * M ∧ M ≤ 8 ∧ spB tx 0 = true ∧ spB tx 1 = true ∧ ∀ p, p < M → spB tx (2 + 2 * p) = true ∧ spB tx (3 + 2 * p) = true
theorem spP_ok {tx : Nat → Nat} {n : Nat} : ∀ m p, p + m = 8 → 2 + 2 * p ≤ n → spP tx n m p = BIG → ∃ M, p ≤ M ∧ M ≤ 8 ∧ n = 2 + 2 * M ∧ ∀ j, p ≤ j → j < M → spB tx (2 + 2 * j) = true ∧ spB tx (3 + 2 * j) = true
  | 0, p, e, hp, h => by
    unfold spP at h
    have : ¬ 18 < n := fun z => by
      rw [if_pos z] at h
      exact absurd h (by decide)
    exact ⟨8, by omega, by omega, by omega, fun j h1 h2 => by omega⟩
  | m + 1, p, e, hp, h => by
    have b2 : ∀ x, x ≤ 100 → ¬ x = BIG := fun x hx => big_40 hx
    unfold spP at h
    by_cases z1 : n ≤ 2 + 2 * p
    · exact ⟨p, Nat.le_refl _, by omega, by omega, fun j h1 h2 => by omega⟩
    · rw [if_neg z1] at h
      by_cases z2 : spB tx (2 + 2 * p) = true
      · rw [if_neg (fun y => y z2)] at h
        by_cases z3 : n ≤ 3 + 2 * p ∨ ¬ spB tx (3 + 2 * p) = true
        · rw [if_pos z3] at h
          exact absurd h (b2 _ (by omega))
        · rw [if_neg z3] at h
          have z3' : spB tx (3 + 2 * p) = true := Classical.byContradiction fun y => z3 (Or.inr y)
          obtain ⟨M, k1, k2, k3, k4⟩ := spP_ok m (p + 1) (by omega) (by have := fun y => z3 (Or.inl y); omega) h
          refine ⟨M, by omega, k2, k3, fun j h1 h2 => ?_⟩
          by_cases y : j = p
          · rw [y]; exact ⟨z2, z3'⟩
          · exact k4 j (by omega) h2
      · rw [if_pos z2] at h
        exact absurd h (b2 _ (by omega))
theorem spF_ok {tx : Nat → Nat} {n : Nat} (h : spF tx n = BIG) : ∃ M, SPK tx n M := by
  unfold spF at h
  by_cases z1 : n = 0 ∨ ¬ spB tx 0 = true
  · rw [if_pos z1] at h
    exact absurd h (by decide)
  · rw [if_neg z1] at h
    by_cases z2 : n = 1 ∨ ¬ spB tx 1 = true
    · rw [if_pos z2] at h
      exact absurd h (by decide)
    · rw [if_neg z2] at h
      obtain ⟨M, k1, k2, k3, k4⟩ := spP_ok 8 0 rfl (by have := fun y => z1 (Or.inl y); have := fun y => z2 (Or.inl y); omega) h
      exact ⟨M, k3, k2, Classical.byContradiction fun y => z1 (Or.inr y), Classical.byContradiction fun y => z2 (Or.inr y), fun p hp => k4 p (Nat.zero_le _) hp⟩
theorem dg_r {c : Nat} (h : dgc c = true) : 48 ≤ c ∧ c ≤ 57 := by
  have := dgc_r h
  omega
/-- the value of a page, if it is told one -/
def spV (tx : Nat → Nat) (p : Nat) : Nat := 10 * (tx (2 + 2 * p) - 48) + (tx (3 + 2 * p) - 48)
abbrev spN (tx : Nat → Nat) (p : Nat) : Prop := tx (2 + 2 * p) = 46
def spH (tx : Nat → Nat) : Nat → Nat
  | 0 => 0
  | p + 1 => spH tx p + (if spN tx p then 0 else 1)
theorem spH_le (tx : Nat → Nat) : ∀ p, spH tx p ≤ p
  | 0 => Nat.le_refl _
  | p + 1 => by
    have := spH_le tx p
    unfold spH
    split <;> omega
theorem spH_mono (tx : Nat → Nat) {p : Nat} : ∀ j, spH tx p ≤ spH tx (p + j)
  | 0 => Nat.le_refl _
  | j + 1 => Nat.le_trans (spH_mono tx j) (Nat.le_add_right _ _)
theorem sp_two {tx : Nat → Nat} {n M p : Nat} (K : SPK tx n M) (hp : p < M) : (spN tx p ∧ tx (3 + 2 * p) = 46) ∨ (¬ spN tx p ∧ (48 ≤ tx (2 + 2 * p) ∧ tx (2 + 2 * p) ≤ 57) ∧ (48 ≤ tx (3 + 2 * p) ∧ tx (3 + 2 * p) ≤ 57)) := by
  obtain ⟨k1, k2⟩ := K.2.2.2.2 p hp
  rw [spB_e] at k1
  rw [spB_o] at k2
  by_cases z : tx (2 + 2 * p) = 46
  · rw [if_pos z] at k2
    exact Or.inl ⟨z, of_decide_eq_true k2⟩
  · rw [if_neg z] at k2
    rw [decide_eq_false z, Bool.or_false] at k1
    exact Or.inr ⟨z, dg_r k1, dg_r k2⟩
theorem sp_v {tx : Nat → Nat} {n M p : Nat} (K : SPK tx n M) (hp : p < M) : spV tx p < 100 ∨ spN tx p := by
  rcases sp_two K hp with ⟨z, -⟩ | ⟨-, h1, h2⟩
  · exact Or.inr z
  · left
    unfold spV
    omega
/-- the world: an object comes, holds; its space -/
def spS (tx : Nat → Nat) (w : ST) : Nat → ST
  | 0 => comeS w (frO w) (tx 0 - 48) (tx 1 - 48)
  | p + 1 => if spN tx p then spS tx w p else holdS (spS tx w p) (frO w) p (spV tx p)
def spZ (tx : Nat → Nat) (w : ST) (p : Nat) : ST := put (put (spS tx w p) 1 1 (bset (spS tx w p 1 1) (frS w))) 0 (frS w) (frO w)
theorem spS_f {tx : Nat → Nat} {w : ST} {f k : Nat} (h8 : f ≠ 8) (h6 : f ≠ 6) : ∀ p, spS tx w p f k = comeS w (frO w) (tx 0 - 48) (tx 1 - 48) f k
  | 0 => rfl
  | p + 1 => by
    unfold spS
    split
    · exact spS_f h8 h6 p
    · rw [hold_f h8 h6]
      exact spS_f h8 h6 p
theorem spZ_s {tx : Nat → Nat} {w : ST} (p : Nat) : spZ tx w (p + 1) = if spN tx p then spZ tx w p else holdS (spZ tx w p) (frO w) p (spV tx p) := by
  have e : spS tx w (p + 1) = if spN tx p then spS tx w p else holdS (spS tx w p) (frO w) p (spV tx p) := rfl
  by_cases z : spN tx p
  · rw [if_pos z] at e ⊢
    unfold spZ
    rw [e]
  · rw [if_neg z] at e ⊢
    have e11 : spS tx w (p + 1) 1 1 = spS tx w p 1 1 := by rw [e, hold_f (by decide) (by decide)]
    unfold spZ
    rw [e11, e]
    generalize spS tx w p = σ
    generalize bset (σ 1 1) (frS w) = b
    funext f k
    by_cases f8 : f = 8
    · subst f8
      simp [holdS, put]
    · by_cases f6 : f = 6
      · subst f6
        simp [holdS, put]
      · rw [hold_f f8 f6]
        by_cases f0 : f = 0
        · subst f0
          by_cases ks : k = frS w
          · subst ks
            rw [put_eq, put_eq]
          · rw [put_k ks, put_k ks, put_f (by decide), put_f (by decide), hold_f (by decide) (by decide)]
        · rw [put_f f0, put_f f0]
          by_cases f1 : f = 1 ∧ k = 1
          · obtain ⟨rfl, rfl⟩ := f1
            rw [put_eq, put_eq]
          · have : ∀ τ : ST, put τ 1 1 b f k = τ f k := fun τ => by simp [put, f1]
            rw [this, this, hold_f f8 f6]
theorem inv_nw {w : ST} (I : INV w) {pg dg : Nat} (hO : frO w < 24) (hS : frS w < 6) (hp : pg < 4) (hd : dg ≤ 9) : INV (put (put (comeS w (frO w) pg dg) 1 1 (bset (comeS w (frO w) pg dg 1 1) (frS w))) 0 (frS w) (frO w)) := by
  have RC := rg_come I.rg hO hp hd (frO_spec I.rg hO)
  have RF := rg_newS RC hS hO
  have fS := frS_spec I.rg hS
  obtain ⟨rk, ⟨R, ⟨g1, g2, g3⟩, g4, g5, g6, g7, g8⟩, H⟩ := I
  obtain ⟨m2, m4, m5, m7, m8⟩ := fro_miss R hO
  have n0 : ∀ k, put (put (comeS w (frO w) pg dg) 1 1 (bset (comeS w (frO w) pg dg 1 1) (frS w))) 0 (frS w) (frO w) 0 k = if k = frS w then frO w else w 0 k := fun k => by
    by_cases e : k = frS w
    · rw [if_pos e, e, put_eq]
    · rw [if_neg e, put_k e]
      simp [comeS, put]
  have n2 : ∀ k, put (put (comeS w (frO w) pg dg) 1 1 (bset (comeS w (frO w) pg dg 1 1) (frS w))) 0 (frS w) (frO w) 2 k = if k = frO w then pg else w 2 k := fun k => by simp [comeS, put]
  have n4 : ∀ k, put (put (comeS w (frO w) pg dg) 1 1 (bset (comeS w (frO w) pg dg 1 1) (frS w))) 0 (frS w) (frO w) 4 k = w 4 k := fun k => by simp [comeS, put]
  have n5 : ∀ k, put (put (comeS w (frO w) pg dg) 1 1 (bset (comeS w (frO w) pg dg 1 1) (frS w))) 0 (frS w) (frO w) 5 k = w 5 k := fun k => by simp [comeS, put]
  have n8 : ∀ k, put (put (comeS w (frO w) pg dg) 1 1 (bset (comeS w (frO w) pg dg 1 1) (frS w))) 0 (frS w) (frO w) 8 k = w 8 k := fun k => by simp [comeS, put]
  have n10 : put (put (comeS w (frO w) pg dg) 1 1 (bset (comeS w (frO w) pg dg 1 1) (frS w))) 0 (frS w) (frO w) 1 0 = w 1 0 := by simp [comeS, put]
  generalize put (put (comeS w (frO w) pg dg) 1 1 (bset (comeS w (frO w) pg dg 1 1) (frS w))) 0 (frS w) (frO w) = τ at *
  have nt : ∀ {x : Nat}, w 2 x < 4 → x ≠ frO w := fun h e => by rw [e] at h; omega
  refine ⟨rk, ⟨RF, ⟨fun t k1 k2 => ?_, fun o k1 k2 => ?_, fun o k1 k2 => ?_⟩, fun o k1 k2 => ?_, fun o k1 k2 => ?_, fun o k1 k2 k3 => ?_, ?_, fun t k1 k2 => ?_⟩, fun o k1 k2 => ?_⟩
  · rw [n0] at k2 ⊢
    rw [n2]
    by_cases e : t = frS w
    · rw [if_pos e, if_pos rfl]; exact hp
    · rw [if_neg e] at k2 ⊢
      have := g1 t k1 k2
      rw [if_neg (nt this)]
      exact this
  · rw [n4] at k2 ⊢
    rw [n2]
    have := g2 o k1 k2
    rw [if_neg (nt this)]
    exact this
  · rw [n5] at k2 ⊢
    rw [n2]
    have := g3 o k1 k2
    rw [if_neg (nt this)]
    exact this
  · rw [n4] at k2 ⊢
    exact g4 o k1 k2
  · rw [n5] at k2 ⊢
    have q := g5 o k1 k2
    rw [n4, n2]
    have e : o ≠ frO w := fun e => by rw [e] at k2; omega
    rw [if_neg e]
    exact q
  · rw [n2] at k2 k3
    rw [n4]
    by_cases e : o = frO w
    · rw [e]; exact m4
    · rw [if_neg e] at k2 k3
      exact g6 o k1 k2 k3
  · rw [tot_cg n8]
    exact g7
  · rw [n10] at k2
    rw [n0]
    by_cases e : t = frS w
    · rw [if_pos e]; exact hO
    · rw [if_neg e]; exact g8 t k1 k2
  · rw [n2] at k2
    rw [hol_yes]
    by_cases e : o = frO w
    · exact Or.inl ⟨frS w, hS, by rw [n0, if_pos rfl, e]⟩
    · rw [if_neg e] at k2
      have := H o k1 k2
      rw [hol_yes] at this
      rcases this with ⟨t, h4, h5⟩ | ⟨k, h4, h5⟩
      · have e2 : t ≠ frS w := fun e2 => by rw [e2] at h5; omega
        exact Or.inl ⟨t, h4, by rw [n0, if_neg e2]; exact h5⟩
      · exact Or.inr ⟨k, h4, by rw [n4]; exact h5⟩
theorem spZ_8 {tx : Nat → Nat} {w : ST} (R : RG w) (hO : frO w < 24) : ∀ p j, p ≤ j → (spZ tx w p 8 (frO w)).testBit j = false
  | 0, j, _ => by
    have : spZ tx w 0 8 (frO w) = w 8 (frO w) := by simp [spZ, spS, comeS, put]
    rw [this, (fro_miss R hO).2.2.2.2]
    exact Nat.zero_testBit j
  | p + 1, j, h => by
    rw [spZ_s]
    split
    · exact spZ_8 R hO p j (by omega)
    · have : holdS (spZ tx w p) (frO w) p (spV tx p) 8 (frO w) = bset (spZ tx w p 8 (frO w)) p := by simp [holdS, put]
      rw [this, bset_tb, spZ_8 R hO p j (by omega), decide_eq_false (by omega)]
      rfl
theorem spZ_i {tx : Nat → Nat} {w : ST} {n M : Nat} (I : INV w) (K : SPK tx n M) (hO : frO w < 24) (hS : frS w < 6) (ht : tot w 8 + spH tx M ≤ 64) : ∀ p, p ≤ M → INV (spZ tx w p) ∧ tot (spZ tx w p) 8 = tot w 8 + spH tx p ∧ ho (spZ tx w p) (frO w) = true
  | 0, _ => by
    have h0 := K.2.2.1
    have h1 := K.2.2.2.1
    have p0 : tx 0 - 48 < 4 := by
      unfold spB at h0
      rw [if_pos rfl] at h0
      simp at h0
      omega
    have p1 : tx 1 - 48 ≤ 9 := by
      unfold spB at h1
      rw [if_neg (by decide), if_pos rfl] at h1
      have := dg_r h1
      omega
    refine ⟨inv_nw I hO hS p0 p1, ?_, ?_⟩
    · have e : tot (spZ tx w 0) 8 = tot w 8 := tot_cg (fun k => by simp [spZ, spS, comeS, put])
      rw [e]
      rfl
    · refine ho_of hO ?_
      simpa [spZ, spS, comeS, put] using p0
  | p + 1, hp => by
    obtain ⟨i1, i2, i3⟩ := spZ_i I K hO hS ht p (by omega)
    have hm := spH_mono tx (p := p + 1) (M - (p + 1))
    rw [show p + 1 + (M - (p + 1)) = M by omega] at hm
    have hh : spH tx (p + 1) = spH tx p + (if spN tx p then 0 else 1) := rfl
    have hMp := K.2.1
    rw [spZ_s]
    by_cases z : spN tx p
    · rw [if_pos z] at hh ⊢
      exact ⟨i1, by rw [hh]; exact i2, i3⟩
    · rw [if_neg z] at hh ⊢
      have tv := (sp_v K (show p < M by omega)).resolve_right z
      have te : tot (holdS (spZ tx w p) (frO w) p (spV tx p)) 8 = tot w 8 + spH tx (p + 1) := by
        rw [tot_hold hO (by omega), spZ_8 I.rg hO p p (Nat.le_refl _), if_neg (by decide), i2, hh]
        omega
      refine ⟨inv_hold i1 i3 (by omega) tv (by omega), te, ?_⟩
      obtain ⟨q1, q2⟩ := ho_lt i3
      exact ho_of hO (by rw [hold_f (by decide) (by decide)]; exact q2)
theorem spS_rg {tx : Nat → Nat} {w : ST} {n M : Nat} (R : RG w) (K : SPK tx n M) (hO : frO w < 24) : ∀ p, p ≤ M → RG (spS tx w p) ∧ ho (spS tx w p) (frO w) = true
  | 0, _ => by
    have h0 := K.2.2.1
    have h1 := K.2.2.2.1
    have p0 : tx 0 - 48 < 4 := by
      unfold spB at h0
      rw [if_pos rfl] at h0
      simp at h0
      omega
    have p1 : tx 1 - 48 ≤ 9 := by
      unfold spB at h1
      rw [if_neg (by decide), if_pos rfl] at h1
      have := dg_r h1
      omega
    exact ⟨rg_come R hO p0 p1 (frO_spec R hO), ho_of hO (by simpa [spS, comeS, put] using p0)⟩
  | p + 1, hp => by
    obtain ⟨i1, i2⟩ := spS_rg R K hO p (by omega)
    have e : spS tx w (p + 1) = if spN tx p then spS tx w p else holdS (spS tx w p) (frO w) p (spV tx p) := rfl
    have hMp := K.2.1
    rw [e]
    by_cases z : spN tx p
    · rw [if_pos z]; exact ⟨i1, i2⟩
    · rw [if_neg z]
      have tv := (sp_v K (show p < M by omega)).resolve_right z
      obtain ⟨q1, q2⟩ := ho_lt i2
      exact ⟨rg_hold i1 i2 (by omega) tv, ho_of hO (by rw [hold_f (by decide) (by decide)]; exact q2)⟩
theorem spS_S {tx : Nat → Nat} {w : ST} {p : Nat} : frS (spS tx w p) = frS w ∧ spS tx w p 1 1 = w 1 1 := by
  have : spS tx w p 1 1 = w 1 1 := by
    rw [spS_f (by decide) (by decide)]
    simp [comeS, put]
  exact ⟨by unfold frS; rw [this], this⟩
/-- how many pages -/
def spM (n : Nat) : Nat := (n - 2) / 2
def sppA (tx : Nat → Nat) (w : ST) (n : Nat) : Nat := if spF tx n = BIG then (if frS w < 6 then (if frO w < 24 then (if tot w 8 + spH tx (spM n) ≤ 64 then frS w else 4294967194) else 4294967195) else 4294967196) else 4294967295 - spF tx n
def spO (tx : Nat → Nat) (w : ST) (n : Nat) : Bool := decide (spF tx n = BIG ∧ frS w < 6 ∧ frO w < 24 ∧ tot w 8 + spH tx (spM n) ≤ 64)
def spW (tx : Nat → Nat) (w : ST) (n : Nat) : ST := if spO tx w n = true then spZ tx w (spM n) else w
theorem spM_ok {tx : Nat → Nat} {n : Nat} (h : spF tx n = BIG) : SPK tx n (spM n) := by
  obtain ⟨M, K⟩ := spF_ok h
  have : spM n = M := by
    have := K.1
    unfold spM
    omega
  rw [this]
  exact K
theorem inv_sp {tx : Nat → Nat} {w : ST} {n : Nat} (I : INV w) : INV (spW tx w n) := by
  unfold spW
  by_cases z : spO tx w n = true
  · rw [if_pos z]
    obtain ⟨h1, h2, h3, h4⟩ := of_decide_eq_true z
    exact (spZ_i I (spM_ok h1) h3 h2 h4 _ (Nat.le_refl _)).1
  · rw [if_neg z]
    exact I
section SPC
variable {h g : AH} {mk : Nat} {tx : Nat → Nat} {len : Nat} {w : ST} {un : Nat} {us : Nat → ST} {kp : Nat → Bool} {ks : Nat → ST} {C : List Nat} {ρ : Nat → Nat} {rn : Nat} {row : List Int64} {hq : List (Nat × Nat)} {sq : List (Nat × Nat × Bool)}
theorem c_sgnAt (W : CIk h mk tx 0 w un us kp ks C row hq sq) (T : TC h 1 tx len) {i : Nat} (hi : i < len) : fX10_signAt h 0 (J i) = some (J (tx i)) ∧ tx i < 256 := by
  obtain ⟨t1, t2⟩ := tc_at T hi
  obtain ⟨a1, a2⟩ := tc_l T
  refine ⟨?_, t2⟩
  unfold fX10_signAt
  rw [if_pos (x_h W.1), if_neg (J_neg (by omega)), x_0 W.1, Option.bind_some, a1, Option.bind_some, if_neg (fun y => by rw [J_le (by omega) (by omega)] at y; omega), Option.bind_some, t1, Option.bind_some, ch_J (by omega), Option.bind_some]
theorem l_46 : (46 : Int32) = J 46 := rfl
theorem l_51 : (51 : Int32) = J 51 := rfl
theorem c_stands (W : CIk h mk tx 0 w un us kp ks C row hq sq) (T : TC h 1 tx len) {i : Nat} (hi : i < len) : fX10_standsInSpace h 0 (J i) = some (spB tx i) := by
  obtain ⟨e, hc⟩ := c_sgnAt W T hi
  have l80 := (tc_l T).2
  unfold fX10_standsInSpace spB
  rw [if_pos (x_h W.1), e, Option.bind_some]
  by_cases i0 : i = 0
  · subst i0
    rw [if_pos (show J 0 = 0 from rfl), if_pos rfl, l_48, l_51]
    by_cases h1 : 48 ≤ tx 0
    · rw [if_neg (fun y => by rw [J_lt (by omega) (by omega)] at y; omega), decide_eq_true h1]
      by_cases h2 : tx 0 ≤ 51
      · rw [if_neg (fun y => by rw [J_lt (by omega) (by omega)] at y; omega), decide_eq_true h2]; rfl
      · rw [if_pos (by rw [J_lt (by omega) (by omega)]; omega), decide_eq_false h2]; rfl
    · rw [if_pos (by rw [J_lt (by omega) (by omega)]; omega), decide_eq_false h1]; rfl
  · rw [if_neg (fun y => i0 (by rw [l_0] at y; exact (J_inj (by omega) (by decide)).1 y)), if_neg i0]
    by_cases i1 : i = 1
    · subst i1
      rw [if_pos (show J 1 = 1 from rfl), if_pos rfl, c_isDig hc, Option.bind_some]
    · have jr : jrem (J i) 2 = some (J (i % 2)) := jrem_J (by omega) (by decide) (by decide)
      rw [if_neg (fun y => i1 (by rw [l_1] at y; exact (J_inj (by omega) (by decide)).1 y)), if_neg i1, jr, Option.bind_some]
      have m2 : i % 2 < 2 := Nat.mod_lt _ (by decide)
      have c0 : J (i % 2) = 0 ↔ i % 2 = 0 := by rw [l_0]; exact J_inj (by omega) (by decide)
      have c46 : J (tx i) = 46 ↔ tx i = 46 := by rw [l_46]; exact J_inj (by omega) (by decide)
      by_cases ev : i % 2 = 0
      · rw [if_pos (c0.2 ev), if_pos ev, c_isDig hc, Option.bind_some]
        by_cases d : dgc (tx i) = true
        · rw [if_pos d, d]; rfl
        · have d' : dgc (tx i) = false := by simpa using d
          rw [if_neg d, d', Bool.false_or]
          by_cases z : tx i = 46
          · rw [if_pos (c46.2 z), decide_eq_true z]
          · rw [if_neg (fun y => z (c46.1 y)), decide_eq_false z]
      · rw [if_neg (fun y => ev (c0.1 y)), if_neg ev]
        obtain ⟨e2, hc2⟩ := c_sgnAt W T (i := i - 1) (by omega)
        have c46' : J (tx (i - 1)) = 46 ↔ tx (i - 1) = 46 := by rw [l_46]; exact J_inj (by omega) (by decide)
        rw [l_1, J_sub (by omega), e2, Option.bind_some]
        by_cases z0 : tx (i - 1) = 46
        · rw [if_pos (c46'.2 z0), if_pos z0]
          by_cases z : tx i = 46
          · rw [if_pos (c46.2 z), decide_eq_true z]
          · rw [if_neg (fun y => z (c46.1 y)), decide_eq_false z]
        · rw [if_neg (fun y => z0 (c46'.1 y)), if_neg z0, c_isDig hc, Option.bind_some]
theorem c_spJ {x : Nat} (hx : x ≤ 80) : fX10_wrongSpaceSign_J29 h (J x) = some (J (if 18 < x then 18 else if x < 2 ∨ x % 2 = 1 then x else BIG)) := by
  unfold fX10_wrongSpaceSign_J29
  have jr : jrem (J x) 2 = some (J (x % 2)) := jrem_J (by omega) (by decide) (by decide)
  have m2 : x % 2 < 2 := Nat.mod_lt _ (by decide)
  rw [l_18]
  by_cases z : 18 < x
  · rw [if_neg (fun y => by rw [J_le (by omega) (by omega)] at y; omega), if_pos z]
  · rw [if_pos (by rw [J_le (by omega) (by omega)]; omega), if_neg z]
    by_cases z2 : x < 2
    · rw [if_pos (by rw [l_2, J_lt (by omega) (by decide)]; omega), if_pos (Or.inl z2)]
    · rw [if_neg (fun y => by rw [l_2, J_lt (by omega) (by decide)] at y; omega), jr, Option.bind_some]
      by_cases z3 : x % 2 = 1
      · rw [if_pos (by rw [z3]; rfl), if_pos (Or.inr z3)]
      · rw [if_neg (fun y => z3 (by rw [l_1] at y; exact (J_inj (by omega) (by decide)).1 y)), if_neg (fun y => y.elim z2 z3)]
        rfl
theorem c_spW1 (W : CIk h mk tx 0 w un us kp ks C row hq sq) (T : TC h 1 tx len) (K : Int32 → Option Int32) {i q : Nat} (hi : i < len) (h18 : i < 18) : fX10_wrongSpaceSign_L2 h K (q + 1) 0 (J len) (J i) = if spB tx i = true then fX10_wrongSpaceSign_L2 h K q 0 (J len) (J (i + 1)) else some (J i) := by
  have l80 := (tc_l T).2
  have e1 : J i + 1 = J (i + 1) := by rw [l_1, J_add]
  rw [fX10_wrongSpaceSign_L2, if_neg (fun y => by rw [J_le (by omega) (by omega)] at y; omega), if_neg (fun y => by rw [l_18, J_le (by decide) (by omega)] at y; omega), c_stands W T hi, Option.bind_some]
  simp only [letF, e1]
theorem c_spW0 {K : Int32 → Option Int32} {i q : Nat} (hl : len ≤ 80) (hi : len ≤ i ∨ 18 ≤ i) (h80 : i ≤ 80) : fX10_wrongSpaceSign_L2 h K (q + 1) 0 (J len) (J i) = K (J len) := by
  rw [fX10_wrongSpaceSign_L2]
  by_cases z : len ≤ i
  · rw [if_pos (by rw [J_le (by omega) (by omega)]; omega)]
  · rw [if_neg (fun y => by rw [J_le (by omega) (by omega)] at y; omega), if_pos (by rw [l_18, J_le (by decide) (by omega)]; omega)]
theorem c_spP (W : CIk h mk tx 0 w un us kp ks C row hq sq) (T : TC h 1 tx len) : ∀ m p q, p + m = 8 → 2 + 2 * p ≤ len → 2 * m < q → fX10_wrongSpaceSign_L2 h (fun x4 => fX10_wrongSpaceSign_J29 h x4) q 0 (J len) (J (2 + 2 * p)) = some (J (spP tx len m p))
  | 0, p, q + 1, e, hp, _ => by
    have l80 := (tc_l T).2
    rw [c_spW0 l80 (by omega) (by omega)]
    show fX10_wrongSpaceSign_J29 h (J len) = _
    rw [c_spJ l80]
    unfold spP
    by_cases z : 18 < len
    · rw [if_pos z, if_pos z]
    · rw [if_neg z, if_neg z, if_neg (by omega)]
  | m + 1, p, q + 1, e, hp, hq' => by
    have l80 := (tc_l T).2
    unfold spP
    by_cases z1 : len ≤ 2 + 2 * p
    · rw [c_spW0 l80 (Or.inl z1) (by omega), if_pos z1]
      show fX10_wrongSpaceSign_J29 h (J len) = _
      rw [c_spJ l80, if_neg (by omega), if_neg (by omega)]
    · rw [if_neg z1, c_spW1 W T _ (by omega) (by omega)]
      by_cases z2 : spB tx (2 + 2 * p) = true
      · rw [if_pos z2, if_neg (fun y => y z2), show 2 + 2 * p + 1 = 3 + 2 * p by omega]
        obtain ⟨q, rfl⟩ : ∃ z, q = z + 1 := ⟨q - 1, by omega⟩
        by_cases z3 : len ≤ 3 + 2 * p
        · rw [c_spW0 l80 (Or.inl z3) (by omega), if_pos (Or.inl z3)]
          show fX10_wrongSpaceSign_J29 h (J len) = _
          rw [c_spJ l80, if_neg (by omega), if_pos (by omega), show len = 3 + 2 * p by omega]
        · rw [c_spW1 W T _ (by omega) (by omega)]
          by_cases z4 : spB tx (3 + 2 * p) = true
          · rw [if_pos z4, if_neg (fun y => y.elim z3 (fun x => x z4)), show 3 + 2 * p + 1 = 2 + 2 * (p + 1) by omega]
            exact c_spP W T m (p + 1) q (by omega) (by omega) (by omega)
          · rw [if_neg z4, if_pos (Or.inr z4)]
      · rw [if_neg z2, if_pos z2]
theorem c_spF (W : CIk h mk tx 0 w un us kp ks C row hq sq) (T : TC h 1 tx len) : fX10_wrongSpaceSign h 0 (J len) = some (J (spF tx len)) := by
  have l80 := (tc_l T).2
  have hF : FU = 4094 + 1 + 1 := rfl
  unfold fX10_wrongSpaceSign spF
  rw [if_pos (x_h W.1), hF, l_0]
  by_cases z0 : len = 0
  · rw [c_spW0 l80 (by omega) (by omega), if_pos (Or.inl z0)]
    show fX10_wrongSpaceSign_J29 h (J len) = _
    rw [c_spJ l80, if_neg (by omega), if_pos (by omega), z0]
  · rw [c_spW1 W T _ (by omega) (by omega)]
    by_cases z1 : spB tx 0 = true
    · rw [if_pos z1, if_neg (fun y => y.elim z0 (fun x => x z1)), Nat.zero_add]
      by_cases z2 : len = 1
      · rw [c_spW0 l80 (by omega) (by omega), if_pos (Or.inl z2)]
        show fX10_wrongSpaceSign_J29 h (J len) = _
        rw [c_spJ l80, if_neg (by omega), if_pos (by omega), z2]
      · rw [c_spW1 W T _ (by omega) (by omega)]
        by_cases z3 : spB tx 1 = true
        · rw [if_pos z3, if_neg (fun y => y.elim z2 (fun x => x z3))]
          exact c_spP W T 8 0 4094 rfl (by omega) (by decide)
        · rw [if_neg z3, if_pos (Or.inr z3)]
    · rw [if_neg z1, if_pos (Or.inr z1)]
theorem c_toldP (W : CIk h mk tx 0 w un us kp ks C row hq sq) (T : TC h 1 tx len) {M : Nat} (K : SPK tx len M) : fX10_toldPages h 0 (J len) = some (J (spH tx M)) := by
  have l80 := (tc_l T).2
  obtain ⟨k1, k2, -⟩ := K
  have e : ∀ m p q, p + m = M → m < q → fX10_toldPages_L4 h q 0 (J len) (J (spH tx p)) (J (2 + 2 * p)) = some (J (spH tx M)) := by
    intro m
    induction m with
    | zero =>
      intro p q hp hq'
      obtain ⟨q, rfl⟩ : ∃ z, q = z + 1 := ⟨q - 1, by omega⟩
      rw [fX10_toldPages_L4, l_1, J_add, if_pos (by rw [J_le (by omega) (by omega)]; omega), show p = M by omega]
    | succ m ih =>
      intro p q hp hq'
      obtain ⟨q, rfl⟩ : ∃ z, q = z + 1 := ⟨q - 1, by omega⟩
      obtain ⟨e0, hc⟩ := c_sgnAt W T (i := 2 + 2 * p) (by omega)
      have e2 : J (2 + 2 * p) + 2 = J (2 + 2 * (p + 1)) := by rw [l_2, J_add]; rfl
      have c46 : J (tx (2 + 2 * p)) = 46 ↔ tx (2 + 2 * p) = 46 := by rw [l_46]; exact J_inj (by omega) (by decide)
      have es : spH tx (p + 1) = spH tx p + (if spN tx p then 0 else 1) := rfl
      have i2 := ih (p + 1) q (by omega) (by omega)
      have a0 : J (spH tx p) + 0 = J (spH tx p) := by rw [l_0, J_add]; rfl
      have a1 : J (spH tx p) + 1 = J (spH tx p + 1) := by rw [l_1, J_add]
      rw [fX10_toldPages_L4, l_1, J_add, if_neg (fun y => by rw [J_le (by omega) (by omega)] at y; omega), e0, Option.bind_some, ← l_1]
      unfold fX10_toldPages_J27
      by_cases z : tx (2 + 2 * p) = 46
      · rw [if_pos (show spN tx p from z)] at es
        rw [es] at i2
        rw [if_pos (c46.2 z)]
        simp only [letF, e2, a0]
        exact i2
      · rw [if_neg (show ¬ spN tx p from z)] at es
        rw [es] at i2
        rw [if_neg (fun y => z (c46.1 y))]
        simp only [letF, e2, a1]
        exact i2
  unfold fX10_toldPages
  rw [if_pos (x_h W.1)]
  exact e M 0 FU (by omega) (FU_gt (by omega))
theorem c_digAt (W : CIk h mk tx 0 w un us kp ks C row hq sq) (T : TC h 1 tx len) {i : Nat} (hi : i < len) (h48 : 48 ≤ tx i) : fX10_digitAt h 0 (J i) = some (J (tx i - 48)) := by
  unfold fX10_digitAt
  rw [if_pos (x_h W.1), (c_sgnAt W T hi).1, Option.bind_some, l_48, J_sub h48]
theorem c_numAt (W : CIk h mk tx 0 w un us kp ks C row hq sq) (T : TC h 1 tx len) {i : Nat} (hi : i + 1 < len) (h1 : 48 ≤ tx i) (h2 : 48 ≤ tx (i + 1)) : fX10_numberAt h 0 (J i) = some (J (10 * (tx i - 48) + (tx (i + 1) - 48))) := by
  have e1 : J i + 1 = J (i + 1) := by rw [l_1, J_add]
  unfold fX10_numberAt
  rw [if_pos (x_h W.1), c_digAt W T (by omega) h1, Option.bind_some, e1, c_digAt W T (by omega) h2, Option.bind_some, l_10, J_mul, J_add]
theorem c_spL {M : Nat} (I : INV w) (K : SPK tx len M) (hO : frO w < 24) {w0 : ST} : ∀ m p q h, CIk h mk tx 0 (spS tx w p) un us kp ks C row hq sq → TC h 1 tx len → WR h (24 + 9 * mk) w0 → p + m = M → m < q → ∃ h', (∀ K : AH → Nat → Int32 → Option (Int32 × AH), fX10_spaces_L103 K q h 0 (J len) (J (frO w)) (J (2 + 2 * p)) = K h' 0 (J (frO w))) ∧ CIk h' mk tx 0 (spS tx w M) un us kp ks C row hq sq ∧ WR h' (24 + 9 * mk) w0 ∧ On PC0 h h'
  | 0, p, q + 1, h, W, T, R0, e, _ => by
    have l80 := (tc_l T).2
    have ep : p = M := by omega
    rw [ep] at W ⊢
    refine ⟨h, fun K' => ?_, W, R0, On.rf⟩
    rw [fX10_spaces_L103, l_1, J_add, if_pos (by have := K.1; rw [J_le (by omega) (by omega)]; omega)]
  | m + 1, p, q + 1, h, W, T, R0, e, hq' => by
    have l80 := (tc_l T).2
    have kl := K.1
    have k8 := K.2.1
    obtain ⟨rg, hh⟩ := spS_rg I.rg K hO p (by omega)
    obtain ⟨e0, hc⟩ := c_sgnAt W T (i := 2 + 2 * p) (by omega)
    have e2 : J (2 + 2 * p) + 2 = J (2 + 2 * (p + 1)) := by rw [l_2, J_add]; rfl
    have c46 : J (tx (2 + 2 * p)) = 46 ↔ tx (2 + 2 * p) = 46 := by rw [l_46]; exact J_inj (by omega) (by decide)
    have es : spS tx w (p + 1) = if spN tx p then spS tx w p else holdS (spS tx w p) (frO w) p (spV tx p) := rfl
    rcases sp_two K (show p < M by omega) with ⟨z, -⟩ | ⟨z, b1, b2⟩
    · rw [if_pos z] at es
      obtain ⟨g2, d2, W2, R2, O2⟩ := c_spL I K hO m (p + 1) q h (by rw [es]; exact W) T R0 (by omega) (by omega)
      refine ⟨g2, fun K' => ?_, W2, R2, O2⟩
      rw [fX10_spaces_L103, l_1, J_add, if_neg (fun y => by rw [J_le (by omega) (by omega)] at y; omega), e0, Option.bind_some, if_pos (c46.2 z)]
      simp only [letF, e2]
      exact d2 K'
    · rw [if_neg z] at es
      obtain ⟨c, b, K1⟩ := W.2.2.1.wk
      obtain ⟨g1, d1, K2, O1⟩ := c_hold K1 rg (o := frO w) (p := p) (v := spV tx p) hh (by omega)
      have O1' : On (fun k => 2 ≤ k ∧ k < 11) h g1 := O1.on (fun k h1 h2 => ⟨h1, h2⟩)
      have W1 := W.pw O1' K2.wr
      obtain ⟨g2, d2, W2, R2, O2⟩ := c_spL I K hO m (p + 1) q g1 (by rw [es]; exact W1) (T.on O1' (by omega)) (R0.on O1' (fun k h1 h2 => by omega)) (by omega) (by omega)
      refine ⟨g2, fun K' => ?_, W2, R2, (lon O1' (fun k hk => by omega)).trans O2⟩
      have nv := c_numAt W T (i := 2 + 2 * p) (by omega) b1.1 (by rw [show 2 + 2 * p + 1 = 3 + 2 * p by omega]; exact b2.1)
      have ev : 10 * (tx (2 + 2 * p) - 48) + (tx (2 + 2 * p + 1) - 48) = spV tx p := by unfold spV; rw [show 2 + 2 * p + 1 = 3 + 2 * p by omega]
      have jd : jdiv (J (2 + 2 * p)) 2 = some (J (p + 1)) := by
        have := jdiv_J (a := 2 + 2 * p) (b := 2) (by omega) (by decide) (by decide)
        rw [show (2 + 2 * p) / 2 = p + 1 by omega] at this
        exact this
      rw [fX10_spaces_L103, l_1, J_add, if_neg (fun y => by rw [J_le (by omega) (by omega)] at y; omega), e0, Option.bind_some, if_neg (fun y => z (c46.1 y)), x_2 W.1, Option.bind_some, jd, Option.bind_some, nv, Option.bind_some, ev, J_sub (show 1 ≤ p + 1 by omega), Nat.add_sub_cancel, d1, Option.bind_some]
      simp only [letF, e2]
      exact d2 K'
theorem n100 : (-100 : Int32) = J 4294967196 := by decide
theorem n101 : (-101 : Int32) = J 4294967195 := by decide
theorem n102 : (-102 : Int32) = J 4294967194 := by decide
theorem xc_spaces (W : CIk h mk tx len w un us kp ks C row hq sq) (I : INV w) : ∃ h' mk', fX10_spaces h 0 = some (J (sppA tx w len), h') ∧ CIk h' mk' tx 0 (spW tx w len) (kN (spO tx w len) un) (kS (spO tx w len) un us w) kp ks C row hq sq ∧ On PC0 h h' := by
  have R := I.rg
  obtain ⟨g1, e1, W1, T1, O1⟩ := ci_take W
  have l80 := (tc_l T1).2
  have bad : ∀ x, spO tx w len = false → sppA tx w len = x → ∃ h' mk', some (J x, g1) = some (J (sppA tx w len), h') ∧ CIk h' mk' tx 0 (spW tx w len) (kN (spO tx w len) un) (kS (spO tx w len) un us w) kp ks C row hq sq ∧ On PC0 h h' := fun x z ex => by
    unfold spW
    rw [z, if_neg (by decide), ex]
    exact ⟨g1, mk, rfl, W1, O1⟩
  have b1 := bc_frS R
  have b2 := bc_frO R
  have b3 : bc (w 1 1) ≤ 6 := by
    have := bc_6 R.2.1.2.1
    rw [this]
    exact cnt_le
  have b4 : bc (w 1 2) ≤ 24 := bc_le _
  have tl := I.frm
  unfold fX10_spaces
  rw [if_pos (x_h W.1), e1, Option.bind_some, c_spF W1 T1, Option.bind_some, m1_J]
  have hF : J (spF tx len) = J 4294967295 ↔ spF tx len = BIG := by
    rcases spF_r tx len with z | z
    · rw [z]; exact ⟨fun _ => rfl, fun _ => rfl⟩
    · exact J_inj (by omega) (by decide)
  by_cases hB : spF tx len = BIG
  · have K := spM_ok hB
    have sh := spH_le tx (spM len)
    have m8 := K.2.1
    rw [if_pos (hF.2 hB), x_2 W1.1, Option.bind_some, c_spaceTotal W1.2.2.1 R, Option.bind_some]
    by_cases h1 : frS w < 6
    · rw [if_neg (fun y => by rw [l_6, J_inj (by omega) (by decide)] at y; have := b1.2 h1; omega), Option.bind_some, c_objectTotal W1.2.2.1 R, Option.bind_some]
      by_cases h2 : frO w < 24
      · rw [if_neg (fun y => by rw [l_24, J_inj (by omega) (by decide)] at y; have := b2.2 h2; omega), Option.bind_some, c_frameTotal W1.2.2.1 R, Option.bind_some, c_toldP W1 T1 K, Option.bind_some, J_add]
        by_cases h3 : tot w 8 + spH tx (spM len) ≤ 64
        · have ok : spO tx w len = true := decide_eq_true ⟨hB, h1, h2, h3⟩
          have eA : sppA tx w len = frS w := by
            unfold sppA
            rw [if_pos hB, if_pos h1, if_pos h2, if_pos h3]
          rw [if_pos (by rw [l_64, J_le (by omega) (by decide)]; omega), x_4 W1.1, Option.bind_some, Option.bind_some]
          obtain ⟨g2, e2, W2, R2, O2⟩ := ci_mark W1
          have T2 : TC g2 1 tx len := by
            obtain ⟨F, fm, fs, fb, y1, y2, y3, y4, y5, y6, y7, -⟩ := W1.2.2.2.2.1
            obtain ⟨ga, ea, Ha, Ra, Oa⟩ := c_mark W1.2.2.2.2.1 W1.2.2.1
            rw [ea] at e2
            cases e2
            exact T1.on Oa (by omega)
          obtain ⟨c, b, K1⟩ := W2.2.2.1.wk
          obtain ⟨g3, e3, K3, O3⟩ := c_comeO K1 R (pg := tx 0 - 48) (dg := tx 1 - 48) h2
          have O3' : On (fun k => 2 ≤ k ∧ k < 11) g2 g3 := O3.on (fun k h1 h2 => ⟨h1, h2⟩)
          have W3 := W2.pw O3' K3.wr
          obtain ⟨g4, e4, W4, R4, O4⟩ := c_spL I K h2 (spM len) 0 FU g3 W3 (T2.on O3' (by omega)) (R2.on O3' (fun k h1 h2 => by omega)) (by omega) (FU_gt (by omega))
          have s0 := K.2.2.1
          have s1 := K.2.2.2.1
          have p0 : 48 ≤ tx 0 := by
            unfold spB at s0
            rw [if_pos rfl] at s0
            simp at s0
            omega
          have p1 : 48 ≤ tx 1 := by
            unfold spB at s1
            rw [if_neg (by decide), if_pos rfl] at s1
            exact (dg_r s1).1
          have kl := K.1
          obtain ⟨q1, q2⟩ := spS_S (tx := tx) (w := w) (p := spM len)
          obtain ⟨rgS, hoS⟩ := spS_rg R K h2 (spM len) (Nat.le_refl _)
          obtain ⟨g5, mk5, e5, W5, O5⟩ := ci_keepIf (σ := w) W4 true (fun _ => R4)
          have ek : fX2_keepMark g4 20 = some g5 := by
            unfold fX10_keepIfDone at e5
            rw [if_pos (x_h W4.1), if_pos rfl, x_4 W4.1, Option.bind_some] at e5
            cases hk : fX2_keepMark g4 20 with
            | none => rw [hk] at e5; cases e5
            | some z =>
              rw [hk, Option.bind_some] at e5
              exact e5
          obtain ⟨c5, b5, K5⟩ := W5.2.2.1.wk
          obtain ⟨g6, e6, K6, O6⟩ := c_comeS K5 rgS (t := frO w) (by rw [q1]; exact h1) hoS
          have O6' : On (fun k => 2 ≤ k ∧ k < 11) g5 g6 := O6.on (fun k h1 h2 => ⟨h1, h2⟩)
          have W6 := W5.pw O6' K6.wr
          rw [q1] at e6 W6
          have eW : spW tx w len = spZ tx w (spM len) := by unfold spW; rw [if_pos ok]
          rw [ok, eA, eW]
          refine ⟨g6, mk5, ?_, W6, ((((O1.trans O2).trans (lon O3' (fun k hk => by omega))).trans O4).trans O5).trans (lon O6' (fun k hk => by omega))⟩
          have d0 : fX10_digitAt g2 0 0 = some (J (tx 0 - 48)) := c_digAt W2 T2 (i := 0) (by omega) p0
          have d1 : fX10_digitAt g2 0 1 = some (J (tx 1 - 48)) := c_digAt W2 T2 (i := 1) (by omega) p1
          rw [e2, Option.bind_some, x_2 W2.1, Option.bind_some, d0, Option.bind_some, d1, Option.bind_some, e3, Option.bind_some]
          refine Eq.trans (e4 _) ?_
          rw [x_4 W4.1, Option.bind_some, ek, Option.bind_some, x_2 W5.1, Option.bind_some, e6, Option.bind_some]
        · rw [if_neg (fun y => by rw [l_64, J_le (by omega) (by decide)] at y; omega), n102]
          exact bad _ (decide_eq_false (fun y => h3 y.2.2.2)) (by unfold sppA; rw [if_pos hB, if_pos h1, if_pos h2, if_neg h3])
      · rw [if_pos (by have : ¬ bc (w 1 2) < 24 := fun z => h2 (b2.1 z); rw [l_24, show bc (w 1 2) = 24 by omega]), n101]
        exact bad _ (decide_eq_false (fun y => h2 y.2.2.1)) (by unfold sppA; rw [if_pos hB, if_pos h1, if_neg h2])
    · rw [if_pos (by have : ¬ bc (w 1 1) < 6 := fun z => h1 (b1.1 z); rw [l_6, show bc (w 1 1) = 6 by omega]), n100]
      exact bad _ (decide_eq_false (fun y => h1 y.2.1)) (by unfold sppA; rw [if_pos hB, if_neg h1])
  · have hl := (spF_r tx len).resolve_left hB
    rw [if_neg (fun y => hB (hF.1 y)), J_sub (by omega)]
    exact bad _ (decide_eq_false (fun y => hB y.1)) (by unfold sppA; rw [if_neg hB])
end SPC
