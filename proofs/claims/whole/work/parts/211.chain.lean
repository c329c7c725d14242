/-! chains, in both -/
def chn (σ : ST) : Nat → Nat → Prop
  | 0, o => o = 24
  | k + 1, o => o = 24 ∨ (ho σ o = true ∧ chn σ k (σ 4 o))
theorem ho_of {σ : ST} {o : Nat} (h1 : o < 24) (h2 : σ 2 o < 4) : ho σ o = true := by
  unfold ho
  rw [decide_eq_true h1, decide_eq_true h2]
  rfl
theorem ho_24 {σ : ST} : ¬ ho σ 24 = true := fun h => absurd (ho_lt h).1 (by decide)
theorem chn_of {σ : ST} (R : RG σ) (G : GR σ) : ∀ k o, ends σ k o → (o = 24 ∨ ho σ o = true) → chn σ k o
  | 0, o, e, h => by
    rcases h with h | h
    · exact h
    · exact absurd (ho_lt h).1 e
  | k + 1, o, e, h => by
    rcases h with h | h
    · exact Or.inl h
    · have h1 := (ho_lt h).1
      refine Or.inr ⟨h, chn_of R G k (σ 4 o) (e h1) ?_⟩
      have h2 := (R.2.2.1 o h1).2.2.1
      by_cases h3 : σ 4 o = 24
      · exact Or.inl h3
      · exact Or.inr (ho_of (by omega) (G.2.1 o h1 (by omega)))
theorem chn_24 {σ : ST} (R : RG σ) (G : GR σ) {o : Nat} (h : o = 24 ∨ ho σ o = true) : chn σ 24 o := chn_of R G 24 o (ends_GR G o) h
theorem tp_ho {σ : ST} (R : RG σ) (G : GR σ) (s : Nat) : tp σ s = 24 ∨ ho σ (tp σ s) = true := by
  unfold tp
  by_cases h1 : s < 6
  · rw [if_pos h1]
    by_cases h2 : σ 0 s = 24
    · exact Or.inl h2
    · have := R.1 s h1
      exact Or.inr (ho_of (by omega) (G.1 s h1 (by omega)))
  · rw [if_neg h1]
    exact Or.inl rfl
theorem chn_tp {σ : ST} (R : RG σ) (G : GR σ) (s : Nat) : chn σ 24 (tp σ s) := chn_24 R G (tp_ho R G s)
def plh (σ : ST) (p : Nat) : Nat → Nat → Nat
  | 0, _ => 0
  | k + 1, o => if ho σ o = true ∧ ¬ hd σ o p = true then plh σ p k (σ 4 o) + 1 else 0
theorem dep_24 {σ : ST} : ∀ k, dep σ k 24 = 0
  | 0 => rfl
  | k + 1 => by unfold dep; rw [if_neg ho_24]
theorem fh_24 {σ : ST} {p : Nat} : ∀ k, fh σ p k 24 = 24
  | 0 => rfl
  | k + 1 => by unfold fh; rw [if_neg ho_24]
theorem plh_24 {σ : ST} {p : Nat} : ∀ k, plh σ p k 24 = 0
  | 0 => rfl
  | k + 1 => by unfold plh; rw [if_neg (fun h => ho_24 h.1)]
theorem plc_24 {σ : ST} {x : Nat} : ∀ k, plc σ x k 24 = 0
  | 0 => rfl
  | k + 1 => by unfold plc; rw [if_neg (fun h => ho_24 h.1)]
theorem dep_le {σ : ST} : ∀ k o, dep σ k o ≤ k
  | 0, _ => Nat.le_refl _
  | k + 1, o => by
    unfold dep
    split
    · have := dep_le (σ := σ) k (σ 4 o); omega
    · omega
theorem plh_le {σ : ST} {p : Nat} : ∀ k o, plh σ p k o ≤ dep σ k o
  | 0, _ => Nat.le_refl _
  | k + 1, o => by
    unfold plh dep
    by_cases h : ho σ o = true
    · rw [if_pos h]
      by_cases h2 : hd σ o p = true
      · rw [if_neg (fun z => z.2 h2)]; omega
      · rw [if_pos ⟨h, h2⟩]
        have := plh_le (σ := σ) (p := p) k (σ 4 o); omega
    · rw [if_neg h, if_neg (fun z => h z.1)]
      exact Nat.le_refl _
theorem fh_hd {σ : ST} {p : Nat} : ∀ k o, fh σ p k o ≠ 24 → hd σ (fh σ p k o) p = true ∧ ho σ (fh σ p k o) = true
  | 0, _, h => absurd rfl h
  | k + 1, o, h => by
    unfold fh at h ⊢
    by_cases h1 : ho σ o = true
    · rw [if_pos h1] at h ⊢
      by_cases h2 : hd σ o p = true
      · rw [if_pos h2]; exact ⟨h2, h1⟩
      · rw [if_neg h2] at h ⊢
        exact fh_hd k _ h
    · rw [if_neg h1] at h
      exact absurd rfl h
theorem fh_dep {σ : ST} {p : Nat} : ∀ k o, chn σ k o → (fh σ p k o = 24 ↔ plh σ p k o = dep σ k o)
  | 0, o, _ => by simp [fh, plh, dep]
  | k + 1, o, c => by
    rcases c with c | ⟨c1, c2⟩
    · subst c
      rw [fh_24, plh_24, dep_24]
      simp
    · unfold fh plh dep
      rw [if_pos c1, if_pos c1]
      by_cases h2 : hd σ o p = true
      · rw [if_pos h2, if_neg (fun z => z.2 h2)]
        have := (ho_lt c1).1
        omega
      · rw [if_neg h2, if_pos ⟨c1, h2⟩, fh_dep k _ c2]
        omega
theorem itr_fh {σ : ST} {p : Nat} : ∀ k o, chn σ k o → itr σ (plh σ p k o) o = fh σ p k o
  | 0, o, c => by
    have c' : o = 24 := c
    subst c'
    rfl
  | k + 1, o, c => by
    rcases c with c | ⟨c1, c2⟩
    · subst c
      rw [fh_24, plh_24]
      rfl
    · unfold fh plh
      rw [if_pos c1]
      by_cases h2 : hd σ o p = true
      · rw [if_pos h2, if_neg (fun z => z.2 h2)]
        rfl
      · rw [if_neg h2, if_pos ⟨c1, h2⟩]
        exact itr_fh k _ c2
theorem plc_fh {σ : ST} {p : Nat} : ∀ k o, chn σ k o → plc σ (fh σ p k o) k o = plh σ p k o
  | 0, _, _ => rfl
  | k + 1, o, c => by
    rcases c with c | ⟨c1, c2⟩
    · subst c
      rw [plc_24, plh_24]
    · have h1 := (ho_lt c1).1
      unfold plc plh
      by_cases h2 : hd σ o p = true
      · have e : fh σ p (k + 1) o = o := by unfold fh; rw [if_pos c1, if_pos h2]
        rw [e, if_neg (fun z => z.2 rfl), if_neg (fun z => z.2 h2)]
      · have e : fh σ p (k + 1) o = fh σ p k (σ 4 o) := by
          conv => lhs; unfold fh
          rw [if_pos c1, if_neg h2]
        rw [e, if_pos (show ho σ o = true ∧ ¬ hd σ o p = true from ⟨c1, h2⟩)]
        by_cases h3 : o = fh σ p k (σ 4 o)
        · have h4 := fh_hd (σ := σ) (p := p) k (σ 4 o) (by rw [← h3]; omega)
          rw [← h3] at h4
          exact absurd h4.1 h2
        · rw [if_pos ⟨c1, h3⟩, plc_fh k _ c2]
theorem itr_dep {σ : ST} : ∀ k o, chn σ k o → itr σ (dep σ k o) o = 24
  | 0, o, c => c
  | k + 1, o, c => by
    rcases c with c | ⟨c1, c2⟩
    · subst c
      rw [dep_24]
      rfl
    · unfold dep
      rw [if_pos c1]
      exact itr_dep k _ c2
theorem itr_ho {σ : ST} : ∀ k o, chn σ k o → ∀ j, j < dep σ k o → ho σ (itr σ j o) = true
  | 0, o, _, j, h => absurd h (Nat.not_lt_zero j)
  | k + 1, o, c, j, h => by
    rcases c with c | ⟨c1, c2⟩
    · subst c
      rw [dep_24] at h
      exact absurd h (Nat.not_lt_zero j)
    · unfold dep at h
      rw [if_pos c1] at h
      match j with
      | 0 => exact c1
      | j + 1 => exact itr_ho k _ c2 j (by omega)
theorem lst_itr {σ : ST} : ∀ k o, chn σ k o → ho σ o = true → lst σ k o = itr σ (dep σ k o - 1) o
  | 0, o, c, h => by
    have c' : o = 24 := c
    subst c'
    exact absurd h ho_24
  | k + 1, o, c, h => by
    have h1 := (ho_lt h).1
    rcases c with c | ⟨c1, c2⟩
    · subst c
      exact absurd h ho_24
    · unfold lst dep
      rw [if_pos c1]
      have e : at24 σ 4 o = σ 4 o := by unfold at24; rw [if_pos h1]
      rw [e]
      by_cases h2 : ho σ (σ 4 o) = true
      · rw [if_pos h2, lst_itr k _ c2 h2]
        have h3 : 0 < dep σ k (σ 4 o) := by
          cases k with
          | zero => have c3 : σ 4 o = 24 := c2; rw [c3] at h2; exact absurd h2 ho_24
          | succ k => unfold dep; rw [if_pos h2]; omega
        obtain ⟨d, hd⟩ : ∃ d, dep σ k (σ 4 o) = d + 1 := ⟨dep σ k (σ 4 o) - 1, by omega⟩
        rw [hd]
        rfl
      · rw [if_neg h2]
        have h3 : dep σ k (σ 4 o) = 0 := by
          cases k with
          | zero => rfl
          | succ k => unfold dep; rw [if_neg h2]
        rw [h3]
        rfl
theorem chn_le {σ : ST} {k o : Nat} (c : chn σ k o) : o ≤ 24 := by
  cases k with
  | zero => have c' : o = 24 := c; omega
  | succ k =>
    rcases c with c | ⟨c1, -⟩
    · omega
    · exact Nat.le_of_lt (ho_lt c1).1
theorem nn_id {x : Nat} (h : x < 24) : nn x = x := by unfold nn; rw [if_neg (by omega)]
theorem nn_24 : nn 24 = 4294967295 := rfl
section CHR
variable {h : AH} {A : Nat} {σ : ST}
theorem m_len_L (W : RA h A σ) (R : RG σ) : ∀ k o c n, chn σ k o → k < n → fX11_lengthOf_L10 h n A (J c) (J (nn o)) = some (J (c + dep σ k o))
  | 0, o, c, n + 1, ch, _ => by
    have ch' : o = 24 := ch
    subst ch'
    rw [fX11_lengthOf_L10]
    simp (disch := omega) only [nn_24, m1_J, J_inj, if_true]
    rfl
  | k + 1, o, c, n + 1, ch, hn => by
    rw [fX11_lengthOf_L10]
    rcases ch with ch | ⟨c1, c2⟩
    · subst ch
      simp (disch := omega) only [nn_24, m1_J, J_inj, if_true]
      rw [dep_24]
      rfl
    · have h1 := (ho_lt c1).1
      unfold dep
      rw [if_pos c1, nn_id h1]
      simp (disch := omega) only [m1_J, J_inj]
      rw [if_neg (by omega)]
      simp (disch := omega) only [letF, l_1, J_add, l_192, ra_sh W, Option.bind_some]
      rw [m_len_L W R k (σ 4 o) (c + 1) n c2 (by omega)]
      congr 2
      omega
theorem m_len (W : RA h A σ) (R : RG σ) (G : GR σ) {s : Nat} (hs : s < 6) : fX11_lengthOf h A (J s) = some (J (dep σ 24 (tp σ s))) := by
  have c := chn_tp R G s
  unfold fX11_lengthOf
  simp (disch := omega) only [l_312, J_add, ra_tp W, Option.bind_some, l_0]
  have e : tp σ s = σ 0 s := by unfold tp; rw [if_pos hs]
  rw [← e, m_len_L W R 24 _ 0 FU c (FU_gt (by decide)), Nat.zero_add]
theorem m_at_L (W : RA h A σ) (R : RG σ) : ∀ k o i j n, chn σ k o → j ≤ dep σ k o → i + j < 2147483648 → j < n → fX11_objectAt_L11 h n A (J (i + j)) (J (nn o)) (J i) = some (J (nn (itr σ j o)))
  | k, o, i, 0, n + 1, ch, hj, hi, _ => by
    rw [fX11_objectAt_L11]
    simp (disch := omega) only [J_le]
    rw [if_pos (by omega)]
    rfl
  | 0, o, i, j + 1, n + 1, ch, hj, hi, hn => absurd hj (by unfold dep; omega)
  | k + 1, o, i, j + 1, n + 1, ch, hj, hi, hn => by
    rcases ch with ch | ⟨c1, c2⟩
    · subst ch
      rw [dep_24] at hj
      omega
    · have h1 := (ho_lt c1).1
      unfold dep at hj
      rw [if_pos c1] at hj
      rw [fX11_objectAt_L11]
      simp (disch := omega) only [J_le]
      rw [if_neg (by omega), nn_id h1]
      simp (disch := omega) only [letF, l_1, J_add, l_192, ra_sh W, Option.bind_some]
      have := m_at_L W R k (σ 4 o) (i + 1) j n c2 (by omega) (by omega) (by omega)
      rw [show i + 1 + j = i + (j + 1) by omega] at this
      exact this
theorem m_at (W : RA h A σ) (R : RG σ) (G : GR σ) {s j : Nat} (hs : s < 6) (hj : j ≤ dep σ 24 (tp σ s)) : fX11_objectAt h A (J s) (J j) = some (J (nn (itr σ j (tp σ s)))) := by
  have c := chn_tp R G s
  have hd := dep_le (σ := σ) 24 (tp σ s)
  unfold fX11_objectAt
  simp (disch := omega) only [l_312, J_add, ra_tp W, Option.bind_some, l_0]
  have e : tp σ s = σ 0 s := by unfold tp; rw [if_pos hs]
  rw [← e]
  have := m_at_L W R 24 (tp σ s) 0 j FU c hj (by omega) (show j < 4096 by omega)
  rw [Nat.zero_add] at this
  exact this
theorem m_place_L (W : RA h A σ) (R : RG σ) {p : Nat} (hp : p < 8) : ∀ k o c n, chn σ k o → k < n → fX11_placeOf_L11 h n A (J p) (J c) (J (nn o)) = some (J (c + plh σ p k o))
  | 0, o, c, n + 1, ch, _ => by
    have ch' : o = 24 := ch
    subst ch'
    rw [fX11_placeOf_L11]
    simp (disch := omega) only [nn_24, m1_J, J_inj, if_true]
    rfl
  | k + 1, o, c, n + 1, ch, hn => by
    rw [fX11_placeOf_L11]
    rcases ch with ch | ⟨c1, c2⟩
    · subst ch
      simp (disch := omega) only [nn_24, m1_J, J_inj, if_true]
      rw [plh_24]
      rfl
    · have h1 := (ho_lt c1).1
      have e : hd σ o p = (σ 8 o).testBit p := by unfold hd; rw [decide_eq_true h1, decide_eq_true hp]; rfl
      unfold plh
      rw [nn_id h1]
      simp (disch := omega) only [m1_J, J_inj]
      rw [if_neg (by omega)]
      simp (disch := omega) only [m_hd W R, Option.bind_some]
      rw [← e]
      by_cases h2 : hd σ o p = true
      · rw [if_pos h2, if_neg (fun z => z.2 h2)]
        rfl
      · rw [if_neg h2, if_pos ⟨c1, h2⟩]
        simp (disch := omega) only [letF, l_1, J_add, l_192, ra_sh W, Option.bind_some]
        rw [m_place_L W R hp k (σ 4 o) (c + 1) n c2 (by omega)]
        congr 2
        omega
theorem m_place (W : RA h A σ) (R : RG σ) (G : GR σ) {s p : Nat} (hs : s < 6) (hp : p < 8) : fX11_placeOf h A (J s) (J p) = some (J (plh σ p 24 (tp σ s))) := by
  have c := chn_tp R G s
  unfold fX11_placeOf
  simp (disch := omega) only [l_312, J_add, ra_tp W, Option.bind_some, l_0]
  have e : tp σ s = σ 0 s := by unfold tp; rw [if_pos hs]
  rw [← e, m_place_L W R hp 24 _ 0 FU c (FU_gt (by decide)), Nat.zero_add]
theorem hs_tp {s : Nat} (h : hs σ s = true) (R : RG σ) (G : GR σ) : s < 6 ∧ tp σ s = σ 0 s ∧ ho σ (tp σ s) = true := by
  obtain ⟨h1, h2⟩ := hs_lt h
  have e : tp σ s = σ 0 s := by unfold tp; rw [if_pos h1]
  refine ⟨h1, e, ?_⟩
  rcases tp_ho R G s with h3 | h3
  · omega
  · exact h3
theorem dep_pos {k o : Nat} (h : ho σ o = true) : 0 < dep σ (k + 1) o := by
  unfold dep
  rw [if_pos h]
  omega
theorem m_lst (W : RA h A σ) (R : RG σ) (G : GR σ) {s : Nat} (h0 : hs σ s = true) : fX11_lastOf h A (J s) = some (J (lst σ 24 (tp σ s))) := by
  obtain ⟨h1, h2, h3⟩ := hs_tp h0 R G
  have c := chn_tp R G s
  have d1 : 0 < dep σ 24 (tp σ s) := dep_pos (k := 23) h3
  have d2 := dep_le (σ := σ) 24 (tp σ s)
  unfold fX11_lastOf
  simp (disch := omega) only [m_len W R G h1, Option.bind_some, l_1, J_sub]
  rw [m_at W R G h1 (by omega), lst_itr 24 _ c h3, nn_id (ho_lt (itr_ho 24 _ c (dep σ 24 (tp σ s) - 1) (by omega))).1]
  rfl
theorem lst_ho {k o : Nat} (c : chn σ k o) (h : ho σ o = true) : ho σ (lst σ k o) = true := by
  rw [lst_itr k o c h]
  cases k with
  | zero => have c' : o = 24 := c; subst c'; exact absurd h ho_24
  | succ k =>
    have := dep_pos (σ := σ) (k := k) h
    exact itr_ho (k + 1) o c _ (by omega)
end CHR
