/-! peeks, chains, sets told -/
/-- the shape of a call's lemma, where the world alone is asked and the row alone is told -/
def pkR (w : ST) (s p : Nat) (row : List Int64) : List Int64 := if pk w s p < 2147483648 then [Int32.toInt64 (J (plh w p 24 (tp w s)))] else row
theorem lon {P : Nat → Prop} {h g : AH} (O : On P h g) (hP : ∀ k, P k → k < 145) : On PC0 h g := O.mono hP
theorem mon {P : Nat → Prop} {h g : AH} (O : On P h g) (hP : ∀ k, P k → 145 ≤ k ∧ k < 166) : On PM0 h g := O.mono hP
theorem neg_l4' : (-4 : Int32) = J 4294967292 := by decide
section CC
variable {h g : AH} {mk : Nat} {tx : Nat → Nat} {len : Nat} {w : ST} {un : Nat} {us : Nat → ST} {kp : Nat → Bool} {ks : Nat → ST} {C : List Nat} {ρ : Nat → Nat} {rn : Nat} {row : List Int64} {hq : List (Nat × Nat)} {sq : List (Nat × Nat × Bool)}
theorem xc_peeks (W : CIk h mk tx len w un us kp ks C row hq sq) (I : INV w) {s p : Nat} (hs' : s < 4294967296) (hp' : p < 4294967296) : ∃ h' mk', fX10_peeks h 0 (J s) (J p) = some (J (pk w s p), h') ∧ CIk h' mk' tx len w un us kp ks C (pkR w s p row) hq sq ∧ On PC0 h h' := by
  have R := I.rg
  have G := I.gr
  have pl := pkv_lt R s p hp'
  have fl := fir_le (σ := w) s p
  unfold fX10_peeks pkR
  simp (disch := omega) only [x_h W.1, if_true, x_2 W.1, Option.bind_some, c_peek W.2.2.1 R, l_0, J_lt]
  by_cases hk : pk w s p < 2147483648
  · obtain ⟨g3, e3, W3, O3⟩ := ci_clr W
    obtain ⟨g4, e4, W4, O4⟩ := ci_add W3 (by simp) (Int32.toInt64 (J (plh w p 24 (tp w s))))
    have ep : plc w (fir w s p) 24 (tp w s) = plh w p 24 (tp w s) := plc_fh 24 _ (chn_tp R G s)
    have hfh : fX9_firstHolder g3 2 (J s) (J p) = some (J (fir w s p)) := c_fh W3.2.2.1 R hs' hp'
    have hpl : fX9_placeOf g3 2 (J s) (J (fir w s p)) = some (J (plh w p 24 (tp w s))) := by rw [c_place W3.2.2.1 R hs' (by omega), ep]
    rw [if_neg (by omega), if_pos hk]
    refine ⟨g4, mk, ?_, W4, (lon O3 (fun k hk => by omega)).trans (lon O4 (fun k hk => by omega))⟩
    simp only [x_8 W.1, e3, x_8 W3.1, x_2 W3.1, hfh, hpl, e4, Option.bind_some]
  · rw [if_pos (by omega), if_neg hk]
    exact ⟨h, mk, rfl, W, On.rf⟩
theorem xm_peeks (W : MIv h tx len w un us kp ks ρ rn row hq sq) (I : INV w) {s p : Nat} (hs' : s < 4294967296) (hp' : p < 4294967296) : ∃ h', fX11_peeks h 145 (J s) (J p) = some (J (pk w s p), h') ∧ MIv h' tx len w un us kp ks ρ rn (pkR w s p row) hq sq ∧ On PM0 h h' := by
  have R := I.rg
  have G := I.gr
  obtain ⟨g1, e1, W1, -, O1⟩ := mi_t0 W
  have O1' : On PM0 h g1 := mon O1 (fun k hk => by omega)
  unfold fX11_peeks pkR
  simp only [y_h W.1, if_true, e1, y_0 W1.1, Option.bind_some, m_hs W1.2.2.1 R hs', m_isPage hp', decide_eq_true_eq]
  by_cases hsp : hs w s = true ∧ p < 8
  · obtain ⟨h0, hp⟩ := hsp
    obtain ⟨s1, s2⟩ := hs_lt h0
    have ek := pk_rf h0 hp
    have rv := rfF_v w s p
    have fl := ftc_lt R (s := s) hp
    rw [if_pos h0, if_pos hp]
    simp (disch := omega) only [m_refF W1.2.2.1 R G h0 hp, Option.bind_some, l_0, J_le]
    by_cases hr : rfF w s p = 0
    · rw [if_pos hr] at ek
      obtain ⟨g4, e4, W4, O4⟩ := mi_clr W1
      obtain ⟨g5, e5, W5, O5⟩ := mi_tell W4 (by simp) (Int32.toInt64 (J (plh w p 24 (tp w s))))
      rw [l_0] at e4
      rw [if_pos (by omega), if_pos (by omega), ek]
      refine ⟨g5, ?_, W5, (O1'.trans (mon O4 (fun k hk => by omega))).trans (mon O5 (fun k hk => by omega))⟩
      simp only [e4, y_0 W4.1, Option.bind_some, m_place W4.2.2.1 R G s1 hp, e5, y_0 W5.1, m_fetch W5.2.2.1 R G h0 hp]
    · rw [if_neg hr] at ek
      rw [if_neg (by omega), if_neg (by omega), ek]
      exact ⟨g1, rfl, W1, O1'⟩
  · have ek := pk_bad hsp
    rw [ek, if_neg (show ¬ 4294967295 < 2147483648 by decide)]
    by_cases h0 : hs w s = true
    · rw [if_pos h0, if_neg (fun z => hsp ⟨h0, z⟩), m1_J]
      exact ⟨g1, rfl, W1, O1'⟩
    · rw [if_neg h0, m1_J]
      exact ⟨g1, rfl, W1, O1'⟩
end CC
/-! a chain told -/
def chR (w : ST) (s n : Nat) : List Int64 := (List.range n).map (fun j => Int32.toInt64 (J (itr w j (tp w s))))
theorem chR_s (w : ST) (s n : Nat) : chR w s (n + 1) = chR w s n ++ [Int32.toInt64 (J (itr w n (tp w s)))] := by
  unfold chR
  rw [List.range_succ, List.map_append]
  rfl
theorem chR_l (w : ST) (s n : Nat) : (chR w s n).length = n := by
  unfold chR
  simp
theorem itr_s {σ : ST} : ∀ j o, itr σ (j + 1) o = σ 4 (itr σ j o)
  | 0, _ => rfl
  | j + 1, o => itr_s j (σ 4 o)
def chA (w : ST) (s : Nat) : Nat := if hs w s = true then dep w 24 (tp w s) else 4294967295
def chW (w : ST) (s : Nat) (row : List Int64) : List Int64 := if hs w s = true then chR w s (dep w 24 (tp w s)) else row
section CC
variable {h g : AH} {mk : Nat} {tx : Nat → Nat} {len : Nat} {w : ST} {un : Nat} {us : Nat → ST} {kp : Nat → Bool} {ks : Nat → ST} {C : List Nat} {ρ : Nat → Nat} {rn : Nat} {row : List Int64} {hq : List (Nat × Nat)} {sq : List (Nat × Nat × Bool)}
theorem c_chainL (R : RG w) (G : GR w) {s : Nat} : ∀ m n k h, CIk h mk tx len w un us kp ks C (chR w s k) hq sq → k + m = dep w 24 (tp w s) → m < n → ∃ h', fX10_chain_L41 n h 0 (J (dep w 24 (tp w s))) (J (itr w k (tp w s))) (J k) = some (J (dep w 24 (tp w s)), h') ∧ CIk h' mk tx len w un us kp ks C (chR w s (dep w 24 (tp w s))) hq sq ∧ On PC0 h h'
  | 0, n + 1, k, h, W, e, _ => by
    have hd := dep_le (σ := w) 24 (tp w s)
    rw [fX10_chain_L41]
    simp (disch := omega) only [J_le]
    rw [if_pos (by omega)]
    have : k = dep w 24 (tp w s) := by omega
    rw [this] at W
    exact ⟨h, rfl, W, On.rf⟩
  | m + 1, n + 1, k, h, W, e, hn => by
    have hd := dep_le (σ := w) 24 (tp w s)
    have hho := itr_ho 24 (tp w s) (chn_tp R G s) k (by omega)
    obtain ⟨i1, i2⟩ := ho_lt hho
    obtain ⟨g1, e1, W1, O1⟩ := ci_add W (by rw [chR_l]; omega) (Int32.toInt64 (J (itr w k (tp w s))))
    rw [← chR_s] at W1
    obtain ⟨g2, e2, W2, O2⟩ := c_chainL R G m n (k + 1) g1 W1 (by omega) (by omega)
    refine ⟨g2, ?_, W2, (lon O1 (fun k hk => by omega)).trans O2⟩
    rw [fX10_chain_L41]
    simp (disch := omega) only [J_le]
    rw [if_neg (by omega)]
    have ea : at24 w 4 (itr w k (tp w s)) = itr w (k + 1) (tp w s) := by unfold at24; rw [if_pos i1, itr_s]
    have e1' : J k + 1 = J (k + 1) := by rw [l_1, J_add]
    simp (disch := omega) only [x_8 W.1, Option.bind_some, e1, x_2 W1.1, c_shadowOf W1.2.2.1 R, ea, letF, e1', e2]
theorem xc_chain (W : CIk h mk tx len w un us kp ks C row hq sq) (I : INV w) {s : Nat} (hs' : s < 4294967296) : ∃ h' mk', fX10_chain h 0 (J s) = some (J (chA w s), h') ∧ CIk h' mk' tx len w un us kp ks C (chW w s row) hq sq ∧ On PC0 h h' := by
  have R := I.rg
  unfold fX10_chain chA chW
  simp (disch := omega) only [x_h W.1, if_true, x_2 W.1, Option.bind_some, c_hs W.2.2.1 R]
  by_cases h0 : hs w s = true
  · obtain ⟨g1, e1, W1, O1⟩ := ci_clr W
    obtain ⟨g2, e2, W2, O2⟩ := c_chainL R I.gr (s := s) (dep w 24 (tp w s)) FU 0 g1 W1 (by omega) (FU_gt (by have := dep_le (σ := w) 24 (tp w s); omega))
    rw [if_pos h0, if_pos h0, if_pos h0]
    refine ⟨g2, mk, ?_, W2, (lon O1 (fun k hk => by omega)).trans O2⟩
    have ei : itr w 0 (tp w s) = tp w s := rfl
    rw [ei] at e2
    simp (disch := omega) only [c_chain W.2.2.1 R, Option.bind_some, x_8 W.1, e1, x_2 W1.1, c_tp W1.2.2.1 R, l_0, e2]
  · rw [if_neg h0, if_neg h0, if_neg h0, m1_J]
    exact ⟨h, mk, rfl, W, On.rf⟩
theorem m_chainL (R : RG w) (G : GR w) {s : Nat} (hs6 : s < 6) : ∀ m n k h, MIv h tx len w un us kp ks ρ rn (chR w s k) hq sq → k + m = dep w 24 (tp w s) → m < n → ∃ h', fX11_chain_L34 n h 145 (J s) (J (dep w 24 (tp w s))) (J k) = some (J (dep w 24 (tp w s)), h') ∧ MIv h' tx len w un us kp ks ρ rn (chR w s (dep w 24 (tp w s))) hq sq ∧ On PM0 h h'
  | 0, n + 1, k, h, W, e, _ => by
    have hd := dep_le (σ := w) 24 (tp w s)
    rw [fX11_chain_L34]
    simp (disch := omega) only [J_le]
    rw [if_pos (by omega)]
    have : k = dep w 24 (tp w s) := by omega
    rw [this] at W
    exact ⟨h, rfl, W, On.rf⟩
  | m + 1, n + 1, k, h, W, e, hn => by
    have hd := dep_le (σ := w) 24 (tp w s)
    have hho := itr_ho 24 (tp w s) (chn_tp R G s) k (by omega)
    obtain ⟨i1, i2⟩ := ho_lt hho
    obtain ⟨g1, e1, W1, O1⟩ := mi_tell W (by rw [chR_l]; omega) (Int32.toInt64 (J (itr w k (tp w s))))
    rw [← chR_s] at W1
    obtain ⟨g2, e2, W2, O2⟩ := m_chainL R G hs6 m n (k + 1) g1 W1 (by omega) (by omega)
    refine ⟨g2, ?_, W2, (mon O1 (fun k hk => by omega)).trans O2⟩
    rw [fX11_chain_L34]
    simp (disch := omega) only [J_le]
    rw [if_neg (by omega)]
    have e1' : J k + 1 = J (k + 1) := by rw [l_1, J_add]
    have ea := m_at W.2.2.1 R G hs6 (j := k) (by omega)
    rw [nn_id i1] at ea
    simp (disch := omega) only [y_0 W.1, Option.bind_some, ea, e1, letF, e1', e2]
theorem xm_chain (W : MIv h tx len w un us kp ks ρ rn row hq sq) (I : INV w) {s : Nat} (hs' : s < 4294967296) : ∃ h', fX11_chain h 145 (J s) = some (J (chA w s), h') ∧ MIv h' tx len w un us kp ks ρ rn (chW w s row) hq sq ∧ On PM0 h h' := by
  have R := I.rg
  obtain ⟨g1, e1, W1, -, O1⟩ := mi_t0 W
  have O1' : On PM0 h g1 := mon O1 (fun k hk => by omega)
  unfold fX11_chain chA chW
  simp only [y_h W.1, if_true, e1, y_0 W1.1, Option.bind_some, m_hs W1.2.2.1 R hs']
  by_cases h0 : hs w s = true
  · obtain ⟨s1, s2⟩ := hs_lt h0
    obtain ⟨g2, e2, W2, O2⟩ := mi_clr W1
    obtain ⟨g3, e3, W3, O3⟩ := m_chainL R I.gr s1 (dep w 24 (tp w s)) FU 0 g2 W2 (by omega) (FU_gt (by have := dep_le (σ := w) 24 (tp w s); omega))
    rw [if_pos h0, if_pos h0, if_pos h0]
    refine ⟨g3, ?_, W3, (O1'.trans (mon O2 (fun k hk => by omega))).trans O3⟩
    rw [← l_0] at e3
    simp only [m_len W1.2.2.1 R I.gr s1, Option.bind_some, e2, e3]
  · rw [if_neg h0, if_neg h0, if_neg h0, m1_J]
    exact ⟨g1, rfl, W1, O1'⟩
/-! sets -/
theorem c_tellSet (W : CIk h mk tx len w un us kp ks C row hq sq) {n : Nat} (hn : n < 16777216) : ∃ h', fX10_tellSet h 0 (J n) = some (J n, h') ∧ CIk h' mk tx len w un us kp ks C [Int32.toInt64 (J (bc n))] hq sq ∧ On PC0 h h' := by
  obtain ⟨g1, e1, W1, O1⟩ := ci_clr W
  obtain ⟨g2, e2, W2, O2⟩ := ci_add W1 (by simp) (Int32.toInt64 (J (bc n)))
  refine ⟨g2, ?_, W2, (lon O1 (fun k hk => by omega)).trans (lon O2 (fun k hk => by omega))⟩
  unfold fX10_tellSet
  simp only [x_h W.1, if_true, x_8 W.1, e1, Option.bind_some, x_8 W1.1, bc_J hn, e2]
theorem m_tellBits (W : MIv h tx len w un us kp ks ρ rn row hq sq) {n : Nat} (hn : n < 16777216) : ∃ h', fX11_tellBits h 145 (J n) = some (J n, h') ∧ MIv h' tx len w un us kp ks ρ rn [Int32.toInt64 (J (bc n))] hq sq ∧ On PM0 h h' := by
  obtain ⟨g1, e1, W1, O1⟩ := mi_clr W
  obtain ⟨g2, e2, W2, O2⟩ := mi_tell W1 (by simp) (Int32.toInt64 (J (bc n)))
  refine ⟨g2, ?_, W2, (mon O1 (fun k hk => by omega)).trans (mon O2 (fun k hk => by omega))⟩
  unfold fX11_tellBits
  simp only [y_h W.1, if_true, e1, Option.bind_some, bc_J hn, e2]
end CC
/-- the spaces whose chain has it -/
def sab (w : ST) (o : Nat) : Nat := bts (fun s => hs w s && decide (plc w o 24 (tp w s) < dep w 24 (tp w s))) 6
theorem sab_lt (w : ST) (o : Nat) : sab w o < 64 := bts_lt _ 6
section SAB
variable {h : AH} {w : Nat} {σ : ST} {A : Nat}
theorem c_sab (W : WR h w σ) (R : RG σ) {o : Nat} (ho' : o < 4294967296) : fX9_spacesAbove h w (J o) = some (J (sab σ o)) := by
  unfold fX9_spacesAbove
  rw [if_pos (wr_h W), l_0]
  have e := loop_rec (fun q k c => fX9_spacesAbove_L4 h q w (J o) (J c) (J k)) 6 (fun k => bts (fun s => hs σ s && decide (plc σ o 24 (tp σ s) < dep σ 24 (tp σ s))) k) (some (J (sab σ o))) (fun q k hk => by
    try dsimp only
    have d1 := dep_le (σ := σ) 24 (tp σ k)
    have d2 := plc_le (σ := σ) (x := o) 24 (tp σ k)
    rw [fX9_spacesAbove_L4]
    simp (disch := omega) only [l_6, J_le, c_hs W R, Option.bind_some]
    rw [if_neg (by omega)]
    have e1 : J k + 1 = J (k + 1) := by rw [l_1, J_add]
    simp only [letF]
    rw [e1]
    conv => rhs; unfold bts
    by_cases h1 : hs σ k = true
    · rw [if_pos h1]
      simp (disch := omega) only [c_place W R, c_chain W R, Option.bind_some, J_le]
      by_cases h2 : plc σ o 24 (tp σ k) < dep σ 24 (tp σ k)
      · rw [if_neg (by omega), if_pos (by rw [h1, decide_eq_true h2]; rfl), J_bset _ (by omega)]
      · rw [if_pos (by omega), if_neg (by rw [decide_eq_false h2, Bool.and_false]; decide)]
    · rw [if_neg h1, if_neg (fun z => h1 (Bool.and_eq_true_iff.mp z).1)]) (fun q => by
    try dsimp only
    rw [fX9_spacesAbove_L4]
    simp (disch := omega) only [l_6, J_le]
    rw [if_pos (by omega)]
    rfl) 6 FU 0 rfl (FU_gt (by decide))
  exact e
theorem m_inChL (W : RA h A σ) (R : RG σ) {x : Nat} (hx : x < 24) : ∀ k o n, chn σ k o → k < n → fX11_isInChain_L8 h n A (J x) (J (nn o)) = some (decide (plc σ x k o < dep σ k o))
  | 0, o, n + 1, ch, _ => by
    have ch' : o = 24 := ch
    subst ch'
    rw [fX11_isInChain_L8]
    simp (disch := omega) only [nn_24, m1_J, J_inj, if_true]
    rfl
  | k + 1, o, n + 1, ch, hn => by
    rw [fX11_isInChain_L8]
    rcases ch with ch | ⟨c1, c2⟩
    · subst ch
      simp (disch := omega) only [nn_24, m1_J, J_inj, if_true]
      rw [dep_24, decide_eq_false (Nat.not_lt_zero _)]
    · have h1 := (ho_lt c1).1
      unfold dep plc
      rw [if_pos c1, nn_id h1]
      simp (disch := omega) only [m1_J, J_inj]
      rw [if_neg (by omega)]
      by_cases h2 : o = x
      · rw [if_pos h2, if_neg (fun z => z.2 h2), decide_eq_true (Nat.succ_pos _)]
      · rw [if_neg h2, if_pos ⟨c1, h2⟩]
        simp (disch := omega) only [l_192, J_add, ra_sh W, Option.bind_some]
        rw [m_inChL W R hx k (σ 4 o) n c2 (by omega)]
        congr 1
        rw [decide_eq_decide]
        omega
theorem m_inCh (W : RA h A σ) (R : RG σ) (G : GR σ) {s x : Nat} (hs6 : s < 6) (hx : x < 24) : fX11_isInChain h A (J s) (J x) = some (decide (plc σ x 24 (tp σ s) < dep σ 24 (tp σ s))) := by
  have c := chn_tp R G s
  unfold fX11_isInChain
  simp (disch := omega) only [l_312, J_add, ra_tp W, Option.bind_some]
  have e : tp σ s = σ 0 s := by unfold tp; rw [if_pos hs6]
  rw [← e, m_inChL W R hx 24 _ FU c (FU_gt (by decide))]
end SAB
section CC
variable {h g : AH} {mk : Nat} {tx : Nat → Nat} {len : Nat} {w : ST} {un : Nat} {us : Nat → ST} {kp : Nat → Bool} {ks : Nat → ST} {C : List Nat} {ρ : Nat → Nat} {rn : Nat} {row : List Int64} {hq : List (Nat × Nat)} {sq : List (Nat × Nat × Bool)}
theorem y_sab (W : MIv h tx len w un us kp ks ρ rn row hq sq) (I : INV w) {o : Nat} (ho' : o < 24) : fX11_inChains h 145 (J o) = some (J (sab w o)) := by
  have R := I.rg
  unfold fX11_inChains
  rw [if_pos (y_h W.1), l_0]
  have e := loop_rec (fun q k c => fX11_inChains_L4 h q 145 (J o) (J c) (J k)) 6 (fun k => bts (fun s => hs w s && decide (plc w o 24 (tp w s) < dep w 24 (tp w s))) k) (some (J (sab w o))) (fun q k hk => by
    try dsimp only
    rw [fX11_inChains_L4]
    simp (disch := omega) only [l_6, J_le, y_0 W.1, m_hs W.2.2.1 R, Option.bind_some]
    rw [if_neg (by omega)]
    unfold fX11_inChains_J41
    have e1 : J k + 1 = J (k + 1) := by rw [l_1, J_add]
    simp only [letF]
    rw [e1]
    conv => rhs; unfold bts
    by_cases h1 : hs w k = true
    · rw [if_pos h1]
      simp (disch := omega) only [m_inCh W.2.2.1 R I.gr hk ho', Option.bind_some, decide_eq_true_eq]
      by_cases h2 : plc w o 24 (tp w k) < dep w 24 (tp w k)
      · rw [if_pos h2, if_pos (by rw [h1, decide_eq_true h2]; rfl), J_bset _ (by omega)]
      · rw [if_neg h2, if_neg (by rw [decide_eq_false h2, Bool.and_false]; decide), l_0, J_or0]
    · rw [if_neg h1, if_neg (fun z => h1 (Bool.and_eq_true_iff.mp z).1), l_0, J_or0]) (fun q => by
    try dsimp only
    rw [fX11_inChains_L4]
    simp (disch := omega) only [l_6, J_le]
    rw [if_pos (by omega)]
    rfl) 6 FU 0 rfl (FU_gt (by decide))
  exact e
def hoA (w : ST) (o : Nat) : Nat := if ho w o = true then sab w o else 4294967295
def hoW (w : ST) (o : Nat) (row : List Int64) : List Int64 := if ho w o = true then [Int32.toInt64 (J (bc (sab w o)))] else row
theorem xc_holders (W : CIk h mk tx len w un us kp ks C row hq sq) (I : INV w) {o : Nat} (ho' : o < 4294967296) : ∃ h' mk', fX10_holders h 0 (J o) = some (J (hoA w o), h') ∧ CIk h' mk' tx len w un us kp ks C (hoW w o row) hq sq ∧ On PC0 h h' := by
  have sl := sab_lt w o
  unfold fX10_holders hoA hoW
  simp (disch := omega) only [x_h W.1, if_true, x_2 W.1, Option.bind_some, c_ho W.2.2.1 I.rg]
  by_cases h0 : ho w o = true
  · obtain ⟨g1, e1, W1, O1⟩ := c_tellSet W (n := sab w o) (by omega)
    rw [if_pos h0, if_pos h0, if_pos h0]
    refine ⟨g1, mk, ?_, W1, O1⟩
    simp (disch := omega) only [c_sab W.2.2.1 I.rg, Option.bind_some, e1]
  · rw [if_neg h0, if_neg h0, if_neg h0, m1_J]
    exact ⟨h, mk, rfl, W, On.rf⟩
theorem xm_holders (W : MIv h tx len w un us kp ks ρ rn row hq sq) (I : INV w) {o : Nat} (ho' : o < 4294967296) : ∃ h', fX11_holders h 145 (J o) = some (J (hoA w o), h') ∧ MIv h' tx len w un us kp ks ρ rn (hoW w o row) hq sq ∧ On PM0 h h' := by
  have sl := sab_lt w o
  obtain ⟨g1, e1, W1, -, O1⟩ := mi_t0 W
  have O1' : On PM0 h g1 := mon O1 (fun k hk => by omega)
  unfold fX11_holders hoA hoW
  simp only [y_h W.1, if_true, e1, Option.bind_some, y_isObject W1 I.rg ho']
  by_cases h0 : ho w o = true
  · obtain ⟨o1, o2⟩ := ho_lt h0
    obtain ⟨g2, e2, W2, O2⟩ := mi_clr W1
    obtain ⟨g3, e3, W3, O3⟩ := mi_tell W2 (by simp) (Int32.toInt64 (J (bc (sab w o))))
    rw [if_pos h0, if_pos h0, if_pos h0]
    refine ⟨g3, ?_, W3, (O1'.trans (mon O2 (fun k hk => by omega))).trans (mon O3 (fun k hk => by omega))⟩
    have b1 : fJ6_bitCount_0f7a4 g2 (J (sab w o)) = some (J (bc (sab w o))) := bc_J (show sab w o < 16777216 by omega)
    rw [e2, Option.bind_some, y_sab W2 I o1, Option.bind_some, b1, Option.bind_some, e3, Option.bind_some, y_sab W3 I o1, Option.bind_some]
  · rw [if_neg h0, if_neg h0, if_neg h0, m1_J]
    exact ⟨g1, rfl, W1, O1'⟩
end CC
