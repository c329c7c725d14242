/-! reading, forking, copying: by the class -/
def rdN (σ : ST) (s p : Nat) : Nat := if pk σ s p < 2147483648 ∧ pgi σ s p = true ∧ ¬ tot σ 8 < 64 then 4294967291 else pk σ s p
def rdS (σ : ST) (s p : Nat) : ST := if pk σ s p < 2147483648 then (if pgi σ s p = true ∧ tot σ 8 < 64 then holdS σ (las σ s) p (pk σ s p) else σ) else if pk σ s p = 4294967293 then awS σ s p else σ
theorem bc_eq {n N : Nat} (hN : N ≤ 24) (h : n < 2 ^ N) : bc n = cnt (fun i => n.testBit i) N := by
  unfold bc
  have e : 24 = N + (24 - N) := by omega
  rw [e, cnt_add]
  have z : cnt (fun i => n.testBit (N + i)) (24 - N) = 0 := by
    rw [cnt_congr (g := fun _ => false) (fun i _ => tb_hi h (by omega))]
    generalize 24 - N = m
    induction m with
    | zero => rfl
    | succ m ih => show cnt _ m + _ = 0; rw [ih]; rfl
  omega
theorem bc_lm {n N : Nat} (hN : N ≤ 24) (h : n < 2 ^ N) : bc n < N ↔ lm n N 0 < N := by
  have s := lm_spec n N 0 (fun i hi => absurd hi (Nat.not_lt_zero i)) (by rw [Nat.zero_add]; exact tb_hi h (Nat.le_refl _))
  rw [bc_eq hN h]
  have c1 : cnt (fun i => n.testBit i) N ≤ N := cnt_le
  constructor
  · intro h1
    have h2 := s.2.2
    by_cases h3 : lm n N 0 = N
    · exfalso
      have h4 : cnt (fun i => n.testBit i) N = N := by
        rw [cnt_congr (g := fun _ => true) (fun i hi => s.1 i (by omega))]
        generalize N = m
        induction m with
        | zero => rfl
        | succ m ih => show cnt _ m + _ = _; rw [ih]; rfl
      omega
    · omega
  · intro h1
    by_cases h3 : cnt (fun i => n.testBit i) N = N
    · have := cnt_full h3 (lm n N 0) h1
      rw [s.2.1] at this
      cases this
    · omega
section CF
variable {h : AH} {w c b : Nat} {σ : ST}
theorem bc_frO (R : RG σ) : bc (σ 1 2) < 24 ↔ frO σ < 24 := bc_lm (N := 24) (by decide) R.2.1.2.2.1
theorem bc_frS (R : RG σ) : bc (σ 1 1) < 6 ↔ frS σ < 6 := bc_lm (N := 6) (by decide) R.2.1.2.1
theorem pgr_ho {n : Nat} (h : pgr σ n ≠ 0) : ho σ n = true := by
  unfold pgr at h
  by_cases e : ho σ n = true
  · exact e
  · rw [if_neg e] at h; exact absurd rfl h
theorem pk_3 {s p : Nat} (R : RG σ) (hp : p < 4294967296) (h : pk σ s p = 4294967293) : p < 8 ∧ ho σ (las σ s) = true := by
  unfold pk at h
  by_cases h1 : hs σ s = true ∧ p < 8
  · rw [if_pos h1] at h
    refine ⟨h1.2, ?_⟩
    have d := dgt_le R (las σ s)
    by_cases h2 : fir σ s p = 24
    · rw [if_pos h2] at h
      refine pgr_ho fun z => ?_
      rw [z, if_neg (by decide), if_neg (by decide), if_neg (by decide)] at h
      cases h
    · rw [if_neg h2] at h
      have h3 := fir_le (σ := σ) s p
      have := R.2.2.2.1 (8 * fir σ s p + p) (by omega)
      omega
  · rw [if_neg h1] at h; cases h
theorem pk_p {s p : Nat} (h : pk σ s p < 2147483648) : hs σ s = true ∧ p < 8 := by
  unfold pk at h
  by_cases h1 : hs σ s = true ∧ p < 8
  · exact h1
  · rw [if_neg h1] at h; omega
theorem pgi_ho {s p : Nat} (h : pgi σ s p = true) : fir σ s p = 24 ∧ pgr σ (las σ s) = 1 ∧ ho σ (las σ s) = true := by
  unfold pgi at h
  rw [Bool.and_eq_true, decide_eq_true_eq, decide_eq_true_eq] at h
  exact ⟨h.1, h.2, pgr_ho (by omega)⟩
theorem rg_rd (R : RG σ) {s p : Nat} (hp' : p < 4294967296) : RG (rdS σ s p) := by
  have k1 := pkv_lt R s p hp'
  unfold rdS
  split
  · rename_i h1
    split
    · rename_i h2
      exact rg_hold R (pgi_ho h2.1).2.2 (pk_p h1).2 (by omega)
    · exact R
  · split
    · rename_i h2
      obtain ⟨q1, q2⟩ := pk_3 R hp' h2
      exact rg_aw R q1 q2
    · exact R
theorem c_read (W : WRk h w σ c b) (R : RG σ) {s p : Nat} (hs' : s < 4294967296) (hp' : p < 4294967296) : ∃ h', fX9_readPage h w (J s) (J p) = some (J (rdN σ s p), h') ∧ WRk h' w (rdS σ s p) c b ∧ Ot w (w + 9) h h' := by
  have k1 := pkv_lt R s p hp'
  have t1 := tot_lt R (f := 8)
  have l1 := las_le R s
  unfold fX9_readPage rdN rdS
  simp (disch := omega) only [wr_h W.wr, if_true, c_peek W.wr R, Option.bind_some, l_0, J_le]
  by_cases h1 : pk σ s p < 2147483648
  · rw [if_pos (show pk σ s p < 2147483648 ∧ 0 ≤ pk σ s p from ⟨h1, Nat.zero_le _⟩), if_pos h1]
    simp (disch := omega) only [c_pgi W.wr R, Option.bind_some]
    by_cases h2 : pgi σ s p = true
    · obtain ⟨q1, q2, q3⟩ := pgi_ho h2
      rw [if_pos h2]
      simp (disch := omega) only [c_frameTotal W.wr R, Option.bind_some, l_64, J_lt]
      by_cases h3 : tot σ 8 < 64
      · obtain ⟨g1, e1, W1, O1⟩ := c_hold W R (o := las σ s) (p := p) (v := pk σ s p) q3 (pk_p h1).2
        refine ⟨g1, ?_, ?_, O1⟩
        · rw [if_pos (Or.inr h3), if_neg (fun z => z.2.2 h3)]
          simp (disch := omega) only [c_lst W.wr R, Option.bind_some]
          rw [show lst σ 24 (tp σ s) = las σ s from rfl, e1]
          rfl
        · rw [if_pos ⟨h2, h3⟩]; exact W1
      · refine ⟨h, ?_, ?_, Ot.rf⟩
        · rw [if_neg (by omega), if_pos ⟨h1, h2, h3⟩, neg_l5]
        · rw [if_neg (fun z => h3 z.2)]; exact W
    · refine ⟨h, ?_, ?_, Ot.rf⟩
      · rw [if_neg h2, if_neg (fun z => h2 z.2.1)]
      · rw [if_neg (fun z => h2 z.1)]; exact W
  · rw [if_neg (show ¬ (pk σ s p < 2147483648 ∧ 0 ≤ pk σ s p) from fun z => h1 z.1), if_neg (fun z => h1 z.1)]
    simp only [if_neg h1]
    by_cases h2 : pk σ s p = 4294967293
    · obtain ⟨q1, q2⟩ := pk_3 R hp' h2
      obtain ⟨g1, e1, W1, O1⟩ := c_await_yes W R hs' q1 q2
      refine ⟨g1, ?_, ?_, O1⟩
      · rw [h2, e1]; rfl
      · rw [if_pos h2]; exact W1
    · refine ⟨h, ?_, ?_, Ot.rf⟩
      · rw [c_await_no W.wr R (by omega) hs' h2]; rfl
      · rw [if_neg h2]; exact W
def cmpS (σ : ST) (t : Nat) : ST := put (if ho (put (comeS σ (frO σ) 0 0) 4 (frO σ) t) (σ 5 t) = true then put (put (comeS σ (frO σ) 0 0) 4 (frO σ) t) 4 (σ 5 t) (frO σ) else put (comeS σ (frO σ) 0 0) 4 (frO σ) t) 5 t (frO σ)
theorem rg_cmp (R : RG σ) {t : Nat} (ht : ho σ t = true) (hf : frO σ < 24) : RG (cmpS σ t) := by
  obtain ⟨t1, t2⟩ := ho_lt ht
  have R1 := rg_come R (pg := 0) (dg := 0) hf (by decide) (by decide) (frO_spec R hf)
  have R2 := rg_put4 R1 (o := frO σ) (v := t) (by simp [comeS, put]) (by omega)
  have hn : t ≠ frO σ := fun z => frO_spec R hf (by rw [← z]; exact t2)
  unfold cmpS
  refine rg_put5 ?_ ?_ (Nat.le_of_lt hf)
  · split
    · rename_i h1
      exact rg_put4 R2 (ho_lt h1).2 (Nat.le_of_lt hf)
    · exact R2
  · split <;> simp [comeS, put, hn, t2]
theorem c_comeCopy (W : WRk h w σ c b) (R : RG σ) {t : Nat} (ht : ho σ t = true) (hf : frO σ < 24) : ∃ h', fX9_comeCopy h w (J t) = some (J (frO σ), h') ∧ WRk h' w (cmpS σ t) c b ∧ Ot w (w + 9) h h' := by
  obtain ⟨t1, t2⟩ := ho_lt ht
  have hn : t ≠ frO σ := fun z => frO_spec R hf (by rw [← z]; exact t2)
  obtain ⟨g1, e1, W1, O1⟩ := c_comeO W R (pg := 0) (dg := 0) hf
  have R1 := rg_come R (pg := 0) (dg := 0) hf (by decide) (by decide) (frO_spec R hf)
  obtain ⟨g2, e2, W2, O2⟩ := wk_s3 W1 hf t
  have R2 := rg_put4 R1 (o := frO σ) (v := t) (by simp [comeS, put]) (by omega)
  have a1 : ho (comeS σ (frO σ) 0 0) (frO σ) = true := ho_of hf (by simp [comeS, put])
  have a2 : ho (comeS σ (frO σ) 0 0) t = true := ho_of t1 (by simp [comeS, put, hn, t2])
  have a3 : put (comeS σ (frO σ) 0 0) 4 (frO σ) t 5 t = σ 5 t := by simp [comeS, put]
  have r5 := (R.2.2.1 t t1).2.2.2.1
  unfold fX9_comeCopy cmpS
  simp (disch := omega) only [wr_h W.wr, if_true, l_0, e1, Option.bind_some, c_ho W1.wr R1, a1, a2, wr_r7 W1.wr, e2, wr_r8 W2.wr, wr_a4 W2.wr, a3, c_ho W2.wr R2]
  by_cases h1 : ho (put (comeS σ (frO σ) 0 0) 4 (frO σ) t) (σ 5 t) = true
  · obtain ⟨g3, e3, W3, O3⟩ := wk_s3 W2 (ho_lt h1).1 (frO σ)
    obtain ⟨g4, e4, W4, O4⟩ := wk_s4 W3 t1 (frO σ)
    simp only [if_pos h1]
    refine ⟨g4, ?_, W4, ((O1.trans O2).trans O3).trans O4⟩
    unfold fX9_comeCopy_J52
    simp only [wr_r7 W2.wr, wr_r8 W3.wr, Option.bind_some, e3, e4]
  · obtain ⟨g4, e4, W4, O4⟩ := wk_s4 W2 t1 (frO σ)
    simp only [if_neg h1]
    refine ⟨g4, ?_, W4, (O1.trans O2).trans O4⟩
    unfold fX9_comeCopy_J52
    simp only [wr_r8 W2.wr, Option.bind_some, e4]
/-- a fork: who it is, and what is then -/
def frk0 (σ : ST) (s : Nat) : ST := if pgr σ (σ 0 s) = 0 then put σ 1 0 (bset (σ 1 0) s) else cmpS σ (σ 0 s)
def frkT (σ : ST) (s : Nat) : Nat := if pgr σ (σ 0 s) = 0 then σ 0 s else frO σ
def frkS (σ : ST) (s : Nat) : ST := put (put (put (frk0 σ s) 1 1 (bset (σ 1 1) (frS σ))) 0 (frS σ) (frkT σ s)) 1 0 (bset (frk0 σ s 1 0) (frS σ))
def frkN (σ : ST) (s : Nat) : Nat := if hs σ s = true then (if frS σ < 6 then (if ¬ pgr σ (σ 0 s) = 0 ∧ ¬ frO σ < 24 then 4294967290 else frS σ) else 4294967294) else 4294967295
def frkOk (σ : ST) (s : Nat) : Prop := hs σ s = true ∧ frS σ < 6 ∧ (pgr σ (σ 0 s) = 0 ∨ frO σ < 24)
theorem frk0_11 (σ : ST) (s : Nat) : frk0 σ s 1 1 = σ 1 1 := by
  unfold frk0 cmpS
  split
  · simp [put]
  · split <;> simp [put, comeS]
theorem rg_frk0 (R : RG σ) (G : GR σ) {s : Nat} (hk : frkOk σ s) : RG (frk0 σ s) := by
  obtain ⟨h0, h1, h2⟩ := hk
  obtain ⟨s1, s2⟩ := hs_lt h0
  have t1 : ho σ (σ 0 s) = true := ho_of s2 (G.1 s s1 s2)
  unfold frk0
  split
  · exact rg_share R (bset_lt (n := 6) R.2.1.1 s1)
  · rename_i h3
    exact rg_cmp R t1 (h2.resolve_left h3)
theorem frkT_ho (R : RG σ) (G : GR σ) {s : Nat} (hk : frkOk σ s) : ho (frk0 σ s) (frkT σ s) = true := by
  obtain ⟨h0, h1, h2⟩ := hk
  obtain ⟨s1, s2⟩ := hs_lt h0
  have t1 : ho σ (σ 0 s) = true := ho_of s2 (G.1 s s1 s2)
  unfold frk0 frkT
  split
  · exact t1
  · rename_i h3
    refine ho_of (h2.resolve_left h3) ?_
    unfold cmpS
    split <;> simp [put, comeS]
theorem rg_frk (R : RG σ) (G : GR σ) {s : Nat} (hk : frkOk σ s) : RG (frkS σ s) := by
  have R0 := rg_frk0 R G hk
  have e := frk0_11 σ s
  unfold frkS
  rw [← e]
  exact rg_share (rg_newS R0 hk.2.1 (ho_lt (frkT_ho R G hk)).1) (bset_lt (n := 6) R0.2.1.1 hk.2.1)
theorem frS_frk0 {s : Nat} : frS (frk0 σ s) = frS σ := by
  unfold frS
  rw [frk0_11]
theorem c_fork (W : WRk h w σ c b) (R : RG σ) (G : GR σ) {s : Nat} (hs' : s < 4294967296) : ∃ h' τ, fX9_forkSpace h w (J s) = some (J (frkN σ s), h') ∧ WRk h' w τ c b ∧ Ot w (w + 9) h h' ∧ ((frkOk σ s ∧ τ = frkS σ s) ∨ (¬ frkOk σ s ∧ τ = σ ∧ h' = h)) := by
  have r1 := R.2.1
  have c6 : bc (σ 1 1) ≤ 24 := bc_le _
  have c24 : bc (σ 1 2) ≤ 24 := bc_le _
  have tail : ∀ g, frkOk σ s → WRk g w (frk0 σ s) c b → Ot w (w + 9) h g → ∃ h' τ, fX9_forkSpace_J89 g w (J (frkT σ s)) w = some (J (frS σ), h') ∧ WRk h' w τ c b ∧ Ot w (w + 9) h h' ∧ ((frkOk σ s ∧ τ = frkS σ s) ∨ (¬ frkOk σ s ∧ τ = σ ∧ h' = h)) := by
    intro g hk W0 O0
    have R0 := rg_frk0 R G hk
    obtain ⟨g1, e1, W1, O1⟩ := c_comeS W0 R0 (t := frkT σ s) (by rw [frS_frk0]; exact hk.2.1) (frkT_ho R G hk)
    rw [frS_frk0] at e1 W1
    have k6 := hk.2.1
    obtain ⟨g2, e2, W2, O2⟩ := wk_p1 W1 (bset (frk0 σ s 1 0) (frS σ))
    have a1 : put (put (frk0 σ s) 1 1 (bset (frk0 σ s 1 1) (frS σ))) 0 (frS σ) (frkT σ s) 1 0 = frk0 σ s 1 0 := by simp [put]
    refine ⟨g2, frkS σ s, ?_, ?_, (O0.trans O1).trans O2, Or.inl ⟨hk, rfl⟩⟩
    · unfold fX9_forkSpace_J89
      simp (disch := omega) only [e1, Option.bind_some, l_0, J_lt]
      rw [if_neg (by omega)]
      simp (disch := omega) only [wr_i1 W1.wr, a1, Option.bind_some, J_bset, e2]
    · unfold frkS
      rw [← frk0_11 σ s]
      exact W2
  unfold fX9_forkSpace frkN
  simp (disch := omega) only [wr_h W.wr, if_true, c_hs W.wr R, Option.bind_some]
  by_cases h0 : hs σ s = true
  · obtain ⟨s1, s2⟩ := hs_lt h0
    have g1 := pgr_le R (σ 0 s)
    have t1 : ho σ (σ 0 s) = true := ho_of s2 (G.1 s s1 s2)
    rw [if_pos h0, if_pos h0]
    simp (disch := omega) only [c_spaceTotal W.wr R, Option.bind_some, l_6, J_lt]
    by_cases h1 : frS σ < 6
    · rw [if_pos (Or.inr ((bc_frS R).mpr h1)), if_pos h1]
      simp (disch := omega) only [wr_r4 W.wr, wr_a0 W.wr, Option.bind_some, c_pagerOf W.wr R, l_0, J_inj]
      have z0 : J 0 = (0 : Int32) ↔ True := by decide
      have z1 : (1 : Int32) = 0 ↔ False := by decide
      unfold fX9_forkSpace_J42 fX9_forkSpace_J59 fX9_forkSpace_J75
      by_cases h2 : pgr σ (σ 0 s) = 0
      · have hk : frkOk σ s := ⟨h0, h1, Or.inl h2⟩
        obtain ⟨g2, e2, W2, O2⟩ := wk_p1 W (bset (σ 1 0) s)
        have e0 : frk0 σ s = put σ 1 0 (bset (σ 1 0) s) := by unfold frk0; rw [if_pos h2]
        have eT : frkT σ s = σ 0 s := by unfold frkT; rw [if_pos h2]
        obtain ⟨h', τ, q1, q2, q3, q4⟩ := tail g2 hk (by rw [e0]; exact W2) O2
        refine ⟨h', τ, ?_, q2, q3, q4⟩
        rw [if_pos h2]
        simp only [z0, if_true]
        rw [if_neg (show ¬ (¬ pgr σ (σ 0 s) = 0 ∧ ¬ frO σ < 24) from fun z => z.1 h2)]
        simp (disch := omega) only [wr_i1 W.wr, Option.bind_some, J_bset, e2]
        rw [eT] at q1
        exact q1
      · rw [if_neg h2]
        simp only [z1, if_false]
        simp (disch := omega) only [c_objectTotal W.wr R, Option.bind_some, l_24, J_lt]
        by_cases h3 : frO σ < 24
        · have hk : frkOk σ s := ⟨h0, h1, Or.inr h3⟩
          obtain ⟨g2, e2, W2, O2⟩ := c_comeCopy W R t1 h3
          have e0 : frk0 σ s = cmpS σ (σ 0 s) := by unfold frk0; rw [if_neg h2]
          have eT : frkT σ s = frO σ := by unfold frkT; rw [if_neg h2]
          obtain ⟨h', τ, q1, q2, q3, q4⟩ := tail g2 hk (by rw [e0]; exact W2) O2
          refine ⟨h', τ, ?_, q2, q3, q4⟩
          rw [if_pos (show 2147483648 ≤ bc (σ 1 2) ∨ bc (σ 1 2) < 24 from Or.inr ((bc_frO R).mpr h3)), if_neg (show ¬ (¬ pgr σ (σ 0 s) = 0 ∧ ¬ frO σ < 24) from fun z => z.2 h3), e2]
          rw [eT] at q1
          exact q1
        · have h4 : ¬ bc (σ 1 2) < 24 := fun z => h3 ((bc_frO R).mp z)
          refine ⟨h, σ, ?_, W, Ot.rf, Or.inr ⟨fun z => (z.2.2.elim h2 h3), rfl, rfl⟩⟩
          rw [if_neg (by omega), if_pos ⟨h2, h3⟩, neg_l6]
    · have h4 : ¬ bc (σ 1 1) < 6 := fun z => h1 ((bc_frS R).mp z)
      refine ⟨h, σ, ?_, W, Ot.rf, Or.inr ⟨fun z => h1 z.2.1, rfl, rfl⟩⟩
      rw [if_neg (by omega), if_neg h1, neg_l2]
  · refine ⟨h, σ, ?_, W, Ot.rf, Or.inr ⟨fun z => h0 z.1, rfl, rfl⟩⟩
    rw [if_neg h0, if_neg h0, m1_J]
end CF
