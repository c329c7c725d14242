/-! peeking, reading, arriving, forking, ending, copying: by the class -/
theorem las_le {σ : ST} (R : RG σ) (s : Nat) : las σ s ≤ 24 := lst_le R 24 _ (tp_le R s)
theorem fir_le {σ : ST} (s p : Nat) : fir σ s p ≤ 24 := fh_le 24 _
theorem pgr_le {σ : ST} (R : RG σ) (n : Nat) : pgr σ n ≤ 3 := by
  unfold pgr
  split
  · rename_i h; have := (ho_lt h).2; omega
  · omega
theorem dgt_le {σ : ST} (R : RG σ) (n : Nat) : dgt σ n ≤ 9 := by
  unfold dgt
  split
  · rename_i h; exact (R.2.2.1 n (ho_lt h).1).2.1
  · omega
theorem pkv_lt {σ : ST} (R : RG σ) (s p : Nat) (hp : p < 4294967296) : pk σ s p < 100 ∨ pk σ s p = 4294967295 ∨ pk σ s p = 4294967293 ∨ pk σ s p = 4294967292 := by
  unfold pk
  have d := dgt_le R (las σ s)
  by_cases h1 : hs σ s = true ∧ p < 8
  · rw [if_pos h1]
    by_cases h2 : fir σ s p = 24
    · rw [if_pos h2]
      split
      · omega
      · split
        · omega
        · split <;> omega
    · rw [if_neg h2]
      have h3 := fir_le (σ := σ) s p
      have := R.2.2.2.1 (8 * fir σ s p + p) (by omega)
      omega
  · rw [if_neg h1]; omega
def awS (σ : ST) (s p : Nat) : ST := put σ 7 (las σ s) (bset (σ 7 (las σ s)) p)
def f2w (σ : ST) (s p : Nat) (m : Bool) : Nat := ((if pgi σ s p = true then 1 else 0) + (if m = true ∨ ¬ (hd σ (tp σ s) p = true ∨ (pgi σ s p = true ∧ las σ s = tp σ s)) then 1 else 0)) + (if ¬ m = true ∧ psh σ (tp σ s) p = true then 1 else 0)
section CP
variable {h : AH} {w c b : Nat} {σ : ST}
theorem neg_l3 : (-3 : Int32) = J 4294967293 := by decide
theorem neg_l4 : (-4 : Int32) = J 4294967292 := by decide
theorem neg_l5 : (-5 : Int32) = J 4294967291 := by decide
theorem neg_l6 : (-6 : Int32) = J 4294967290 := by decide
theorem neg_l2 : (-2 : Int32) = J 4294967294 := by decide
theorem c_isValue {n : Nat} (hn : n < 4294967296) : fX10_isValue h (J n) = some (decide (n < 100)) := by
  unfold fX10_isValue
  simp (disch := omega) only [l_0, l_100, J_lt, J_le]
  by_cases h1 : n < 100
  · rw [if_neg (by omega), if_neg (by omega), decide_eq_true h1]
  · rw [decide_eq_false h1]
    by_cases h2 : 2147483648 ≤ n
    · rw [if_pos (by omega)]
    · rw [if_neg (by omega), if_pos (by omega)]
theorem c_peek (W : WR h w σ) (R : RG σ) {s p : Nat} (hs' : s < 4294967296) (hp' : p < 4294967296) : fX9_peekPage h w (J s) (J p) = some (J (pk σ s p)) := by
  unfold fX9_peekPage pk
  simp (disch := omega) only [wr_h W, if_true, c_hs W R, c_isPage, Option.bind_some, decide_eq_true_eq]
  by_cases h1 : hs σ s = true
  · rw [if_pos h1]
    by_cases h2 : p < 8
    · have f1 := fir_le (σ := σ) s p
      have l1 := las_le R s
      rw [if_pos h2, if_pos ⟨h1, h2⟩]
      simp (disch := omega) only [c_fh W R, Option.bind_some]
      rw [show fh σ p 24 (tp σ s) = fir σ s p from rfl]
      simp (disch := omega) only [l_24, J_inj]
      by_cases h3 : fir σ s p = 24
      · have g1 := pgr_le R (las σ s)
        have g2 := dgt_le R (las σ s)
        rw [if_pos h3, if_pos h3]
        simp (disch := omega) only [c_lst W R, Option.bind_some]
        rw [show lst σ 24 (tp σ s) = las σ s from rfl]
        simp (disch := omega) only [c_pagerOf W R, c_digitOf W R, Option.bind_some, l_1, l_2, l_3, l_10, J_inj, J_mul, J_add]
        by_cases q1 : pgr σ (las σ s) = 1
        · rw [if_pos q1, if_pos q1]
        · rw [if_neg q1, if_neg q1]
          by_cases q2 : pgr σ (las σ s) = 2
          · rw [if_pos q2, if_pos q2]; decide
          · rw [if_neg q2, if_neg q2]
            by_cases q3 : pgr σ (las σ s) = 3
            · rw [if_pos q3, if_pos q3]; decide
            · rw [if_neg q3, if_neg q3]; rfl
      · rw [if_neg h3, if_neg h3]
        have h4 := (fh_hd (σ := σ) (p := p) 24 (tp σ s) h3).1
        simp (disch := omega) only [c_val W R, Option.bind_some]
        rw [show hd σ (fir σ s p) p = true from h4, if_pos rfl]
    · rw [if_neg h2, if_neg (fun z => h2 z.2)]; decide
  · rw [if_neg h1, if_neg (fun z => h1 z.1)]; decide
theorem c_pgi (W : WR h w σ) (R : RG σ) {s p : Nat} (hs' : s < 4294967296) (hp' : p < 4294967296) : fX9_isPagedIn h w (J s) (J p) = some (pgi σ s p) := by
  have f1 := fir_le (σ := σ) s p
  have l1 := las_le R s
  have g1 := pgr_le R (las σ s)
  unfold fX9_isPagedIn pgi
  simp (disch := omega) only [wr_h W, if_true, c_fh W R, Option.bind_some]
  rw [show fh σ p 24 (tp σ s) = fir σ s p from rfl]
  simp (disch := omega) only [l_24, J_inj]
  by_cases h3 : fir σ s p = 24
  · rw [if_pos h3, decide_eq_true h3]
    simp (disch := omega) only [c_lst W R, Option.bind_some]
    rw [show lst σ 24 (tp σ s) = las σ s from rfl]
    simp (disch := omega) only [c_pagerOf W R, Option.bind_some, l_1, J_inj]
    by_cases q1 : pgr σ (las σ s) = 1
    · rw [if_pos q1, decide_eq_true q1]; rfl
    · rw [if_neg q1, decide_eq_false q1]; rfl
  · rw [if_neg h3, decide_eq_false h3]; rfl
theorem c_await_no (W : WR h w σ) (R : RG σ) {f s p : Nat} (hf : f < 4294967296) (hs' : s < 4294967296) (h1 : f ≠ 4294967293) : fX9_awaitIfLate h w (J f) (J s) (J p) = some h := by
  unfold fX9_awaitIfLate
  simp (disch := omega) only [wr_h W, if_true, c_lst W R, Option.bind_some, neg_l3, J_inj]
  rw [if_neg h1]
theorem c_await_yes (W : WRk h w σ c b) (R : RG σ) {s p : Nat} (hs' : s < 4294967296) (hp : p < 8) (h1 : ho σ (las σ s) = true) : ∃ h', fX9_awaitIfLate h w (J 4294967293) (J s) (J p) = some h' ∧ WRk h' w (awS σ s p) c b ∧ Ot w (w + 9) h h' := by
  obtain ⟨l1, l2⟩ := ho_lt h1
  obtain ⟨g1, e1, W1, O1⟩ := wk_s2 W l1 (bset (σ 7 (las σ s)) p)
  refine ⟨g1, ?_, W1, O1⟩
  unfold fX9_awaitIfLate
  simp (disch := omega) only [wr_h W.wr, if_true, c_lst W.wr R, Option.bind_some, neg_l3]
  rw [show lst σ 24 (tp σ s) = las σ s from rfl]
  simp (disch := omega) only [c_ho W.wr R, h1, if_true, Option.bind_some, c_isPage, hp, decide_true, wr_r6 W.wr, wr_a2 W.wr, J_bset, e1]
theorem rg_aw (R : RG σ) {s p : Nat} (hp : p < 8) (h1 : ho σ (las σ s) = true) : RG (awS σ s p) := by
  obtain ⟨l1, l2⟩ := ho_lt h1
  exact rg_put7 R l2 (bset_lt (n := 8) (R.2.2.1 _ l1).2.2.2.2.1 hp)
theorem c_nds (W : WR h w σ) (R : RG σ) {s : Nat} (hs' : s < 4294967296) : fX9_needsObject h w (J s) = some (nds σ s) := by
  have t1 := tp_le R s
  have q1 := hol_lt (σ := σ) (n := tp σ s)
  unfold fX9_needsObject nds
  simp (disch := omega) only [wr_h W, if_true, c_isSharing W R, Option.bind_some]
  cases (σ 1 0).testBit s
  · rfl
  · simp (disch := omega) only [if_true, c_tp W R, c_hol W R, Option.bind_some, l_1, J_le, Bool.true_and]
    by_cases h1 : 1 < hol σ (tp σ s)
    · rw [if_neg (by omega), decide_eq_true h1]
    · rw [if_pos (by omega), decide_eq_false h1]
theorem c_own (W : WR h w σ) (R : RG σ) {s : Nat} (hs' : s < 4294967296) : fX9_ownPages h w (J s) = some (J (if nds σ s = true then 0 else at0 σ 8 (tp σ s))) := by
  have t1 := tp_le R s
  unfold fX9_ownPages
  simp (disch := omega) only [wr_h W, if_true, c_nds W R, c_tp W R, c_heldOf W R, Option.bind_some]
  split <;> rfl
theorem c_psh (W : WR h w σ) (R : RG σ) {o p : Nat} (ho' : o < 4294967296) (hp' : p < 4294967296) : fX9_pushesToCopy h w (J o) (J p) = some (psh σ o p) := by
  have a1 := at24_le (f := 5) (n := o) R (Or.inr rfl)
  unfold fX9_pushesToCopy psh
  simp (disch := omega) only [wr_h W, if_true, c_copyOf W R, c_ho W R, c_hd W R, Option.bind_some]
  cases ho σ (at24 σ 5 o)
  · rfl
  · cases hd σ (at24 σ 5 o) p <;> rfl
theorem c_f2w (W : WR h w σ) (R : RG σ) {s p : Nat} (hs' : s < 4294967296) (hp' : p < 4294967296) (m : Bool) : fX9_framesToWrite h w (J s) (J p) m = some (J (f2w σ s p m)) := by
  have t1 := tp_le R s
  have l1 := las_le R s
  unfold fX9_framesToWrite f2w
  simp (disch := omega) only [wr_h W, if_true, c_tp W R, c_pgi W R, c_hd W R, c_lst W R, Option.bind_some]
  rw [show lst σ 24 (tp σ s) = las σ s from rfl]
  simp (disch := omega) only [J_inj]
  have e92 : ∀ (v s0 s1 : Nat), v < 2 → fX9_framesToWrite_J92 h (J v) (J s0) (J s1) = some (J (s1 + s0 + v)) := by
    intro v s0 s1 hv
    unfold fX9_framesToWrite_J92
    simp (disch := omega) only [l_0, l_1, J_inj, J_add]
    split
    · rename_i hz; rw [hz]
    · rename_i hz; rw [show v = 1 by omega]
  have e82 : ∀ (v6 v7 s0 : Nat), v6 < 2 → v7 < 2 → fX9_framesToWrite_J82 h (J v6) (J v7) (J s0) = some (J (s0 + v6 + v7)) := by
    intro v6 v7 s0 h6 h7
    unfold fX9_framesToWrite_J82
    simp (disch := omega) only [l_0, l_1, J_inj]
    split
    · rename_i hz; rw [e92 v7 0 s0 h7, hz]
    · rename_i hz; rw [e92 v7 1 s0 h7, show v6 = 1 by omega]
  have e70 : ∀ (v5 : Bool) (v6 s0 : Nat), v6 < 2 → s0 < 2 → fX9_framesToWrite_J70 h v5 (J v6) (J s0) = some (J ((if v5 = true then 1 else 0) + v6 + s0)) := by
    intro v5 v6 s0 h6 h7
    unfold fX9_framesToWrite_J70
    cases v5
    · simp only [l_0, if_neg (show ¬ false = true by decide)]
      rw [e82 v6 s0 0 h6 h7]
    · simp only [l_1, if_true]
      rw [e82 v6 s0 1 h6 h7]
  have e49 : ∀ (v5 : Bool) (s0 : Nat), s0 < 2 → fX9_framesToWrite_J49 h w (J p) m (J (tp σ s)) v5 (J s0) = some (J ((if v5 = true then 1 else 0) + s0 + (if ¬ m = true ∧ psh σ (tp σ s) p = true then 1 else 0))) := by
    intro v5 s0 h0
    unfold fX9_framesToWrite_J49
    cases m
    · simp only [if_neg (show ¬ false = true by decide), l_0, l_1]
      rw [c_psh W R (by omega) hp', Option.bind_some]
      cases psh σ (tp σ s) p
      · simp only [if_neg (show ¬ false = true by decide), and_false, if_false]
        rw [e70 v5 s0 0 h0 (by decide)]
        simp
      · simp only [if_true]
        rw [e70 v5 s0 1 h0 (by decide)]
        simp
    · simp only [if_true, l_0]
      rw [e70 v5 s0 0 h0 (by decide)]
      simp
  cases m
  · simp only [if_neg (show ¬ false = true by decide), l_0, l_1, e49 _ 0 (by decide), e49 _ 1 (by decide), false_or]
    by_cases h1 : hd σ (tp σ s) p = true
    · simp [h1]
    · simp only [if_neg h1]
      by_cases h2 : pgi σ s p = true
      · simp only [h2, if_true, true_and]
        by_cases h3 : las σ s = tp σ s
        · simp [h3]
        · simp [h1, h3]
      · simp [h1, h2]
  · simp only [if_true, l_1, e49 _ 1 (by decide), true_or]
/-- what is put above the top -/
def abvS (σ : ST) (s : Nat) : ST := put (put (comeS σ (frO σ) 0 0) 4 (frO σ) (σ 0 s)) 0 s (frO σ)
theorem c_above (W : WRk h w σ c b) (R : RG σ) {s : Nat} (h0 : hs σ s = true) (hf : frO σ < 24) : ∃ h', fX9_putObjectAbove h w (J s) = some h' ∧ WRk h' w (abvS σ s) c b ∧ Ot w (w + 9) h h' := by
  obtain ⟨h1, h2⟩ := hs_lt h0
  obtain ⟨g1, e1, W1, O1⟩ := c_comeO W R (pg := 0) (dg := 0) hf
  have R1 := rg_come R (pg := 0) (dg := 0) hf (by decide) (by decide) (frO_spec R hf)
  obtain ⟨g2, e2, W2, O2⟩ := wk_s3 W1 hf (σ 0 s)
  obtain ⟨g3, e3, W3, O3⟩ := wk_s0 W2 h1 (frO σ)
  have a1 : hs (comeS σ (frO σ) 0 0) s = true := h0
  have a2 : ho (comeS σ (frO σ) 0 0) (frO σ) = true := ho_of hf (by simp [comeS, put])
  have a3 : comeS σ (frO σ) 0 0 0 s = σ 0 s := by simp [comeS, put]
  refine ⟨g3, ?_, W3, (O1.trans O2).trans O3⟩
  unfold fX9_putObjectAbove
  simp (disch := omega) only [wr_h W.wr, if_true, l_0, e1, Option.bind_some, c_hs W1.wr R1, a1, c_ho W1.wr R1, a2, wr_r7 W1.wr, wr_r4 W1.wr, wr_a0 W1.wr, a3, e2, wr_r4 W2.wr, e3]
/-- a late page arrives -/
def arrS (σ : ST) (o p v : Nat) : ST := holdS (put σ 7 o (bclr (σ 7 o) p)) o p v
def arrN (σ : ST) (o p v : Nat) : Nat := if ho σ o = true ∧ p < 8 ∧ v < 100 then (if (σ 7 o).testBit p = true then (if tot σ 8 < 64 then bc (bclr (σ 7 o) p) else 4294967291) else 4294967294) else 4294967295
def arrOk (σ : ST) (o p v : Nat) : Prop := (ho σ o = true ∧ p < 8 ∧ v < 100) ∧ (σ 7 o).testBit p = true ∧ tot σ 8 < 64
theorem tot_lt (R : RG σ) {f : Nat} : tot σ f ≤ 576 := by
  have key : ∀ n, sm (fun o => bc (σ f o)) n ≤ 24 * n := by
    intro n
    induction n with
    | zero => exact Nat.le_refl _
    | succ n ih =>
      show sm _ n + bc _ ≤ _
      have := bc_le (σ f n)
      omega
  exact key 24
theorem rg_arr (R : RG σ) {o p v : Nat} (h0 : ho σ o = true) (hp : p < 8) (hv : v < 100) : RG (arrS σ o p v) := by
  obtain ⟨h1, h2⟩ := ho_lt h0
  have R1 := rg_put7 R h2 (v := bclr (σ 7 o) p) (bclr_lt (n := 8) (R.2.2.1 o h1).2.2.2.2.1)
  exact rg_hold R1 h0 hp hv
theorem c_arrive (W : WRk h w σ c b) (R : RG σ) {o p v : Nat} (ho' : o < 4294967296) (hp' : p < 4294967296) (hv' : v < 4294967296) : ∃ h' τ, fX9_arrivePage h w (J o) (J p) (J v) = some (J (arrN σ o p v), h') ∧ WRk h' w τ c b ∧ Ot w (w + 9) h h' ∧ ((arrOk σ o p v ∧ τ = arrS σ o p v) ∨ (¬ arrOk σ o p v ∧ τ = σ ∧ h' = h)) := by
  have t1 := tot_lt R (f := 8)
  unfold fX9_arrivePage arrN arrOk
  simp (disch := omega) only [wr_h W.wr, if_true, c_ho W.wr R, c_isPage, c_isValue, Option.bind_some, decide_eq_true_eq]
  by_cases h0 : ho σ o = true
  · obtain ⟨h1, h2⟩ := ho_lt h0
    have r1 := R.2.2.1 o h1
    rw [if_pos h0]
    by_cases h3 : p < 8
    · rw [if_pos h3]
      by_cases h4 : v < 100
      · rw [if_pos h4, if_pos ⟨h0, h3, h4⟩]
        simp (disch := omega) only [wr_r6 W.wr, wr_a2 W.wr, Option.bind_some, c_isIn]
        by_cases h5 : (σ 7 o).testBit p = true
        · rw [if_pos h5, if_pos h5]
          simp (disch := omega) only [c_frameTotal W.wr R, Option.bind_some, l_64, J_lt]
          by_cases h6 : tot σ 8 < 64
          · obtain ⟨g1, e1, W1, O1⟩ := wk_s2 W h1 (bclr (σ 7 o) p)
            have R1 := rg_put7 R h2 (v := bclr (σ 7 o) p) (bclr_lt (n := 8) r1.2.2.2.2.1)
            obtain ⟨g2, e2, W2, O2⟩ := c_hold W1 R1 (o := o) (p := p) (v := v) h0 h3
            have a1 : arrS σ o p v 7 o = bclr (σ 7 o) p := by simp [arrS, holdS, put]
            have a2 := bclr_lt (n := 8) (p := p) r1.2.2.2.2.1
            have W2' : WRk g2 w (arrS σ o p v) c b := W2
            refine ⟨g2, arrS σ o p v, ?_, W2, O1.trans O2, Or.inl ⟨⟨⟨h0, h3, h4⟩, h5, h6⟩, rfl⟩⟩
            rw [if_pos (Or.inr h6), if_pos h6]
            simp (disch := omega) only [J_bclr, e1, e2, Option.bind_some, wr_r6 W2'.wr, wr_a2 W2'.wr, a1, bc_J]
          · refine ⟨h, σ, ?_, W, Ot.rf, Or.inr ⟨fun z => h6 z.2.2, rfl, rfl⟩⟩
            rw [if_neg (by omega), if_neg h6, neg_l5]
        · refine ⟨h, σ, ?_, W, Ot.rf, Or.inr ⟨fun z => h5 z.2.1, rfl, rfl⟩⟩
          rw [if_neg h5, if_neg h5, neg_l2]
      · refine ⟨h, σ, ?_, W, Ot.rf, Or.inr ⟨fun z => h4 z.1.2.2, rfl, rfl⟩⟩
        rw [if_neg h4, if_neg (fun z => h4 z.2.2), m1_J]
    · refine ⟨h, σ, ?_, W, Ot.rf, Or.inr ⟨fun z => h3 z.1.2.1, rfl, rfl⟩⟩
      rw [if_neg h3, if_neg (fun z => h3 z.2.1), m1_J]
  · refine ⟨h, σ, ?_, W, Ot.rf, Or.inr ⟨fun z => h0 z.1.1, rfl, rfl⟩⟩
    rw [if_neg h0, if_neg (fun z => h0 z.1), m1_J]
/-- a space ends -/
def endS (σ : ST) (s : Nat) : Nat × ST := relS 24 (put (put (put σ 1 1 (bclr (σ 1 1) s)) 1 0 (bclr (σ 1 0) s)) 0 s 24) (σ 0 s)
theorem rg_end0 (R : RG σ) {s : Nat} (hs' : s < 6) : RG (put (put (put σ 1 1 (bclr (σ 1 1) s)) 1 0 (bclr (σ 1 0) s)) 0 s 24) := by
  have e : put (put (put σ 1 1 (bclr (σ 1 1) s)) 1 0 (bclr (σ 1 0) s)) 0 s 24 = put (put (put σ 1 1 (bclr (σ 1 1) s)) 0 s 24) 1 0 (bclr (σ 1 0) s) := by
    funext f k
    unfold put
    by_cases h1 : f = 0
    · subst h1; simp
    · simp [h1]
  rw [e]
  exact rg_share (rg_endS R hs') (bclr_lt (n := 6) R.2.1.1)
theorem c_end (W : WRk h w σ c b) (R : RG σ) {s : Nat} (h0 : hs σ s = true) : ∃ h', fX9_endSpace h w (J s) = some (J (endS σ s).1, h') ∧ WRk h' w (endS σ s).2 c b ∧ Ot w (w + 9) h h' := by
  obtain ⟨h1, h2⟩ := hs_lt h0
  have r1 := R.2.1
  obtain ⟨g1, e1, W1, O1⟩ := wk_p0 W (bclr (σ 1 1) s)
  obtain ⟨g2, e2, W2, O2⟩ := wk_p1 W1 (bclr (σ 1 0) s)
  obtain ⟨g3, e3, W3, O3⟩ := wk_s0 W2 h1 24
  obtain ⟨g4, e4, W4, O4⟩ := c_release W3 (rg_end0 R h1) (o := σ 0 s) (Nat.le_of_lt h2)
  have a0 : put σ 1 1 (bclr (σ 1 1) s) 1 0 = σ 1 0 := by simp [put]
  have a1 : put (put σ 1 1 (bclr (σ 1 1) s)) 1 0 (bclr (σ 1 0) s) 0 s = σ 0 s := by simp [put]
  refine ⟨g4, ?_, W4, ((O1.trans O2).trans O3).trans O4⟩
  unfold fX9_endSpace
  simp (disch := omega) only [wr_h W.wr, if_true, c_hs W.wr R, Option.bind_some, h0, wr_i0 W.wr, J_bclr, e1, wr_i1 W1.wr, a0, e2, wr_r4 W2.wr, wr_a0 W2.wr, a1, l_24, e3, e4]
  rfl
theorem c_end_no (W : WR h w σ) (R : RG σ) {s : Nat} (hn : s < 4294967296) (h0 : ¬ hs σ s = true) : fX9_endSpace h w (J s) = some (-1, h) := by
  unfold fX9_endSpace
  simp (disch := omega) only [wr_h W, if_true, c_hs W R, Option.bind_some]
  rw [if_neg h0]
end CP
