/-! what is done to a world, by the class -/
section RGP
variable {σ : ST} (R : RG σ)
theorem rg_put0 (R : RG σ) {s v : Nat} (hs : s < 6) (h0 : σ 0 s < 24) (hv : v < 24) : RG (put σ 0 s v) := by
  refine ⟨fun t ht => ?_, by simpa [put] using R.2.1, by simpa [put] using R.2.2.1, by simpa [put] using R.2.2.2.1, fun t ht => ?_, by simpa [put] using R.2.2.2.2.2.1, by simpa [put] using R.2.2.2.2.2.2⟩
  · by_cases e : t = s
    · subst e; simp [put]; omega
    · simpa [put, e] using R.1 t ht
  · have := R.2.2.2.2.1 t ht
    by_cases e : t = s
    · subst e
      rw [put_eq, put_f (by decide), this, decide_eq_true h0, decide_eq_true hv]
    · simpa [put, e] using this
theorem rg_newS (R : RG σ) {s t : Nat} (hs : s < 6) (ht : t < 24) : RG (put (put σ 1 1 (bset (σ 1 1) s)) 0 s t) := by
  have r1 := R.2.1
  refine ⟨fun u hu => ?_, ⟨by simpa [put] using r1.1, ?_, by simpa [put] using r1.2.2.1, by simpa [put] using r1.2.2.2⟩, by simpa [put] using R.2.2.1, by simpa [put] using R.2.2.2.1, fun u hu => ?_, by simpa [put] using R.2.2.2.2.2.1, by simpa [put] using R.2.2.2.2.2.2⟩
  · by_cases e : u = s
    · subst e; simp [put]; omega
    · simpa [put, e] using R.1 u hu
  · rw [put_f (by decide), put_eq]
    exact bset_lt (n := 6) r1.2.1 hs
  · rw [put_f (by decide), put_eq, bset_tb]
    have := R.2.2.2.2.1 u hu
    by_cases e : u = s
    · subst e; simp [put, ht]
    · simpa [put, e] using this
theorem rg_endS (R : RG σ) {s : Nat} (hs : s < 6) : RG (put (put σ 1 1 (bclr (σ 1 1) s)) 0 s 24) := by
  have r1 := R.2.1
  refine ⟨fun u hu => ?_, ⟨by simpa [put] using r1.1, ?_, by simpa [put] using r1.2.2.1, by simpa [put] using r1.2.2.2⟩, by simpa [put] using R.2.2.1, by simpa [put] using R.2.2.2.1, fun u hu => ?_, by simpa [put] using R.2.2.2.2.2.1, by simpa [put] using R.2.2.2.2.2.2⟩
  · by_cases e : u = s
    · subst e; simp [put]
    · simpa [put, e] using R.1 u hu
  · rw [put_f (by decide), put_eq]
    exact bclr_lt (n := 6) r1.2.1
  · rw [put_f (by decide), put_eq, bclr_tb]
    have := R.2.2.2.2.1 u hu
    by_cases e : u = s
    · subst e; simp [put]
    · simpa [put, e] using this
theorem rg_share (R : RG σ) {v : Nat} (hv : v < 64) : RG (put σ 1 0 v) := by
  have r1 := R.2.1
  refine ⟨by simpa [put] using R.1, ⟨by simpa [put] using hv, by simpa [put] using r1.2.1, by simpa [put] using r1.2.2.1, by simpa [put] using r1.2.2.2⟩, by simpa [put] using R.2.2.1, by simpa [put] using R.2.2.2.1, by simpa [put] using R.2.2.2.2.1, by simpa [put] using R.2.2.2.2.2.1, by simpa [put] using R.2.2.2.2.2.2⟩
theorem rg_wrote (R : RG σ) {v : Nat} (hv : v < 4294967296) : RG (put σ 1 3 v) := by
  have r1 := R.2.1
  refine ⟨by simpa [put] using R.1, ⟨by simpa [put] using r1.1, by simpa [put] using r1.2.1, by simpa [put] using r1.2.2.1, by simpa [put] using hv⟩, by simpa [put] using R.2.2.1, by simpa [put] using R.2.2.2.1, by simpa [put] using R.2.2.2.2.1, by simpa [put] using R.2.2.2.2.2.1, by simpa [put] using R.2.2.2.2.2.2⟩
theorem rg_put3 (R : RG σ) {o v : Nat} (h2 : σ 2 o < 4) (hv : v ≤ 9) : RG (put σ 3 o v) := by
  refine ⟨by simpa [put] using R.1, by simpa [put] using R.2.1, fun u hu => ?_, by simpa [put] using R.2.2.2.1, by simpa [put] using R.2.2.2.2.1, by simpa [put] using R.2.2.2.2.2.1, by simpa [put] using R.2.2.2.2.2.2⟩
  · have := R.2.2.1 u hu
    by_cases e : u = o
    · subst e; simp [put, hv, this]
    · simpa [put, e] using this
theorem rg_put4 (R : RG σ) {o v : Nat} (h2 : σ 2 o < 4) (hv : v ≤ 24) : RG (put σ 4 o v) := by
  refine ⟨by simpa [put] using R.1, by simpa [put] using R.2.1, fun u hu => ?_, by simpa [put] using R.2.2.2.1, by simpa [put] using R.2.2.2.2.1, by simpa [put] using R.2.2.2.2.2.1, fun u hu hn => ?_⟩
  · have := R.2.2.1 u hu
    by_cases e : u = o
    · subst e; simp [put, hv, this]
    · simpa [put, e] using this
  · have h3 : ¬ σ 2 u < 4 := by simpa [put] using hn
    have := R.2.2.2.2.2.2 u hu h3
    by_cases e : u = o
    · subst e; exact absurd h2 h3
    · simpa [put, e] using this
theorem rg_put5 (R : RG σ) {o v : Nat} (h2 : σ 2 o < 4) (hv : v ≤ 24) : RG (put σ 5 o v) := by
  refine ⟨by simpa [put] using R.1, by simpa [put] using R.2.1, fun u hu => ?_, by simpa [put] using R.2.2.2.1, by simpa [put] using R.2.2.2.2.1, by simpa [put] using R.2.2.2.2.2.1, fun u hu hn => ?_⟩
  · have := R.2.2.1 u hu
    by_cases e : u = o
    · subst e; simp [put, hv, this]
    · simpa [put, e] using this
  · have h3 : ¬ σ 2 u < 4 := by simpa [put] using hn
    have := R.2.2.2.2.2.2 u hu h3
    by_cases e : u = o
    · subst e; exact absurd h2 h3
    · simpa [put, e] using this
theorem rg_put7 (R : RG σ) {o v : Nat} (h2 : σ 2 o < 4) (hv : v < 256) : RG (put σ 7 o v) := by
  refine ⟨by simpa [put] using R.1, by simpa [put] using R.2.1, fun u hu => ?_, by simpa [put] using R.2.2.2.1, by simpa [put] using R.2.2.2.2.1, by simpa [put] using R.2.2.2.2.2.1, fun u hu hn => ?_⟩
  · have := R.2.2.1 u hu
    by_cases e : u = o
    · subst e; simp [put, hv, this]
    · simpa [put, e] using this
  · have h3 : ¬ σ 2 u < 4 := by simpa [put] using hn
    have := R.2.2.2.2.2.2 u hu h3
    by_cases e : u = o
    · subst e; exact absurd h2 h3
    · simpa [put, e] using this
theorem rg_put8 (R : RG σ) {o v : Nat} (h2 : σ 2 o < 4) (hv : v < 256) : RG (put σ 8 o v) := by
  refine ⟨by simpa [put] using R.1, by simpa [put] using R.2.1, fun u hu => ?_, by simpa [put] using R.2.2.2.1, by simpa [put] using R.2.2.2.2.1, by simpa [put] using R.2.2.2.2.2.1, fun u hu hn => ?_⟩
  · have := R.2.2.1 u hu
    by_cases e : u = o
    · subst e; simp [put, hv, this]
    · simpa [put, e] using this
  · have h3 : ¬ σ 2 u < 4 := by simpa [put] using hn
    have := R.2.2.2.2.2.2 u hu h3
    by_cases e : u = o
    · subst e; exact absurd h2 h3
    · simpa [put, e] using this
theorem rg_put6 (R : RG σ) {k v : Nat} (hv : v < 100) : RG (put σ 6 k v) := by
  refine ⟨by simpa [put] using R.1, by simpa [put] using R.2.1, by simpa [put] using R.2.2.1, fun u hu => ?_, by simpa [put] using R.2.2.2.2.1, by simpa [put] using R.2.2.2.2.2.1, by simpa [put] using R.2.2.2.2.2.2⟩
  have := R.2.2.2.1 u hu
  by_cases e : u = k
  · subst e; simpa [put] using hv
  · simpa [put, e] using this
def holdS (σ : ST) (o p v : Nat) : ST := put (put σ 8 o (bset (σ 8 o) p)) 6 (8 * o + p) v
theorem rg_hold (R : RG σ) {o p v : Nat} (h0 : ho σ o = true) (hp : p < 8) (hv : v < 100) : RG (holdS σ o p v) := by
  obtain ⟨h1, h2⟩ := ho_lt h0
  exact rg_put6 (rg_put8 R h2 (bset_lt (n := 8) (R.2.2.1 o h1).2.2.2.2.2 hp)) hv
def comeS (σ : ST) (o pg dg : Nat) : ST := put (put (put σ 1 2 (bset (σ 1 2) o)) 2 o pg) 3 o dg
theorem rg_come (R : RG σ) {o pg dg : Nat} (ho : o < 24) (hp : pg < 4) (hd : dg ≤ 9) (hn : ¬ σ 2 o < 4) : RG (comeS σ o pg dg) := by
  have r1 := R.2.1
  have r3 := R.2.2.2.2.2.2 o ho hn
  refine ⟨by simpa [comeS, put] using R.1, ⟨by simpa [comeS, put] using r1.1, by simpa [comeS, put] using r1.2.1, ?_, by simpa [comeS, put] using r1.2.2.2⟩, fun u hu => ?_, by simpa [comeS, put] using R.2.2.2.1, by simpa [comeS, put] using R.2.2.2.2.1, fun u hu => ?_, fun u hu hx => ?_⟩
  · have := bset_lt (n := 24) (a := σ 1 2) (p := o) r1.2.2.1 ho
    simpa [comeS, put] using this
  · have := R.2.2.1 u hu
    by_cases e : u = o
    · subst e; simp [comeS, put, this]; omega
    · simpa [comeS, put, e] using this
  · have := R.2.2.2.2.2.1 u hu
    by_cases e : u = o
    · subst e; simp [comeS, put, bset_tb, hp]
    · simpa [comeS, put, bset_tb, e] using this
  · by_cases e : u = o
    · subst e; exact absurd hp (by simpa [comeS, put] using hx)
    · have := R.2.2.2.2.2.2 u hu (by simpa [comeS, put, e] using hx)
      simpa [comeS, put, e] using this
/-- whose copy o was, of that x is (24: none): of the first n -/
def pasS (σ : ST) (o x n : Nat) : ST := fun f k => if f = 5 ∧ k < n ∧ σ 5 k = o then x else σ f k
theorem pas_f {o x n f k : Nat} (h : f ≠ 5) : pasS σ o x n f k = σ f k := by simp [pasS, h]
theorem rg_pas (R : RG σ) {o x : Nat} (ho : o < 24) (hx : x ≤ 24) : RG (pasS σ o x 24) := by
  refine ⟨by simpa [pasS] using R.1, by simpa [pasS] using R.2.1, fun u hu => ?_, by simpa [pasS] using R.2.2.2.1, by simpa [pasS] using R.2.2.2.2.1, by simpa [pasS] using R.2.2.2.2.2.1, fun u hu hn => ?_⟩
  · have := R.2.2.1 u hu
    by_cases e : σ 5 u = o
    · simp [pasS, hu, e, hx, this]
    · simpa [pasS, e] using this
  · have := R.2.2.2.2.2.2 u hu (by simpa [pasS] using hn)
    have e : ¬ σ 5 u = o := by omega
    simpa [pasS, e] using this
def remS (σ : ST) (o x : Nat) : ST := put (put (put (put (put (put (put (pasS σ o x 24) 1 2 (bclr (σ 1 2) o)) 8 o 0) 7 o 0) 4 o 24) 5 o 24) 2 o 4) 3 o 0
theorem rg_rem (R : RG σ) {o x : Nat} (ho : o < 24) (hx : x ≤ 24) : RG (remS σ o x) := by
  have P := rg_pas R ho hx
  have r1 := P.2.1
  refine ⟨by simpa [remS, put] using P.1, ⟨by simpa [remS, put] using r1.1, by simpa [remS, put] using r1.2.1, ?_, by simpa [remS, put] using r1.2.2.2⟩, fun u hu => ?_, by simpa [remS, put] using P.2.2.2.1, by simpa [remS, put] using P.2.2.2.2.1, fun u hu => ?_, fun u hu hn => ?_⟩
  · have := bclr_lt (n := 24) (a := σ 1 2) (p := o) R.2.1.2.2.1
    simpa [remS, put] using this
  · have := P.2.2.1 u hu
    by_cases e : u = o
    · subst e; simp [remS, put]
    · simpa [remS, put, e] using this
  · have := R.2.2.2.2.2.1 u hu
    by_cases e : u = o
    · subst e; simp [remS, put, bclr_tb]
    · simpa [remS, put, bclr_tb, e, pasS] using this
  · by_cases e : u = o
    · subst e; simp [remS, put]
    · have := P.2.2.2.2.2.2 u hu (by simpa [remS, put, e] using hn)
      simpa [remS, put, e] using this
end RGP
section CM
variable {h : AH} {w c b : Nat} {σ : ST}
theorem wc_r4 {A : Nat → Nat → Int32} {I : Nat → Int32} (C : WC h w A I) : gR h 9 w 4 = some (w + 1) := gR_at C.1 rfl
theorem wc_r5 {A : Nat → Nat → Int32} {I : Nat → Int32} (C : WC h w A I) : gR h 9 w 5 = some (w + 2) := gR_at C.1 rfl
theorem wc_r6 {A : Nat → Nat → Int32} {I : Nat → Int32} (C : WC h w A I) : gR h 9 w 6 = some (w + 3) := gR_at C.1 rfl
theorem wc_r7 {A : Nat → Nat → Int32} {I : Nat → Int32} (C : WC h w A I) : gR h 9 w 7 = some (w + 4) := gR_at C.1 rfl
theorem wc_r8 {A : Nat → Nat → Int32} {I : Nat → Int32} (C : WC h w A I) : gR h 9 w 8 = some (w + 5) := gR_at C.1 rfl
theorem wc_r9 {A : Nat → Nat → Int32} {I : Nat → Int32} (C : WC h w A I) : gR h 9 w 9 = some (w + 6) := gR_at C.1 rfl
theorem wc_r10 {A : Nat → Nat → Int32} {I : Nat → Int32} (C : WC h w A I) : gR h 9 w 10 = some (w + 7) := gR_at C.1 rfl
theorem wc_r11 {A : Nat → Nat → Int32} {I : Nat → Int32} (C : WC h w A I) : gR h 9 w 11 = some (w + 8) := gR_at C.1 rfl
theorem c_hold (W : WRk h w σ c b) (R : RG σ) {o p v : Nat} (h0 : ho σ o = true) (hp : p < 8) : ∃ h', fX9_hold h w (J o) (J p) (J v) = some h' ∧ WRk h' w (holdS σ o p v) c b ∧ Ot w (w + 9) h h' := by
  obtain ⟨h2, h3⟩ := ho_lt h0
  obtain ⟨h1', h2', e1, ⟨A, I, C1⟩, e2, W2, O2⟩ := wk_hold W (v := v) h2 hp
  refine ⟨h2', ?_, W2, O2⟩
  unfold fX9_hold
  simp (disch := omega) only [wr_h W.wr, if_true, c_ho W.wr R, Option.bind_some, h0, c_isPage, hp, decide_true, wr_r5 W.wr, wr_a1 W.wr, J_bset, e1, wc_r11 C1, l_8, J_mul, J_add, Nat.mul_comm o 8, e2]
theorem c_setDigit (W : WRk h w σ c b) (R : RG σ) {o v : Nat} (h0 : ho σ o = true) : ∃ h', fX9_setDigit h w (J o) (J v) = some h' ∧ WRk h' w (put σ 3 o v) c b ∧ Ot w (w + 9) h h' := by
  obtain ⟨h2, h3⟩ := ho_lt h0
  obtain ⟨h1, e1, W1, O1⟩ := wk_s6 W h2 v
  refine ⟨h1, ?_, W1, O1⟩
  unfold fX9_setDigit
  simp (disch := omega) only [wr_h W.wr, if_true, c_ho W.wr R, Option.bind_some, h0, wr_r10 W.wr, e1]
theorem frO_spec (R : RG σ) (h : frO σ < 24) : ¬ σ 2 (frO σ) < 4 := by
  have r1 := R.2.1.2.2.1
  have s := lm_spec (σ 1 2) 24 0 (fun i hi => absurd hi (Nat.not_lt_zero i)) (tb_hi (n := 24) r1 (by omega))
  have := s.2.1
  rw [show lm (σ 1 2) 24 0 = frO σ from rfl, R.2.2.2.2.2.1 _ h] at this
  exact of_decide_eq_false this
theorem frO_le (R : RG σ) : frO σ ≤ 24 := by
  have r1 := R.2.1.2.2.1
  have s := lm_spec (σ 1 2) 24 0 (fun i hi => absurd hi (Nat.not_lt_zero i)) (tb_hi (n := 24) r1 (by omega))
  have := s.2.2
  unfold frO
  omega
theorem frS_le (R : RG σ) : frS σ ≤ 6 := by
  have r1 := R.2.1.2.1
  have s := lm_spec (σ 1 1) 6 0 (fun i hi => absurd hi (Nat.not_lt_zero i)) (tb_hi (n := 6) r1 (by omega))
  have := s.2.2
  unfold frS
  omega
theorem frS_spec (R : RG σ) (h : frS σ < 6) : σ 0 (frS σ) = 24 := by
  have r1 := R.2.1.2.1
  have s := lm_spec (σ 1 1) 6 0 (fun i hi => absurd hi (Nat.not_lt_zero i)) (tb_hi (n := 6) r1 (by omega))
  have := s.2.1
  rw [show lm (σ 1 1) 6 0 = frS σ from rfl, R.2.2.2.2.1 _ h] at this
  have h1 := of_decide_eq_false this
  have := R.1 _ h
  omega
theorem c_comeO (W : WRk h w σ c b) (R : RG σ) {pg dg : Nat} (hf : frO σ < 24) : ∃ h', fX9_comeObject h w (J pg) (J dg) = some (J (frO σ), h') ∧ WRk h' w (comeS σ (frO σ) pg dg) c b ∧ Ot w (w + 9) h h' := by
  have r1 := R.2.1.2.2.1
  have hn := frO_spec R hf
  have r2 := R.2.2.2.2.2.2 _ hf hn
  obtain ⟨A, I, C, S, K⟩ := W
  have W' : WR h w σ := ⟨A, I, C, S⟩
  obtain ⟨h1, e1, C1, O1⟩ := wc_p2 C (J (bset (σ 1 2) (frO σ)))
  obtain ⟨h2, e2, C2, O2⟩ := wc_s5 C1 hf (J pg)
  obtain ⟨h3, e3, C3, O3⟩ := wc_s6 C2 hf (J dg)
  refine ⟨h3, ?_, ⟨_, _, C3, ⟨?_, by simpa [comeS, put] using S.2.1, by simpa [comeS, put] using S.2.2.1, by simpa [comeS, put] using S.2.2.2.1, by simpa [comeS, put] using S.2.2.2.2.1, by simpa [comeS, put] using S.2.2.2.2.2.1, ?_, ?_, by simpa [comeS, put] using S.2.2.2.2.2.2.2.2⟩, by simpa using K⟩, (O1.trans O2).trans O3⟩
  · unfold fX9_comeObject
    have e4 := c_lm (h := h) (N := 24) (n := σ 1 2) (by decide) r1
    rw [show lm (σ 1 2) 24 0 = frO σ from rfl] at e4
    simp (disch := omega) only [wr_h W', if_true, wr_i2 W', Option.bind_some, l_24, e4, J_lt, J_bset, e1, wc_r9 C1, e2, wc_r10 C2, e3]
    rw [if_pos (Or.inr hf)]
  · simp [comeS, put, S.1.1, S.1.2.1, S.1.2.2.1, S.1.2.2.2]
  · intro o' ho' h4
    by_cases e : o' = frO σ
    · subst e; simp [comeS, put]
    · simpa [comeS, put, e] using S.2.2.2.2.2.2.1 o' ho' (by simpa [comeS, put, e] using h4)
  · intro o' ho' h4
    by_cases e : o' = frO σ
    · subst e; simp [comeS, put]
    · simpa [comeS, put, e] using S.2.2.2.2.2.2.2.1 o' ho' (by simpa [comeS, put, e] using h4)
theorem c_comeO_no (W : WR h w σ) (R : RG σ) {x y : Int32} (hf : ¬ frO σ < 24) : fX9_comeObject h w x y = some (J 24, h) := by
  have r1 := R.2.1.2.2.1
  have e4 := c_lm (h := h) (N := 24) (n := σ 1 2) (by decide) r1
  have := frO_le R
  rw [show lm (σ 1 2) 24 0 = frO σ from rfl, show frO σ = 24 by omega] at e4
  unfold fX9_comeObject
  simp (disch := omega) only [wr_h W, if_true, wr_i2 W, Option.bind_some, l_24, e4, J_lt]
  rw [if_neg (by omega)]
theorem c_comeS (W : WRk h w σ c b) (R : RG σ) {t : Nat} (hf : frS σ < 6) (ht : ho σ t = true) : ∃ h', fX9_comeSpace h w (J t) = some (J (frS σ), h') ∧ WRk h' w (put (put σ 1 1 (bset (σ 1 1) (frS σ))) 0 (frS σ) t) c b ∧ Ot w (w + 9) h h' := by
  have r1 := R.2.1.2.1
  obtain ⟨ht1, ht2⟩ := ho_lt ht
  obtain ⟨h1, e1, W1, O1⟩ := wk_p0 W (bset (σ 1 1) (frS σ))
  obtain ⟨h2, e2, W2, O2⟩ := wk_s0 W1 hf t
  refine ⟨h2, ?_, W2, O1.trans O2⟩
  unfold fX9_comeSpace
  have e4 := c_lm (h := h) (N := 6) (n := σ 1 1) (by decide) r1
  rw [show lm (σ 1 1) 6 0 = frS σ from rfl] at e4
  simp (disch := omega) only [wr_h W.wr, if_true, wr_i0 W.wr, Option.bind_some, l_6, e4, J_le]
  rw [if_neg (by omega)]
  simp (disch := omega) only [c_ho W.wr R, ht, if_true, Option.bind_some, J_bset, e1, wr_r4 W1.wr, e2]
theorem c_comeS_no (W : WR h w σ) (R : RG σ) {x : Int32} (hf : ¬ frS σ < 6) : fX9_comeSpace h w x = some (-1, h) := by
  have r1 := R.2.1.2.1
  have e4 := c_lm (h := h) (N := 6) (n := σ 1 1) (by decide) r1
  have := frS_le R
  rw [show lm (σ 1 1) 6 0 = frS σ from rfl, show frS σ = 6 by omega] at e4
  unfold fX9_comeSpace
  simp (disch := omega) only [wr_h W, if_true, wr_i0 W, Option.bind_some, l_6, e4, J_le]
  rw [if_pos (by omega)]
theorem pas_succ_y {o x k : Nat} (hk : k < 24) (e : σ 5 k = o) : put (pasS σ o x k) 5 k x = pasS σ o x (k + 1) := by
  funext f j
  unfold put pasS
  by_cases h1 : f = 5
  · subst h1
    by_cases h2 : j = k
    · subst h2; simp [e]
    · simp only [h2, and_false, if_false, true_and]
      by_cases h3 : j < k
      · simp [h3, show j < k + 1 by omega]
      · simp [h3, show ¬ j < k + 1 by omega]
  · simp [h1]
theorem pas_succ_n {o x k : Nat} (e : ¬ σ 5 k = o) : pasS σ o x k = pasS σ o x (k + 1) := by
  funext f j
  unfold pasS
  by_cases h1 : f = 5
  · subst h1
    by_cases h2 : j = k
    · subst h2; simp [e]
    · by_cases h3 : j < k
      · simp [h3, show j < k + 1 by omega]
      · simp [h3, show ¬ j < k + 1 by omega]
  · simp [h1]
theorem c_pass_L (R : RG σ) {o x : Nat} (ho : o < 24) (hx : x ≤ 24) : ∀ m n k h, k + m = 24 → m < n → WRk h w (pasS σ o x k) c b → ∃ h', fX9_passCopy_L2 n h w (J o) (J x) (J k) = some h' ∧ WRk h' w (pasS σ o x 24) c b ∧ Ot w (w + 9) h h'
  | 0, n + 1, k, h, h1, h2, W => by
    have : k = 24 := by omega
    subst this
    refine ⟨h, ?_, W, Ot.rf⟩
    rw [fX9_passCopy_L2]
    simp (disch := omega) only [l_24, J_le]
    rw [if_pos (by omega)]
  | m + 1, n + 1, k, h, h1, h2, W => by
    have hk : k < 24 := by omega
    have r1 := (R.2.2.1 k hk).2.2.2.1
    have e5 : pasS σ o x k 5 k = σ 5 k := by simp [pasS]
    have e1 : J k + 1 = J (k + 1) := by rw [l_1, J_add]
    rw [fX9_passCopy_L2]
    simp (disch := omega) only [l_24, J_le]
    rw [if_neg (by omega)]
    simp (disch := omega) only [wr_r8 W.wr, wr_a4 W.wr, Option.bind_some, e5, J_inj, letF, e1]
    by_cases e : σ 5 k = o
    · obtain ⟨h3, e3, W3, O3⟩ := wk_s4 W hk x
      rw [pas_succ_y hk e] at W3
      obtain ⟨h4, e4, W4, O4⟩ := c_pass_L R ho hx m n (k + 1) h3 (by omega) (by omega) W3
      refine ⟨h4, ?_, W4, O3.trans O4⟩
      rw [if_pos e, e3]
      exact e4
    · rw [pas_succ_n e] at W
      obtain ⟨h4, e4, W4, O4⟩ := c_pass_L R ho hx m n (k + 1) h (by omega) (by omega) W
      refine ⟨h4, ?_, W4, O4⟩
      rw [if_neg e]
      exact e4
theorem pas_0 {o x : Nat} : pasS σ o x 0 = σ := by
  funext f k
  simp [pasS]
theorem c_pass (W : WRk h w σ c b) (R : RG σ) {o x : Nat} (ho : o < 24) (hx : x ≤ 24) : ∃ h', fX9_passCopy h w (J o) (J x) = some h' ∧ WRk h' w (pasS σ o x 24) c b ∧ Ot w (w + 9) h h' := by
  unfold fX9_passCopy
  simp only [wr_h W.wr, if_true, l_0]
  exact c_pass_L R ho hx 24 FU 0 h rfl (FU_gt (by decide)) (by rw [pas_0]; exact W)
theorem wk_gone (W : WRk h w σ c b) (o : Nat) : WRk h w (put (put σ 2 o 4) 3 o 0) c b := by
  obtain ⟨A, I, C, S, K⟩ := W
  refine ⟨A, I, C, ⟨by simpa [put] using S.1, by simpa [put] using S.2.1, by simpa [put] using S.2.2.1, by simpa [put] using S.2.2.2.1, by simpa [put] using S.2.2.2.2.1, by simpa [put] using S.2.2.2.2.2.1, ?_, ?_, by simpa [put] using S.2.2.2.2.2.2.2.2⟩, K⟩
  · intro o' ho' h4
    by_cases e : o' = o
    · subst e; simp [put] at h4
    · simpa [put, e] using S.2.2.2.2.2.2.1 o' ho' (by simpa [put, e] using h4)
  · intro o' ho' h4
    by_cases e : o' = o
    · subst e; simp [put] at h4
    · simpa [put, e] using S.2.2.2.2.2.2.2.1 o' ho' (by simpa [put, e] using h4)
theorem c_remove (W : WRk h w σ c b) (R : RG σ) {o x : Nat} (h0 : ho σ o = true) (hx : x ≤ 24) : ∃ h', fX9_remove h w (J o) (J x) = some h' ∧ WRk h' w (remS σ o x) c b ∧ Ot w (w + 9) h h' := by
  obtain ⟨h2, h3⟩ := ho_lt h0
  have r1 := R.2.1.2.2.1
  obtain ⟨g1, e1, W1, O1⟩ := c_pass W R h2 hx
  have b2 : pasS σ o x 24 1 2 = σ 1 2 := pas_f (by decide)
  obtain ⟨g2, e2, W2, O2⟩ := wk_p2 W1 (bclr (σ 1 2) o)
  obtain ⟨g3, e3, W3, O3⟩ := wk_s1 W2 h2 0 (fun p hp => by rw [Nat.zero_testBit] at hp; cases hp)
  obtain ⟨g4, e4, W4, O4⟩ := wk_s2 W3 h2 0
  obtain ⟨g5, e5, W5, O5⟩ := wk_s3 W4 h2 24
  obtain ⟨g6, e6, W6, O6⟩ := wk_s4 W5 h2 24
  refine ⟨g6, ?_, wk_gone W6 o, ((((O1.trans O2).trans O3).trans O4).trans O5).trans O6⟩
  unfold fX9_remove
  simp (disch := omega) only [wr_h W.wr, if_true, c_ho W.wr R, Option.bind_some, h0, e1, wr_i2 W1.wr, b2, J_bclr, e2, wr_r5 W2.wr, l_0, l_24, e3, wr_r6 W3.wr, e4, wr_r7 W4.wr, e5, wr_r8 W5.wr, e6]
def relS : Nat → ST → Nat → Nat × ST
  | 0, σ, _ => (0, σ)
  | k + 1, σ, o => if ho σ o = true ∧ hol σ o = 0 then ((relS k (remS σ o 24) (σ 4 o)).1 + 1, (relS k (remS σ o 24) (σ 4 o)).2) else (0, σ)
theorem rg_rel : ∀ k {σ : ST} {o : Nat}, RG σ → RG (relS k σ o).2
  | 0, _, _, R => R
  | k + 1, σ, o, R => by
    unfold relS
    split
    · rename_i h1
      exact rg_rel k (rg_rem R (ho_lt h1.1).1 (Nat.le_refl _))
    · exact R
theorem hol_lt {n : Nat} : hol σ n ≤ 30 := by
  unfold hol
  have h1 : cnt (fun s => decide (σ 0 s = n)) 6 ≤ 6 := cnt_le
  have h2 : cnt (fun o => decide (σ 4 o = n)) 24 ≤ 24 := cnt_le
  omega
theorem c_rel_L : ∀ m n k o h (σ : ST), k + m = 24 → m < n → WRk h w σ c b → RG σ → o ≤ 24 → ∃ h', fX9_release_L4 n h w (J k) (J o) = some (J (k + (relS m σ o).1), h') ∧ WRk h' w (relS m σ o).2 c b ∧ Ot w (w + 9) h h'
  | 0, n + 1, k, o, h, σ, h1, h2, W, R, h3 => by
    refine ⟨h, ?_, W, Ot.rf⟩
    rw [fX9_release_L4]
    simp (disch := omega) only [l_24, J_le]
    rw [if_pos (by omega)]
    rfl
  | m + 1, n + 1, k, o, h, σ, h1, h2, W, R, h3 => by
    have q1 := hol_lt (σ := σ) (n := o)
    rw [fX9_release_L4]
    unfold relS
    simp (disch := omega) only [l_24, J_le, c_ho W.wr R, Option.bind_some]
    rw [if_neg (by omega)]
    by_cases e : ho σ o = true
    · obtain ⟨e1, e2⟩ := ho_lt e
      have r1 := (R.2.2.1 o e1).2.2.1
      rw [if_pos e]
      simp (disch := omega) only [c_hol W.wr R, Option.bind_some, l_0, J_inj]
      by_cases e3 : hol σ o = 0
      · obtain ⟨g1, f1, W1, O1⟩ := c_remove W R e (x := 24) (Nat.le_refl _)
        obtain ⟨g2, f2, W2, O2⟩ := c_rel_L m n (k + 1) (σ 4 o) g1 (remS σ o 24) (by omega) (by omega) W1 (rg_rem R e1 (Nat.le_refl _)) r1
        refine ⟨g2, ?_, ?_, O1.trans O2⟩
        · rw [if_pos e3, if_pos ⟨e, e3⟩]
          simp (disch := omega) only [wr_r7 W.wr, wr_a3 W.wr, Option.bind_some, f1, letF, l_1, J_add, f2]
          congr 3
          omega
        · rw [if_pos ⟨e, e3⟩]
          exact W2
      · refine ⟨h, ?_, ?_, Ot.rf⟩
        · rw [if_neg e3, if_neg (fun z => e3 z.2)]
          rfl
        · rw [if_neg (fun z => e3 z.2)]
          exact W
    · refine ⟨h, ?_, ?_, Ot.rf⟩
      · rw [if_neg e, if_neg (fun z => e z.1)]
        rfl
      · rw [if_neg (fun z => e z.1)]
        exact W
theorem c_release (W : WRk h w σ c b) (R : RG σ) {o : Nat} (ho : o ≤ 24) : ∃ h', fX9_release h w (J o) = some (J (relS 24 σ o).1, h') ∧ WRk h' w (relS 24 σ o).2 c b ∧ Ot w (w + 9) h h' := by
  unfold fX9_release
  simp only [wr_h W.wr, if_true, l_0]
  have := c_rel_L (w := w) (c := c) (b := b) 24 FU 0 o h σ rfl (FU_gt (by decide)) W R ho
  rw [Nat.zero_add] at this
  exact this
end CM
