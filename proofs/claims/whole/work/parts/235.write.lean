/-! a write: what it comes to -/
def rvl (C : List Nat) (σ : ST) (s p : Nat) : Int32 := (ev (msr σ s p) C []).headD 0
theorem rvl_of {C : List Nat} {σ : ST} {s p : Nat} {v : Int32} (h : ev (msr σ s p) C [] = [v]) : rvl C σ s p = v := by
  unfold rvl
  rw [h]
  rfl
def wr2 (σ : ST) (s p : Nat) : ST := if nds σ s = true then abvS (ftS σ s p) s else ftS σ s p
def wr3 (σ : ST) (s p : Nat) : ST := put (wr2 σ s p) 1 0 (bclr (wr2 σ s p 1 0) s)
def wrT (σ : ST) (s p : Nat) : Nat := tp (wr3 σ s p) s
def wr4 (σ : ST) (s p : Nat) : ST := if psh (wr3 σ s p) (wrT σ s p) p = true then holdS (wr3 σ s p) (wr3 σ s p 5 (wrT σ s p)) p (wr3 σ s p 6 (8 * wrT σ s p + p)) else wr3 σ s p
def wr6 (σ : ST) (s p v : Nat) : ST := put (holdS (wr4 σ s p) (wrT σ s p) p v) 1 3 ((holdS (wr4 σ s p) (wrT σ s p) p v 1 3 + 1) % 4294967296)
def wrS (C : List Nat) (σ : ST) (s p v : Nat) : ST := if hd (wr4 σ s p) (wrT σ s p) p = true then wr6 σ s p v else if rvl C (wr6 σ s p v) s p ≤ 0 then wr6 σ s p v else (tidS (wr6 σ s p v) s).1
theorem J_mod (n : Nat) : J (n % 4294967296) = J n := J_eqbv (by
  rw [J_bv]
  apply BitVec.eq_of_toNat_eq
  simp)
theorem inv_tid {σ : ST} (I : INV σ) {s : Nat} (h0 : hs σ s = true) : INV (tidS σ s).1 := by
  obtain ⟨rk, I1, H⟩ := I
  let h : AH := ((fun k => if k = 0 then some (.inl (0, 325, .inl (encS σ))) else some (.inr (11, List.replicate 36 (.int 0)))), 0)
  have W : RA h 0 σ := ⟨encS σ, rfl, AS_enc σ⟩
  have M : OBJ 11 36 h 1 (fun _ => .int 0) := ⟨List.replicate 36 (.int 0), rfl, by simp, fun k hk => by rw [List.getElem?_replicate, if_pos hk]⟩
  obtain ⟨h', -, -, -, q1, q2, -⟩ := m_tidy (show (1 : Nat) ≠ 0 by decide) W M I1 H h0
  exact ⟨rk, q1, q2⟩
section WV
variable {σ : ST} {s p v : Nat}
theorem ft_f {f k : Nat} (h8 : f ≠ 8) (h6 : f ≠ 6) : ftS σ s p f k = σ f k := by
  unfold ftS
  split
  · exact hold_f h8 h6
  · rfl
theorem ft_hd {o q : Nat} (h : hd σ o q = true) : hd (ftS σ s p) o q = true := by
  unfold ftS
  split
  · unfold hd at h ⊢
    rw [Bool.and_eq_true, Bool.and_eq_true] at h ⊢
    refine ⟨h.1, h.2.1, ?_⟩
    unfold holdS
    rw [put_f (by decide)]
    by_cases e : o = las σ s
    · rw [e, put_eq, bset_tb, ← e, h.2.2]; rfl
    · rw [put_k e]; exact h.2.2
  · exact h
theorem las_no (hg : pgi σ s p = true) (R : RG σ) (G : GR σ) (h0 : hs σ s = true) (hp : p < 8) : (σ 8 (las σ s)).testBit p = false := by
  obtain ⟨q1, q2, q3⟩ := pgi_ho hg
  obtain ⟨s1, s2, s3⟩ := hs_tp h0 R G
  have c := chn_tp R G s
  have l1 := lst_itr 24 _ c s3
  have d1 : 0 < dep σ 24 (tp σ s) := dep_pos (k := 23) s3
  cases hb : (σ 8 (las σ s)).testBit p with
  | false => rfl
  | true =>
    exfalso
    have hh : hd σ (las σ s) p = true := by
      unfold hd
      rw [decide_eq_true (ho_lt q3).1, decide_eq_true hp, hb]; rfl
    have key : ∀ k o j, chn σ k o → j < dep σ k o → hd σ (itr σ j o) p = true → fh σ p k o ≠ 24 := by
      intro k
      induction k with
      | zero => intro o j _ hj; exact absurd hj (Nat.not_lt_zero j)
      | succ k ih =>
        intro o j ch hj hh
        rcases ch with ch | ⟨c1, c2⟩
        · subst ch; rw [dep_24] at hj; omega
        · unfold fh
          rw [if_pos c1]
          by_cases h2 : hd σ o p = true
          · rw [if_pos h2]; have := (ho_lt c1).1; omega
          · rw [if_neg h2]
            unfold dep at hj
            rw [if_pos c1] at hj
            cases j with
            | zero => exact absurd hh h2
            | succ j => exact ih _ j c2 (by omega) hh
    refine key 24 (tp σ s) (dep σ 24 (tp σ s) - 1) c (by omega) ?_ q1
    rw [← l1]
    exact hh
theorem inv_ft (I : INV σ) (h0 : hs σ s = true) (hp : p < 8) (ht : tot σ 8 + (if pgi σ s p = true then 1 else 0) ≤ 64) : INV (ftS σ s p) ∧ tot (ftS σ s p) 8 = tot σ 8 + (if pgi σ s p = true then 1 else 0) := by
  by_cases hg : pgi σ s p = true
  · obtain ⟨q1, q2, q3⟩ := pgi_ho hg
    have e : ftS σ s p = holdS σ (las σ s) p (ftc σ s p) := by unfold ftS; rw [if_pos hg]
    have t1 := tot_hold (σ := σ) (v := ftc σ s p) (ho_lt q3).1 hp
    rw [las_no hg I.rg I.gr h0 hp, if_neg (by decide)] at t1
    rw [if_pos hg] at ht ⊢
    rw [e]
    exact ⟨inv_hold I q3 hp (ftc_lt I.rg hp) (by omega), t1⟩
  · have e : ftS σ s p = σ := by unfold ftS; rw [if_neg hg]
    rw [e, if_neg hg]
    exact ⟨I, rfl⟩
theorem f2w_le (m : Bool) : f2w σ s p m ≤ 3 := by
  unfold f2w
  split <;> split <;> split <;> omega
def wrOk (σ : ST) (s p : Nat) : Prop := hs σ s = true ∧ p < 8 ∧ wrN σ s p = 0
theorem wrOk_of (h : wrOk σ s p) : rfF σ s p = 0 ∧ (nds σ s = true → frO σ < 24) ∧ tot σ 8 + f2w σ s p (nds σ s) ≤ 64 := by
  obtain ⟨-, -, h⟩ := h
  unfold wrN at h
  by_cases h1 : rfF σ s p = 0
  · rw [if_pos h1] at h
    by_cases h2 : nds σ s = true ∧ ¬ frO σ < 24
    · rw [if_pos h2] at h; omega
    · rw [if_neg h2] at h
      refine ⟨h1, fun z => Classical.byContradiction fun y => h2 ⟨z, y⟩, ?_⟩
      by_cases h3 : tot σ 8 + f2w σ s p (nds σ s) ≤ 64
      · exact h3
      · rw [if_neg h3] at h; omega
  · rw [if_neg h1] at h
    exact absurd h h1
theorem frO_ft : frO (ftS σ s p) = frO σ := by
  unfold frO
  rw [ft_f (by decide) (by decide)]
theorem hs_cg {τ : ST} (h : ∀ k, τ 0 k = σ 0 k) (t : Nat) : hs τ t = hs σ t := by unfold hs; rw [h]
/-- what the stages of a write keep -/
theorem wr_inv (I : INV σ) (hk : wrOk σ s p) (hv : v < 100) : INV (ftS σ s p) ∧ INV (wr2 σ s p) ∧ INV (wr3 σ s p) ∧ INV (wr4 σ s p) ∧ INV (holdS (wr4 σ s p) (wrT σ s p) p v) ∧ INV (wr6 σ s p v) ∧ hs (wr2 σ s p) s = true ∧ hs (wr3 σ s p) s = true ∧ hs (wr6 σ s p v) s = true ∧ ho (wr3 σ s p) (wrT σ s p) = true ∧ ho (wr4 σ s p) (wrT σ s p) = true ∧ (psh (wr3 σ s p) (wrT σ s p) p = true → hd (wr3 σ s p) (wrT σ s p) p = true ∧ wr3 σ s p 5 (wrT σ s p) < 24 ∧ ho (wr3 σ s p) (wr3 σ s p 5 (wrT σ s p)) = true) := by
  obtain ⟨k1, k2, k3⟩ := wrOk_of hk
  obtain ⟨h0, hp, -⟩ := hk
  have R := I.rg
  have G := I.gr
  obtain ⟨s1, s2, s3⟩ := hs_tp h0 R G
  obtain ⟨t1, t2⟩ := ho_lt s3
  have kf : (if pgi σ s p = true then 1 else 0) ≤ f2w σ s p (nds σ s) := by
    unfold f2w
    omega
  obtain ⟨I1, tt1⟩ := inv_ft I h0 hp (by omega)
  have e1 : ∀ k, ftS σ s p 0 k = σ 0 k := fun k => ft_f (by decide) (by decide)
  have h01 : hs (ftS σ s p) s = true := by rw [hs_cg e1]; exact h0
  have I2 : INV (wr2 σ s p) := by
    unfold wr2
    split
    · rename_i hn
      exact inv_abv I1 h01 (by rw [frO_ft]; exact k2 hn)
    · exact I1
  have h02 : hs (wr2 σ s p) s = true := by
    unfold wr2
    split
    · rename_i hn
      unfold hs
      rw [abv_0, if_pos rfl, frO_ft, decide_eq_true s1, decide_eq_true (k2 hn)]
      rfl
    · exact h01
  have tt2 : tot (wr2 σ s p) 8 = tot (ftS σ s p) 8 := by
    unfold wr2
    split
    · exact tot_cg fun k => abv_8
    · rfl
  have I3 : INV (wr3 σ s p) := by
    refine inv_share I2 (bclr_lt (n := 6) I2.rg.2.1.1) (fun t ht hb => ?_)
    rw [bclr_tb, Bool.and_eq_true] at hb
    exact I2.sb t ht hb.1
  have f3 : ∀ {f k : Nat}, f ≠ 1 → wr3 σ s p f k = wr2 σ s p f k := fun hf => put_f hf
  have h03 : hs (wr3 σ s p) s = true := by
    rw [hs_cg (fun k => f3 (by decide))]
    exact h02
  obtain ⟨u1, u2, u3⟩ := hs_tp h03 I3.rg I3.gr
  have hT : ho (wr3 σ s p) (wrT σ s p) = true := u3
  obtain ⟨T1, T2⟩ := ho_lt hT
  have tt3 : tot (wr3 σ s p) 8 = tot (ftS σ s p) 8 := (tot_cg fun k => f3 (by decide)).trans tt2
  -- the top, if no object came
  have Tn : nds σ s = false → wrT σ s p = tp σ s := fun hn => by
    unfold wrT
    rw [u2, f3 (by decide)]
    unfold wr2
    rw [if_neg (by rw [hn]; decide), e1, s2]
  have Ty : nds σ s = true → wrT σ s p = frO σ := fun hn => by
    unfold wrT
    rw [u2, f3 (by decide)]
    unfold wr2
    rw [if_pos hn, abv_0, if_pos rfl, frO_ft]
  have mi := fun hn => fro_miss R (k2 hn)
  have d3 : nds σ s = true → hd (wr3 σ s p) (wrT σ s p) p = false := fun hn => by
    obtain ⟨m2, m4, m5, m7, m8⟩ := mi hn
    rw [Ty hn]
    unfold hd
    rw [f3 (by decide)]
    unfold wr2
    rw [if_pos hn, abv_8]
    have e8 : ftS σ s p 8 (frO σ) = 0 := by
      unfold ftS
      split
      · rename_i hg
        have l2 := (ho_lt (pgi_ho hg).2.2).2
        have : frO σ ≠ las σ s := fun z => by rw [← z] at l2; omega
        unfold holdS
        rw [put_f (by decide), put_k this, m8]
      · exact m8
    rw [e8, Nat.zero_testBit]
    simp
  have p3 : nds σ s = true → psh (wr3 σ s p) (wrT σ s p) p = false := fun hn => by
    obtain ⟨m2, m4, m5, m7, m8⟩ := mi hn
    rw [psh_cp I3.gr I3.rg T1 hp, Ty hn, f3 (by decide)]
    unfold wr2
    rw [if_pos hn, abv_5, ft_f (by decide) (by decide), m5]
    rfl
  have n3 : nds σ s = false → wr3 σ s p = put (ftS σ s p) 1 0 (bclr (wr2 σ s p 1 0) s) := fun hn => by
    unfold wr3
    have : wr2 σ s p = ftS σ s p := by unfold wr2; rw [if_neg (by rw [hn]; decide)]
    rw [this]
  have P : psh (wr3 σ s p) (wrT σ s p) p = true → hd (wr3 σ s p) (wrT σ s p) p = true ∧ wr3 σ s p 5 (wrT σ s p) < 24 ∧ ho (wr3 σ s p) (wr3 σ s p 5 (wrT σ s p)) = true := by
    intro hps
    have hn : nds σ s = false := by
      cases hz : nds σ s with
      | false => rfl
      | true => rw [p3 hz] at hps; cases hps
    have hps' := hps
    rw [psh_cp I3.gr I3.rg T1 hp, Bool.and_eq_true] at hps'
    have c24 : wr3 σ s p 5 (wrT σ s p) < 24 := of_decide_eq_true hps'.1
    refine ⟨?_, c24, ho_of c24 (I3.gr.2.2.1 _ T1 c24)⟩
    have cp := I3.cp _ T1 c24
    have e35 : wr3 σ s p 5 (tp σ s) = σ 5 (tp σ s) := by rw [n3 hn, put_f (by decide), ft_f (by decide) (by decide)]
    have e32 : wr3 σ s p 2 (tp σ s) = σ 2 (tp σ s) := by rw [n3 hn, put_f (by decide), ft_f (by decide) (by decide)]
    rw [Tn hn] at cp c24 ⊢
    rw [e32] at cp
    rw [e35] at c24
    have top24 := I.pg _ t1 t2 cp.2
    have lt := (las_tp R G h0).mpr top24
    by_cases hh : hd σ (tp σ s) p = true
    · have := ft_hd (s := s) (p := p) hh
      rw [n3 hn]
      exact this
    · -- not held: then it was paged in
      have ff : fir σ s p = 24 := by
        show fh σ p (23 + 1) (tp σ s) = 24
        unfold fh
        rw [if_pos s3, if_neg hh, top24, fh_24]
      have pg0 : pgr σ (las σ s) = σ 2 (tp σ s) := by rw [lt]; unfold pgr; rw [if_pos s3]
      have hg : pgi σ s p = true := by
        unfold pgi
        rw [decide_eq_true ff, Bool.true_and, decide_eq_true_eq, pg0]
        unfold rfF at k1
        rw [if_pos ff, pg0] at k1
        by_cases z2 : σ 2 (tp σ s) = 2
        · rw [if_pos z2] at k1; omega
        · rw [if_neg z2] at k1
          by_cases z3 : σ 2 (tp σ s) = 3
          · rw [if_pos z3] at k1; omega
          · have := cp.2
            omega
      have e : ftS σ s p = holdS σ (las σ s) p (ftc σ s p) := by unfold ftS; rw [if_pos hg]
      rw [n3 hn, e, lt]
      unfold hd
      rw [decide_eq_true t1, decide_eq_true hp, put_f (by decide)]
      unfold holdS
      rw [put_f (by decide), put_eq, bset_tb]
      simp
  have tt4 : tot (wr4 σ s p) 8 = tot (ftS σ s p) 8 + (if psh (wr3 σ s p) (wrT σ s p) p = true then 1 else 0) := by
    unfold wr4
    by_cases hps : psh (wr3 σ s p) (wrT σ s p) p = true
    · obtain ⟨y1, y2, y3⟩ := P hps
      rw [if_pos hps, if_pos hps, tot_hold y2 hp, tt3]
      have hps' := hps
      rw [psh_cp I3.gr I3.rg T1 hp, Bool.and_eq_true] at hps'
      have : (wr3 σ s p 8 (wr3 σ s p 5 (wrT σ s p))).testBit p = false := by simpa using hps'.2
      rw [this, if_neg (by decide)]
    · rw [if_neg hps, if_neg hps, tt3, Nat.add_zero]
  have f4 : ∀ {f k : Nat}, f ≠ 8 → f ≠ 6 → wr4 σ s p f k = wr3 σ s p f k := fun h8 h6 => by
    unfold wr4
    split
    · exact hold_f h8 h6
    · rfl
  have hT4 : ho (wr4 σ s p) (wrT σ s p) = true := ho_of T1 (by rw [f4 (by decide) (by decide)]; exact T2)
  -- frames: what f2w counts is enough
  have cnt' : tot (ftS σ s p) 8 + (if psh (wr3 σ s p) (wrT σ s p) p = true then 1 else 0) + (if (wr4 σ s p 8 (wrT σ s p)).testBit p = true then 0 else 1) ≤ 64 := by
    rw [tt1]
    cases hn : nds σ s with
    | true =>
      rw [p3 hn, if_neg (show ¬ false = true by decide)]
      rw [hn] at k3
      have : f2w σ s p true = (if pgi σ s p = true then 1 else 0) + 1 := by
        unfold f2w
        simp
      rw [this] at k3
      have hb : (if (wr4 σ s p 8 (wrT σ s p)).testBit p = true then 0 else 1) ≤ 1 := by split <;> omega
      omega
    | false =>
      rw [hn] at k3
      unfold f2w at k3
      have q1 : psh (wr3 σ s p) (wrT σ s p) p = true → psh σ (tp σ s) p = true := by
        intro hps
        rw [psh_cp I3.gr I3.rg T1 hp, Bool.and_eq_true] at hps
        rw [Tn hn] at hps
        have e35 : wr3 σ s p 5 (tp σ s) = σ 5 (tp σ s) := by rw [n3 hn, put_f (by decide), ft_f (by decide) (by decide)]
        rw [e35] at hps
        rw [psh_cp G R t1 hp, Bool.and_eq_true]
        refine ⟨hps.1, ?_⟩
        have c24 : σ 5 (tp σ s) < 24 := of_decide_eq_true hps.1
        cases hb : (σ 8 (σ 5 (tp σ s))).testBit p with
        | false => rfl
        | true =>
          exfalso
          have hh : hd σ (σ 5 (tp σ s)) p = true := by unfold hd; rw [decide_eq_true c24, decide_eq_true hp, hb]; rfl
          have h2 := hd_lt (ft_hd (s := s) (p := p) hh)
          have : wr3 σ s p 8 (σ 5 (tp σ s)) = ftS σ s p 8 (σ 5 (tp σ s)) := by rw [n3 hn, put_f (by decide)]
          rw [this, h2.2.2] at hps
          cases hps.2
      have q2 : (hd σ (tp σ s) p = true ∨ (pgi σ s p = true ∧ las σ s = tp σ s)) → (wr4 σ s p 8 (wrT σ s p)).testBit p = true := by
        intro hz
        have h3 : hd (wr3 σ s p) (wrT σ s p) p = true := by
          rw [Tn hn]
          have e38 : wr3 σ s p 8 (tp σ s) = ftS σ s p 8 (tp σ s) := by rw [n3 hn, put_f (by decide)]
          rcases hz with hz | ⟨hz1, hz2⟩
          · have := ft_hd (s := s) (p := p) hz
            unfold hd at this ⊢
            rw [e38]
            exact this
          · unfold hd
            rw [e38, decide_eq_true t1, decide_eq_true hp]
            unfold ftS holdS
            rw [if_pos hz1, put_f (by decide), hz2, put_eq, bset_tb]
            simp
        have h4 := (hd_lt h3).2.2
        unfold wr4
        split
        · unfold holdS
          rw [put_f (by decide)]
          by_cases e : wrT σ s p = wr3 σ s p 5 (wrT σ s p)
          · rw [← e, put_eq, bset_tb, h4]; rfl
          · rw [put_k e]; exact h4
        · exact h4
      have a1 : (if psh (wr3 σ s p) (wrT σ s p) p = true then 1 else 0) ≤ (if ¬ false = true ∧ psh σ (tp σ s) p = true then 1 else 0) := by
        by_cases z : psh (wr3 σ s p) (wrT σ s p) p = true
        · rw [if_pos z, if_pos ⟨by decide, q1 z⟩]; exact Nat.le_refl _
        · rw [if_neg z]; exact Nat.zero_le _
      have a2 : (if (wr4 σ s p 8 (wrT σ s p)).testBit p = true then 0 else 1) ≤ (if false = true ∨ ¬ (hd σ (tp σ s) p = true ∨ (pgi σ s p = true ∧ las σ s = tp σ s)) then 1 else 0) := by
        by_cases z : (wr4 σ s p 8 (wrT σ s p)).testBit p = true
        · rw [if_pos z]; exact Nat.zero_le _
        · rw [if_neg z, if_pos (Or.inr (fun y => z (q2 y)))]; exact Nat.le_refl _
      omega
  have I4 : INV (wr4 σ s p) := by
    by_cases hps : psh (wr3 σ s p) (wrT σ s p) p = true
    · obtain ⟨y1, y2, y3⟩ := P hps
      have e4 : wr4 σ s p = holdS (wr3 σ s p) (wr3 σ s p 5 (wrT σ s p)) p (wr3 σ s p 6 (8 * wrT σ s p + p)) := by unfold wr4; rw [if_pos hps]
      have t4 := tt4
      rw [e4] at t4 ⊢
      rw [if_pos hps] at cnt' t4
      exact inv_hold I3 y3 hp (I3.rg.2.2.2.1 _ (by omega)) (by omega)
    · have e4 : wr4 σ s p = wr3 σ s p := by unfold wr4; rw [if_neg hps]
      rw [e4]
      exact I3
  have I5 : INV (holdS (wr4 σ s p) (wrT σ s p) p v) := by
    refine inv_hold I4 hT4 hp hv ?_
    rw [tot_hold T1 hp, tt4]
    exact cnt'
  have I6 : INV (wr6 σ s p v) := inv_wrote I5 (Nat.mod_lt _ (by decide))
  have h06 : hs (wr6 σ s p v) s = true := by
    rw [← h03]
    refine hs_cg (fun k => ?_) s
    unfold wr6
    rw [put_f (by decide), hold_f (by decide) (by decide), f4 (by decide) (by decide)]
  exact ⟨I1, I2, I3, I4, I5, I6, h02, h03, h06, hT, hT4, P⟩
theorem inv_wr (C : List Nat) (I : INV σ) (hk : wrOk σ s p) (hv : v < 100) : INV (wrS C σ s p v) := by
  obtain ⟨I1, I2, I3, I4, I5, I6, h02, h03, h06, hT, hT4, P⟩ := wr_inv I hk hv
  unfold wrS
  split
  · exact I6
  · split
    · exact I6
    · exact inv_tid I6 h06
/-- a write told, and what is then -/
def wrA (C : List Nat) (σ : ST) (s p v : Nat) : Nat × ST := if v < 100 ∧ hs σ s = true ∧ p < 8 then (if wrN σ s p = 0 then (dep (wrS C σ s p v) 24 (tp (wrS C σ s p v) s), wrS C σ s p v) else if wrN σ s p = 4294967293 then (4294967293, awS σ s p) else (wrN σ s p, σ)) else (4294967295, σ)
theorem inv_wrA (C : List Nat) (I : INV σ) : INV (wrA C σ s p v).2 := by
  unfold wrA
  split
  · rename_i h
    split
    · rename_i h1
      exact inv_wr C I ⟨h.2.1, h.2.2, h1⟩ h.1
    · split
      · exact inv_aw I h.2.2 (las_ho I.rg I.gr h.2.1)
      · exact I
  · exact I
end WV
