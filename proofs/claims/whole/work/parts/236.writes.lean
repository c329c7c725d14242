/-! a write: by the class, by the reference -/
abbrev PW (w r : Nat) : Nat → Prop := fun i => (w ≤ i ∧ i < w + 9) ∨ (r ≤ i ∧ i < r + 3)
/-- a rule is good: it always comes to one number -/
def GR1 (C : List Nat) : Prop := PC C ∧ ∀ e : Nat → Int32, ∃ v, ev e C [] = [v]
theorem rvl_g {C : List Nat} (g : GR1 C) (σ : ST) (s p : Nat) : ev (msr σ s p) C [] = [rvl C σ s p] := by
  obtain ⟨v, hv⟩ := g.2 (msr σ s p)
  rw [hv, rvl_of hv]
section CW
variable {h : AH} {w r c b : Nat} {σ : ST} {C : List Nat}
theorem WRk.ot {h' : AH} {lo hi : Nat} (W : WRk h w σ c b) (O : Ot lo hi h h') (hw : w + 9 ≤ lo ∨ hi ≤ w) : WRk h' w σ c b := W.frame O hw
theorem bclr_J6 {x s : Nat} (hx : x < 64) (hs : s < 6) : J x &&& ((1 <<< (J s &&& 31)) ^^^ (-1)) = J (bclr x s) := J_bclr (by omega) (by omega)
theorem pk_bad {s p : Nat} (h : ¬ (hs σ s = true ∧ p < 8)) : pk σ s p = 4294967295 := by
  unfold pk
  rw [if_neg h]
theorem c_write (W : WRk h w σ c b) (I : INV σ) (U : RU h r C) (g : GR1 C) (hwr : w + 9 ≤ r ∨ r + 3 ≤ w) {s p v : Nat} (hs' : s < 4294967296) (hp' : p < 4294967296) (hv' : v < 4294967296) : ∃ h' c' b', fX9_writePage h w (J s) (J p) (J v) r = some (J (wrA C σ s p v).1, h') ∧ WRk h' w (wrA C σ s p v).2 c' b' ∧ RU h' r C ∧ On (PW w r) h h' := by
  have R := I.rg
  have G := I.gr
  have tt := tot_lt R (f := 8)
  have ow : ∀ {g1 g2 : AH}, Ot w (w + 9) g1 g2 → On (PW w r) g1 g2 := fun O => O.on (fun i h1 h2 => Or.inl ⟨h1, h2⟩)
  have orr : ∀ {g1 g2 : AH}, Ot r (r + 3) g1 g2 → On (PW w r) g1 g2 := fun O => O.on (fun i h1 h2 => Or.inr ⟨h1, h2⟩)
  have pv' := pkv_lt R s p hp'
  unfold fX9_writePage
  simp (disch := omega) only [wr_h W.wr, if_true, c_isValue, Option.bind_some, decide_eq_true_eq]
  by_cases hv : v < 100
  · rw [if_pos hv]
    simp (disch := omega) only [c_peek W.wr R, Option.bind_some, l_0, J_le]
    by_cases hsp : hs σ s = true ∧ p < 8
    · obtain ⟨h0, hp⟩ := hsp
      obtain ⟨s1, s2, s3⟩ := hs_tp h0 R G
      have ek := pk_rf h0 hp
      have rv := rfF_v σ s p
      have fl := ftc_lt R (s := s) hp
      have eA : wrA C σ s p v = (if wrN σ s p = 0 then (dep (wrS C σ s p v) 24 (tp (wrS C σ s p v) s), wrS C σ s p v) else if wrN σ s p = 4294967293 then (4294967293, awS σ s p) else (wrN σ s p, σ)) := by
        unfold wrA
        rw [if_pos ⟨hv, h0, hp⟩]
      by_cases hr : rfF σ s p = 0
      · rw [if_pos hr] at ek
        rw [if_pos (by omega)]
        simp (disch := omega) only [c_nds W.wr R, Option.bind_some]
        have fw := f2w_le (σ := σ) (s := s) (p := p) (nds σ s)
        have j57 : (nds σ s = true → frO σ < 24) → ∃ h' c' b', fX9_writePage_J57 h w (J s) (J p) (J v) r (J (pk σ s p)) (nds σ s) = some (J (wrA C σ s p v).1, h') ∧ WRk h' w (wrA C σ s p v).2 c' b' ∧ RU h' r C ∧ On (PW w r) h h' := by
          intro hf
          unfold fX9_writePage_J57
          simp (disch := omega) only [c_frameTotal W.wr R, c_f2w W.wr R, Option.bind_some, J_add, l_64, J_le]
          have ewn : wrN σ s p = if tot σ 8 + f2w σ s p (nds σ s) ≤ 64 then 0 else 4294967291 := by
            unfold wrN
            rw [if_pos hr, if_neg (fun z => z.2 (hf z.1))]
          by_cases ht : tot σ 8 + f2w σ s p (nds σ s) ≤ 64
          · rw [if_pos (by omega)]
            rw [if_pos ht] at ewn
            have hk : wrOk σ s p := ⟨h0, hp, ewn⟩
            obtain ⟨I1, I2, I3, I4, I5, I6, h02, h03, h06, hT, hT4, P⟩ := wr_inv I hk hv
            rw [eA, if_pos ewn]
            obtain ⟨u1, u2, u3⟩ := hs_tp h03 I3.rg I3.gr
            obtain ⟨T1, T2⟩ := ho_lt hT
            simp (disch := omega) only [c_pgi W.wr R, Option.bind_some]
            -- the page paged in
            have st1 : ∃ g1 c1 b1, (if pgi σ s p = true then ((fX9_lastOf h w (J s)).bind fun q19 => (fX9_hold h w q19 (J p) (J (pk σ s p))).bind fun q20 => fX9_writePage_J99 q20 w (J s) (J p) (J v) r (nds σ s)) else fX9_writePage_J99 h w (J s) (J p) (J v) r (nds σ s)) = fX9_writePage_J99 g1 w (J s) (J p) (J v) r (nds σ s) ∧ WRk g1 w (ftS σ s p) c1 b1 ∧ Ot w (w + 9) h g1 := by
              by_cases hg : pgi σ s p = true
              · obtain ⟨q1, q2, q3⟩ := pgi_ho hg
                obtain ⟨g1, e1, W1, O1⟩ := c_hold W R (o := las σ s) (p := p) (v := pk σ s p) q3 hp
                refine ⟨g1, c, b, ?_, ?_, O1⟩
                · rw [if_pos hg]
                  simp (disch := omega) only [c_lst W.wr R, Option.bind_some]
                  rw [show lst σ 24 (tp σ s) = las σ s from rfl, e1]
                  rfl
                · unfold ftS
                  rw [if_pos hg, ← ek]
                  exact W1
              · refine ⟨h, c, b, by rw [if_neg hg], ?_, Ot.rf⟩
                unfold ftS
                rw [if_neg hg]
                exact W
            obtain ⟨g1, c1, b1, e1, W1, O1⟩ := st1
            rw [e1]
            have h01 : hs (ftS σ s p) s = true := by rw [hs_cg (fun k => ft_f (by decide) (by decide))]; exact h0
            have st2 : ∃ g2, fX9_writePage_J99 g1 w (J s) (J p) (J v) r (nds σ s) = fX9_writePage_J109 g2 w (J s) (J p) (J v) r ∧ WRk g2 w (wr2 σ s p) c1 b1 ∧ Ot w (w + 9) g1 g2 := by
              unfold fX9_writePage_J99 wr2
              by_cases hn : nds σ s = true
              · obtain ⟨g2, e2, W2, O2⟩ := c_above W1 I1.rg h01 (by rw [frO_ft]; exact hf hn)
                refine ⟨g2, ?_, ?_, O2⟩
                · rw [if_pos hn, e2]; rfl
                · rw [if_pos hn]; exact W2
              · refine ⟨g1, by rw [if_neg hn], ?_, Ot.rf⟩
                rw [if_neg hn]; exact W1
            obtain ⟨g2, e2, W2, O2⟩ := st2
            rw [e2]
            obtain ⟨g3, e3, W3', O3⟩ := wk_p1 W2 (bclr (wr2 σ s p 1 0) s)
            have W3 : WRk g3 w (wr3 σ s p) c1 b1 := W3'
            have R3 := I3.rg
            have tT : tp (wr3 σ s p) s = wrT σ s p := rfl
            have x64 := I2.rg.2.1.1
            have st4 : ∃ g4, fX9_writePage_J109 g2 w (J s) (J p) (J v) r = fX9_writePage_J158 g4 w (J s) (J p) (J v) r (J (wrT σ s p)) ∧ WRk g4 w (wr4 σ s p) c1 b1 ∧ Ot w (w + 9) g2 g4 := by
              unfold fX9_writePage_J109 wr4
              simp (disch := omega) only [wr_i1 W2.wr, Option.bind_some, bclr_J6 x64 s1, e3, c_tp W3.wr R3, tT, c_psh W3.wr R3]
              by_cases hps : psh (wr3 σ s p) (wrT σ s p) p = true
              · obtain ⟨y1, y2, y3⟩ := P hps
                obtain ⟨g4, e4, W4, O4⟩ := c_hold W3 R3 (o := wr3 σ s p 5 (wrT σ s p)) (p := p) (v := wr3 σ s p 6 (8 * wrT σ s p + p)) y3 hp
                have e5 : at24 (wr3 σ s p) 5 (wrT σ s p) = wr3 σ s p 5 (wrT σ s p) := by unfold at24; rw [if_pos T1]
                refine ⟨g4, ?_, ?_, O3.trans O4⟩
                · rw [if_pos hps]
                  simp (disch := omega) only [c_copyOf W3.wr R3, c_val W3.wr R3, e5, y1, if_true, Option.bind_some, e4]
                · rw [if_pos hps]; exact W4
              · refine ⟨g3, by rw [if_neg hps], ?_, O3⟩
                rw [if_neg hps]; exact W3
            obtain ⟨g4, e4, W4, O4⟩ := st4
            rw [e4]
            have R4 := I4.rg
            obtain ⟨g5, e5, W5, O5⟩ := c_hold W4 R4 (o := wrT σ s p) (p := p) (v := v) hT4 hp
            obtain ⟨g6, e6, W6', O6⟩ := wk_p3 W5 ((holdS (wr4 σ s p) (wrT σ s p) p v 1 3 + 1) % 4294967296)
            have W6 : WRk g6 w (wr6 σ s p v) c1 b1 := W6'
            rw [J_mod] at e6
            have R6 := I6.rg
            have OO : Ot w (w + 9) h g6 := ((((O1.trans O2).trans O4).trans O5).trans O6)
            have U6 := U.ot OO (by omega)
            have fin : ∀ (g : AH) (τ : ST) c' b', WRk g w τ c' b' → RG τ → fX9_writePage_J207 g w (J s) = some (J (dep τ 24 (tp τ s)), g) := by
              intro g τ c' b' Wg Rg
              unfold fX9_writePage_J207
              simp (disch := omega) only [c_chain Wg.wr Rg, Option.bind_some]
            unfold fX9_writePage_J158
            simp (disch := omega) only [c_hd W4.wr R4, e5, wr_i3 W5.wr, Option.bind_some, l_1, J_add, e6]
            unfold wrS
            by_cases hhad : hd (wr4 σ s p) (wrT σ s p) p = true
            · simp only [if_pos hhad]
              exact ⟨g6, c1, b1, fin g6 _ _ _ W6 R6, W6, U6, ow OO⟩
            · simp only [if_neg hhad]
              obtain ⟨g7, e7, U7, O7⟩ := c_reckon U6 W6.wr R6 hwr g.1 hs' (rvl_g g (wr6 σ s p v) s p)
              have W7 := W6.ot O7 hwr
              simp only [e7, Option.bind_some]
              by_cases hz : rvl C (wr6 σ s p v) s p ≤ 0
              · simp only [if_pos hz]
                exact ⟨g7, c1, b1, fin g7 _ _ _ W7 R6, W7, U7, (ow OO).trans (orr O7)⟩
              · simp only [if_neg hz]
                obtain ⟨g8, e8, W8, O8⟩ := c_tidy W7 R6 h06
                rw [e8]
                exact ⟨g8, _, _, fin g8 _ _ _ W8 (inv_tid I6 h06).rg, W8, U7.ot O8 (by omega), ((ow OO).trans (orr O7)).trans (ow O8)⟩
          · rw [if_neg (by omega)]
            rw [if_neg ht] at ewn
            rw [eA, if_neg (by omega), if_neg (by omega), ewn]
            exact ⟨h, c, b, by rw [neg_l5], W, U, On.rf⟩
        by_cases hn : nds σ s = true
        · have cb : bc (σ 1 2) ≤ 24 := bc_le _
          rw [hn] at j57 ⊢
          simp (disch := omega) only [if_true, c_objectTotal W.wr R, Option.bind_some, l_24, J_lt]
          by_cases hf : frO σ < 24
          · rw [if_pos (Or.inr ((bc_frO R).mpr hf))]
            exact j57 (fun _ => hf)
          · have : ¬ bc (σ 1 2) < 24 := fun z => hf ((bc_frO R).mp z)
            rw [if_neg (by omega)]
            have ewn : wrN σ s p = 4294967290 := by
              unfold wrN
              rw [if_pos hr, if_pos ⟨hn, hf⟩]
            rw [eA, if_neg (by omega), if_neg (by omega), ewn]
            exact ⟨h, c, b, by rw [neg_l6], W, U, On.rf⟩
        · rw [if_neg hn]
          exact j57 (fun z => absurd z hn)
      · rw [if_neg hr] at ek
        rw [if_neg (by omega)]
        have ewn : wrN σ s p = rfF σ s p := by unfold wrN; rw [if_neg hr]
        rw [eA, if_neg (by omega)]
        by_cases h3 : rfF σ s p = 4294967293
        · rw [if_pos (by omega)]
          obtain ⟨g1, e1, W1, O1⟩ := c_await_yes W R (s := s) (p := p) hs' hp (las_ho R G h0)
          rw [ek, h3, e1]
          exact ⟨g1, c, b, rfl, W1, U.ot O1 (by omega), ow O1⟩
        · rw [if_neg (by omega), ek, c_await_no W.wr R (by omega) hs' h3]
          exact ⟨h, c, b, by rw [ewn]; rfl, W, U, On.rf⟩
    · have ek := pk_bad hsp
      have eA : wrA C σ s p v = (4294967295, σ) := by
        unfold wrA
        rw [if_neg (fun z => hsp z.2)]
      rw [if_neg (by omega), ek, eA, c_await_no W.wr R (by omega) hs' (by omega)]
      exact ⟨h, c, b, rfl, W, U, On.rf⟩
  · rw [if_neg hv]
    have eA : wrA C σ s p v = (4294967295, σ) := by
      unfold wrA
      rw [if_neg (fun z => hv z.1)]
    rw [eA, m1_J]
    exact ⟨h, c, b, rfl, W, U, On.rf⟩
end CW
/-! the reference -/
/-- what writing needs of the reference: its rule -/
def RCX (h : AH) (m : Nat) (F : Nat → Value) (P Q n : Nat) (ρ : Nat → Nat) : Prop := OBJ 11 36 h m F ∧ F 12 = .ref P ∧ F 14 = .int (J n) ∧ F 16 = .ref Q ∧ BT h P ρ n ∧ ∃ a, h.1 Q = some (.inl (0, 7, .inl a))
/-- the fields that writing changes -/
def WF (k : Nat) : Prop := k = 6 ∨ k = 7 ∨ k = 8 ∨ k = 9 ∨ k = 10 ∨ k = 15 ∨ k = 21 ∨ k = 22
section MW
variable {h : AH} {m A P Q n : Nat} {σ : ST} {C : List Nat} {ρ : Nat → Nat} {F : Nat → Value}
theorem RCX.ot {h' : AH} {lo hi : Nat} (X : RCX h m F P Q n ρ) (O : Ot lo hi h h') (hm : m < lo ∨ hi ≤ m) (hP : P < lo ∨ hi ≤ P) (hQ : Q < lo ∨ hi ≤ Q) : RCX h' m F P Q n ρ := by
  obtain ⟨x1, x2, x3, x4, ⟨N, f, x5⟩, ⟨a, x6⟩⟩ := X
  exact ⟨x1.ot O hm, x2, x3, x4, ⟨N, f, (O.2 P hP).trans x5.1, x5.2⟩, ⟨a, (O.2 Q hQ).trans x6⟩⟩
theorem rlr_g {C : List Nat} {ρ : Nat → Nat} {n : Nat} (L : RLR C ρ n) (hex : ∀ e : Nat → Int32, ∃ v, ev e C [] = [v]) : GR1 C := ⟨rlr_pc L, hex⟩
theorem m_goWrite (hmA : m ≠ A) (hmP : m ≠ P) (hmQ : m ≠ Q) (hQA : Q ≠ A) (hQP : Q ≠ P) (hPA : P ≠ A) (X : RCX h m F P Q n ρ) (L : RLR C ρ n) (W : RA h A σ) (I : INV σ) {s p v : Nat} (hk : wrOk σ s p) (hv : v < 100) : ∃ h' F', fX11_goWrite h m A (J s) (J p) (J v) = some h' ∧ RA h' A (wrS C σ s p v) ∧ RCX h' m F' P Q n ρ ∧ (∀ k, ¬ WF k → F' k = F k) ∧ On (fun k => k = m ∨ k = A ∨ k = Q) h h' := by
  obtain ⟨I1, I2, I3, I4, I5, I6, h02, h03, h06, hT, hT4, PP⟩ := wr_inv I hk hv
  obtain ⟨k1, k2, k3⟩ := wrOk_of hk
  have h0 := hk.1
  have hp := hk.2.1
  have R := I.rg
  have G := I.gr
  obtain ⟨s1, s2, s3⟩ := hs_tp h0 R G
  obtain ⟨t1, t2⟩ := ho_lt s3
  have oA : ∀ {g1 g2 : AH}, Ot A (A + 1) g1 g2 → On (fun k => k = m ∨ k = A ∨ k = Q) g1 g2 := fun O => O.on1 (Or.inr (Or.inl rfl))
  have top0 : aI h 0 A (J (312 + s)) = some (J (tp σ s)) := by rw [ra_tp W s1, s2, nn_id (hs_lt h0).2]
  have hh : hd σ (tp σ s) p = (σ 8 (tp σ s)).testBit p := by unfold hd; rw [decide_eq_true t1, decide_eq_true hp]; rfl
  unfold fX11_goWrite
  simp (disch := omega) only [ob_h X.1, if_true, l_312, J_add, top0, m_hd W R, Option.bind_some]
  -- the page fetched
  have st1 : ∃ g1, (if (σ 8 (tp σ s)).testBit p = true then fX11_goWrite_J21 h m A (J s) (J p) (J v) else (fX11_goFetch h A (J s) (J p)).bind fun q19 => fX11_goWrite_J21 q19 m A (J s) (J p) (J v)) = fX11_goWrite_J21 g1 m A (J s) (J p) (J v) ∧ RA g1 A (ftS σ s p) ∧ Ot A (A + 1) h g1 := by
    by_cases hb : (σ 8 (tp σ s)).testBit p = true
    · refine ⟨h, by rw [if_pos hb], ?_, Ot.rf⟩
      have ff := hd_fir s3 (hh.trans hb)
      have hg : pgi σ s p = false := by unfold pgi; rw [decide_eq_false (by omega), Bool.false_and]
      unfold ftS
      rw [if_neg (by rw [hg]; decide)]
      exact W
    · obtain ⟨g1, e1, W1, O1⟩ := m_goFetch W R G h0 hp
      exact ⟨g1, by rw [if_neg hb, e1]; rfl, W1, O1⟩
  obtain ⟨g1, e1, W1, O1⟩ := st1
  rw [e1]
  have h01 : hs (ftS σ s p) s = true := by rw [hs_cg (fun k => ft_f (by decide) (by decide))]; exact h0
  have nd : nds (ftS σ s p) s = nds σ s := by
    have e0 : ∀ k, ftS σ s p 0 k = σ 0 k := fun k => ft_f (by decide) (by decide)
    have e4 : ∀ k, ftS σ s p 4 k = σ 4 k := fun k => ft_f (by decide) (by decide)
    have et : tp (ftS σ s p) s = tp σ s := by unfold tp; rw [e0]
    unfold nds
    rw [ft_f (by decide) (by decide), et]
    have eh : hol (ftS σ s p) (tp σ s) = hol σ (tp σ s) := by
      unfold hol
      congr 1
      · exact cnt_congr fun i _ => by rw [e0]
      · exact cnt_congr fun i _ => by rw [e4]
    rw [eh]
  have st2 : ∃ g2, fX11_goWrite_J21 g1 m A (J s) (J p) (J v) = fX11_goWrite_J49 g2 m A (J s) (J p) (J v) ∧ RA g2 A (wr2 σ s p) ∧ Ot A (A + 1) g1 g2 := by
    unfold fX11_goWrite_J21 wr2
    simp only [m_shared W1 I1.rg I1.gr h01, nd, Option.bind_some]
    by_cases hn : nds σ s = true
    · have hf : frO (ftS σ s p) < 24 := by rw [frO_ft]; exact k2 hn
      have x0 : ftS σ s p 0 s < 24 := (hs_lt h01).2
      have top1 : aI g1 0 A (J (312 + s)) = some (J (nn (ftS σ s p 0 s))) := ra_tp W1 s1
      obtain ⟨g2, e2, W2, O2⟩ := m_comes W1 I1.rg (pg := 0) (dg := 0) (t := ftS σ s p 0 s) hf (by decide)
      obtain ⟨g3, e3, W3, O3⟩ := rw_tp W2 s1 (frO (ftS σ s p))
      rw [nn_id hf] at e3
      refine ⟨g3, ?_, ?_, O2.trans O3⟩
      · rw [if_pos hn]
        simp only [l_312, J_add, top1, Option.bind_some, l_0, e2, e3]
      · rw [if_pos hn]
        exact W3
    · refine ⟨g1, by rw [if_neg hn], ?_, Ot.rf⟩
      rw [if_neg hn]
      exact W1
  obtain ⟨g2, e2, W2, O2⟩ := st2
  rw [e2]
  obtain ⟨g3, e3, W3', O3⟩ := rw_sr W2 s1 (bclr (wr2 σ s p 1 0) s) (fun t ht => by rw [bclr_tb, decide_eq_false ht]; simp)
  rw [if_neg (by rw [bclr_tb]; simp)] at e3
  have W3 : RA g3 A (wr3 σ s p) := W3'
  have R3 := I3.rg
  obtain ⟨u1, u2, u3⟩ := hs_tp h03 R3 I3.gr
  obtain ⟨T1, T2⟩ := ho_lt hT
  have top3 : aI g3 0 A (J (312 + s)) = some (J (wrT σ s p)) := by
    rw [ra_tp W3 s1, ← u2]
    exact congrArg (fun x => some (J x)) (nn_id T1)
  have r5 := (R3.2.2.1 _ T1).2.2.2.1
  have nl := nn_lt r5
  have st4 : ∃ g4, fX11_goWrite_J49 g2 m A (J s) (J p) (J v) = fX11_goWrite_J110 g4 m A (J s) (J p) (J v) (J (wrT σ s p)) ∧ RA g4 A (wr4 σ s p) ∧ Ot A (A + 1) g2 g4 := by
    unfold fX11_goWrite_J49 wr4
    simp (disch := omega) only [l_318, l_312, l_264, l_0, J_add, e3, top3, ra_cp W3, Option.bind_some, m1_J, J_inj, nn_m1 r5]
    have ep := psh_cp (p := p) I3.gr R3 T1 hp
    by_cases hc : wr3 σ s p 5 (wrT σ s p) = 24
    · have hps : psh (wr3 σ s p) (wrT σ s p) p = false := by rw [ep, decide_eq_false (by omega), Bool.false_and]
      refine ⟨g3, by rw [if_pos hc], ?_, O3⟩
      rw [if_neg (by rw [hps]; decide)]
      exact W3
    · have hc' : wr3 σ s p 5 (wrT σ s p) < 24 := by omega
      rw [if_neg hc, nn_id hc']
      simp (disch := omega) only [m_hd W3 R3, Option.bind_some]
      rw [decide_eq_true hc', Bool.true_and] at ep
      by_cases hb : (wr3 σ s p 8 (wr3 σ s p 5 (wrT σ s p))).testBit p = true
      · refine ⟨g3, by rw [if_pos hb], ?_, O3⟩
        rw [if_neg (by rw [ep, hb]; decide)]
        exact W3
      · have hps : psh (wr3 σ s p) (wrT σ s p) p = true := by rw [ep]; simpa using hb
        obtain ⟨y1, y2, y3⟩ := PP hps
        obtain ⟨g4, e4, W4, O4⟩ := rw_pg W3 hc' hp (wr3 σ s p 6 (8 * wrT σ s p + p))
        have epv : pv (wr3 σ s p) (wrT σ s p) p = wr3 σ s p 6 (8 * wrT σ s p + p) := by unfold pv; rw [if_pos (hd_lt y1).2.2]
        refine ⟨g4, ?_, ?_, O3.trans O4⟩
        · rw [if_neg hb]
          simp (disch := omega) only [l_8, J_mul, J_add, ra_pg W3 T1 hp, epv, Option.bind_some, e4]
        · rw [if_pos hps]
          exact W4
  obtain ⟨g4, e4, W4, O4⟩ := st4
  rw [e4]
  have R4 := I4.rg
  obtain ⟨g5, e5, W5, O5⟩ := rw_pg W4 T1 hp v
  obtain ⟨g6, e6, W6', O6⟩ := rw_wr W5 ((holdS (wr4 σ s p) (wrT σ s p) p v 1 3 + 1) % 4294967296)
  have W6 : RA g6 A (wr6 σ s p v) := W6'
  rw [J_mod] at e6
  have R6 := I6.rg
  have OO : Ot A (A + 1) h g6 := (((O1.trans O2).trans O4).trans O5).trans O6
  have X6 := X.ot OO (by omega) (by omega) (by omega)
  have h4 : hd (wr4 σ s p) (wrT σ s p) p = (wr4 σ s p 8 (wrT σ s p)).testBit p := by unfold hd; rw [decide_eq_true T1, decide_eq_true hp]; rfl
  have e324 : aI g5 0 A (J 324) = some (J (holdS (wr4 σ s p) (wrT σ s p) p v 1 3)) := ra_wr W5
  unfold fX11_goWrite_J110
  have l324 : (324 : Int32) = J 324 := rfl
  simp (disch := omega) only [m_hd W4 R4, l_8, J_mul, J_add, e5, l324, e324, Option.bind_some, l_1, e6]
  unfold wrS
  rw [h4]
  by_cases hb : (wr4 σ s p 8 (wrT σ s p)).testBit p = true
  · simp only [if_pos hb]
    exact ⟨g6, F, rfl, W6, X6, fun _ _ => rfl, oA OO⟩
  · simp only [if_neg hb]
    obtain ⟨x1, x2, x3, x4, x5, x6⟩ := X6
    obtain ⟨y, g7, F7, e7, M7, f7, c7, v7, O7⟩ := m_ruleOf (A := A) (C := C) x1 x2 x3 x4 hmA hmP hmQ hQA hQP x5 x6 W6 R6 I6.gr L h06 hp
    have ry := rvl_of v7
    rw [ry]
    have W7 : RA g7 A (wr6 σ s p v) := W6.on O7 (by omega)
    have X7 : RCX g7 m F7 P Q n ρ := by
      refine ⟨M7, ?_, ?_, ?_, x5.on O7 (by omega), c7⟩
      · rw [f7 12 (Or.inr (by unfold RF; omega))]; exact x2
      · rw [f7 14 (Or.inr (by unfold RF; omega))]; exact x3
      · rw [f7 16 (Or.inr (by unfold RF; omega))]; exact x4
    have O7' : On (fun k => k = m ∨ k = A ∨ k = Q) h g7 := (oA OO).trans (O7.mono (fun k hk => by rcases hk with z | z; exact Or.inl z; exact Or.inr (Or.inr z)))
    have fF7 : ∀ k, ¬ WF k → F7 k = F k := fun k hk => f7 k (by
      unfold WF at hk
      unfold RF
      omega)
    simp only [e7, Option.bind_some]
    by_cases hz : y ≤ 0
    · simp only [if_pos hz]
      exact ⟨g7, F7, rfl, W7, X7, fF7, O7'⟩
    · simp only [if_neg hz]
      obtain ⟨rk, IV, H⟩ := I6
      obtain ⟨g8, e8, W8, M8, -, -, O8⟩ := m_tidy hmA W7 X7.1 IV H h06
      rw [e8]
      refine ⟨g8, _, rfl, W8, ⟨M8, ?_, ?_, ?_, X7.2.2.2.2.1.on O8 (by omega), ?_⟩, fun k hk => ?_, O7'.trans (O8.mono (fun k hk => by rcases hk with z | z; exact Or.inr (Or.inl z); exact Or.inl z))⟩
      · rw [fput_ne (by decide), fput_ne (by decide)]; exact X7.2.1
      · rw [fput_ne (by decide), fput_ne (by decide)]; exact X7.2.2.1
      · rw [fput_ne (by decide), fput_ne (by decide)]; exact X7.2.2.2.1
      · obtain ⟨a, ha⟩ := X7.2.2.2.2.2
        exact ⟨a, (O8.2 Q (by omega)).trans ha⟩
      · rw [← fF7 k hk]
        unfold WF at hk
        rw [fput_ne (by omega), fput_ne (by omega)]
theorem m_tryWrite (hmA : m ≠ A) (hmP : m ≠ P) (hmQ : m ≠ Q) (hQA : Q ≠ A) (hQP : Q ≠ P) (hPA : P ≠ A) (X : RCX h m F P Q n ρ) (L : RLR C ρ n) (W : RA h A σ) (I : INV σ) {s p v : Nat} (h0 : hs σ s = true) (hp : p < 8) (hv : v < 100) : ∃ h' F', fX11_tryWrite h m A (J s) (J p) (J v) = some (decide (wrN σ s p = 0), h') ∧ RA h' A (wrA C σ s p v).2 ∧ RCX h' m F' P Q n ρ ∧ (∀ k, ¬ WF k → F' k = F k) ∧ On (fun k => k = m ∨ k = A ∨ k = Q) h h' := by
  have R := I.rg
  have G := I.gr
  have rv := rfF_v σ s p
  have wl : wrN σ s p < 4294967296 := by
    unfold wrN
    split
    · split
      · omega
      · split <;> omega
    · omega
  have eA : (wrA C σ s p v).2 = if wrN σ s p = 0 then wrS C σ s p v else if wrN σ s p = 4294967293 then awS σ s p else σ := by
    unfold wrA
    rw [if_pos ⟨hv, h0, hp⟩]
    split
    · rfl
    · split <;> rfl
  rw [eA]
  unfold fX11_tryWrite
  simp (disch := omega) only [ob_h X.1, if_true, m_refW W R G h0 hp, Option.bind_some, neg_l3, J_inj]
  unfold fX11_tryWrite_J21 fX11_tryWrite_J35
  simp (disch := omega) only [l_0, J_inj]
  by_cases h1 : wrN σ s p = 0
  · rw [if_neg (by omega), if_pos h1, if_pos h1]
    obtain ⟨g1, F1, e1, W1, X1, f1, O1⟩ := m_goWrite hmA hmP hmQ hQA hQP hPA X L W I ⟨h0, hp, h1⟩ hv
    rw [e1]
    refine ⟨g1, F1, ?_, W1, X1, f1, O1⟩
    simp only [Option.bind_some, if_pos h1, decide_eq_true h1]
  · simp only [if_neg h1, decide_eq_false h1]
    by_cases h3 : wrN σ s p = 4294967293
    · rw [if_pos h3, if_pos h3]
      obtain ⟨g1, e1, W1, O1⟩ := m_await W R G h0 hp
      rw [e1]
      exact ⟨g1, F, rfl, W1, X.ot O1 (by omega) (by omega) (by omega), fun _ _ => rfl, O1.on1 (Or.inr (Or.inl rfl))⟩
    · rw [if_neg h3, if_neg h3]
      exact ⟨h, F, rfl, W, X, fun _ _ => rfl, On.rf⟩
end MW
