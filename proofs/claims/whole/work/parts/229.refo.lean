/-! fetching, awaiting, refusing, forking, ending, arriving: by the reference -/
def rfF (σ : ST) (s p : Nat) : Nat := if fir σ s p = 24 then (if pgr σ (las σ s) = 2 then 4294967293 else if pgr σ (las σ s) = 3 then 4294967292 else 0) else 0
def ftc (σ : ST) (s p : Nat) : Nat := if fir σ s p = 24 then (if pgr σ (las σ s) = 1 then 10 * dgt σ (las σ s) + p else 0) else σ 6 (8 * fir σ s p + p)
theorem rfF_v (σ : ST) (s p : Nat) : rfF σ s p = 0 ∨ rfF σ s p = 4294967293 ∨ rfF σ s p = 4294967292 := by
  unfold rfF
  split
  · split
    · omega
    · split <;> omega
  · omega
theorem pk_rf {σ : ST} {s p : Nat} (h0 : hs σ s = true) (hp : p < 8) : pk σ s p = if rfF σ s p = 0 then ftc σ s p else rfF σ s p := by
  unfold pk rfF ftc
  rw [if_pos ⟨h0, hp⟩]
  by_cases h1 : fir σ s p = 24
  · simp only [if_pos h1]
    by_cases h2 : pgr σ (las σ s) = 1
    · rw [if_pos h2]
      simp [h2]
    · rw [if_neg h2]
      by_cases h3 : pgr σ (las σ s) = 2
      · simp [h3]
      · by_cases h4 : pgr σ (las σ s) = 3
        · simp [h4]
        · simp [h2, h3, h4]
  · simp only [if_neg h1, if_true]
theorem ftc_lt {σ : ST} (R : RG σ) {s p : Nat} (hp : p < 8) : ftc σ s p < 100 := by
  unfold ftc
  have d := dgt_le R (las σ s)
  have h3 := fir_le (σ := σ) s p
  split
  · split <;> omega
  · exact R.2.2.2.1 _ (by omega)
section MF
variable {h : AH} {A : Nat} {σ : ST}
theorem las_ho (R : RG σ) (G : GR σ) {s : Nat} (h0 : hs σ s = true) : ho σ (las σ s) = true := by
  obtain ⟨h1, h2, h3⟩ := hs_tp h0 R G
  exact lst_ho (chn_tp R G s) h3
theorem pr_pgr {o : Nat} (h0 : ho σ o = true) : pr σ o = pgr σ o := by
  unfold pr pgr
  rw [if_pos (ho_lt h0).2, if_pos h0]
theorem fir_len (R : RG σ) (G : GR σ) (s p : Nat) : (dep σ 24 (tp σ s) ≤ plh σ p 24 (tp σ s) ↔ fir σ s p = 24) ∧ (plh σ p 24 (tp σ s) = dep σ 24 (tp σ s) ↔ fir σ s p = 24) := by
  have c := chn_tp R G s
  have h1 := fh_dep (p := p) 24 _ c
  have h2 := plh_le (σ := σ) (p := p) 24 (tp σ s)
  have h3 : fir σ s p = fh σ p 24 (tp σ s) := rfl
  rw [h3]
  constructor
  · rw [h1]; omega
  · rw [h1]
theorem m_refF (W : RA h A σ) (R : RG σ) (G : GR σ) {s p : Nat} (h0 : hs σ s = true) (hp : p < 8) : fX11_refusesFetch h A (J s) (J p) = some (J (rfF σ s p)) := by
  obtain ⟨h1, h2, h3⟩ := hs_tp h0 R G
  have d2 := dep_le (σ := σ) 24 (tp σ s)
  have d3 := plh_le (σ := σ) (p := p) 24 (tp σ s)
  have lh := las_ho R G h0
  have l1 := (ho_lt lh).1
  have g1 := pgr_le R (las σ s)
  unfold fX11_refusesFetch rfF
  simp (disch := omega) only [m_place W R G h1 hp, m_len W R G h1, Option.bind_some, J_le, (fir_len R G s p).1]
  by_cases e : fir σ s p = 24
  · rw [if_pos ⟨by omega, e⟩, if_pos e]
    simp only [m_lst W R G h0, Option.bind_some]
    rw [show lst σ 24 (tp σ s) = las σ s from rfl]
    simp (disch := omega) only [l_216, J_add, ra_pr W, pr_pgr lh, Option.bind_some, l_2, l_3, J_inj]
    by_cases e2 : pgr σ (las σ s) = 2
    · rw [if_pos e2, if_pos e2]; decide
    · rw [if_neg e2, if_neg e2]
      by_cases e3 : pgr σ (las σ s) = 3
      · rw [if_pos e3, if_pos e3]; decide
      · rw [if_neg e3, if_neg e3]; rfl
  · rw [if_neg (fun z => e z.2), if_neg e]; rfl
theorem m_isF (W : RA h A σ) (R : RG σ) (G : GR σ) {s p : Nat} (h0 : hs σ s = true) (hp : p < 8) : fX11_isFetched h A (J s) (J p) = some (pgi σ s p) := by
  obtain ⟨h1, h2, h3⟩ := hs_tp h0 R G
  have d2 := dep_le (σ := σ) 24 (tp σ s)
  have d3 := plh_le (σ := σ) (p := p) 24 (tp σ s)
  have lh := las_ho R G h0
  have l1 := (ho_lt lh).1
  have g1 := pgr_le R (las σ s)
  unfold fX11_isFetched pgi
  simp (disch := omega) only [m_place W R G h1 hp, m_len W R G h1, Option.bind_some, J_inj, (fir_len R G s p).2]
  by_cases e : fir σ s p = 24
  · rw [if_pos e, decide_eq_true e]
    simp only [m_lst W R G h0, Option.bind_some]
    rw [show lst σ 24 (tp σ s) = las σ s from rfl]
    simp (disch := omega) only [l_216, J_add, ra_pr W, pr_pgr lh, Option.bind_some, l_1, J_inj]
    by_cases e2 : pgr σ (las σ s) = 1
    · rw [if_pos e2, decide_eq_true e2]; rfl
    · rw [if_neg e2, decide_eq_false e2]; rfl
  · rw [if_neg e, decide_eq_false e]; rfl
theorem m_fetch (W : RA h A σ) (R : RG σ) (G : GR σ) {s p : Nat} (h0 : hs σ s = true) (hp : p < 8) : fX11_fetchOf h A (J s) (J p) = some (J (ftc σ s p)) := by
  obtain ⟨h1, h2, h3⟩ := hs_tp h0 R G
  have d2 := dep_le (σ := σ) 24 (tp σ s)
  have d3 := plh_le (σ := σ) (p := p) 24 (tp σ s)
  have lh := las_ho R G h0
  have l1 := (ho_lt lh).1
  have g1 := pgr_le R (las σ s)
  have g2 := (R.2.2.1 _ l1).2.1
  have ed : dgt σ (las σ s) = σ 3 (las σ s) := by unfold dgt; rw [if_pos lh]
  unfold fX11_fetchOf ftc
  simp (disch := omega) only [m_place W R G h1 hp, m_len W R G h1, Option.bind_some, J_le, (fir_len R G s p).1]
  by_cases e : fir σ s p = 24
  · rw [if_pos ⟨by omega, e⟩, if_pos e]
    simp only [m_lst W R G h0, Option.bind_some]
    rw [show lst σ 24 (tp σ s) = las σ s from rfl, ed]
    simp (disch := omega) only [l_216, J_add, ra_pr W, pr_pgr lh, Option.bind_some, l_1, J_inj, l_240, ra_dg W, l_10, J_mul]
    by_cases e2 : pgr σ (las σ s) = 1
    · rw [if_pos e2, if_pos e2]
    · rw [if_neg e2, if_neg e2]; rfl
  · have f1 := fh_hd (σ := σ) (p := p) 24 (tp σ s) e
    have f2 := (ho_lt f1.2).1
    have f3 := (hd_lt f1.1).2.2
    rw [if_neg (fun z => e z.2), if_neg e]
    rw [m_at W R G h1 d3, itr_fh 24 _ (chn_tp R G s), nn_id f2]
    simp (disch := omega) only [l_8, J_mul, J_add, Option.bind_some, ra_pg W]
    unfold pv
    rw [if_pos f3]
    rfl
def ftS (σ : ST) (s p : Nat) : ST := if pgi σ s p = true then holdS σ (las σ s) p (ftc σ s p) else σ
theorem m_goFetch (W : RA h A σ) (R : RG σ) (G : GR σ) {s p : Nat} (h0 : hs σ s = true) (hp : p < 8) : ∃ h', fX11_goFetch h A (J s) (J p) = some h' ∧ RA h' A (ftS σ s p) ∧ Ot A (A + 1) h h' := by
  have lh := las_ho R G h0
  have l1 := (ho_lt lh).1
  unfold fX11_goFetch ftS
  simp only [m_isF W R G h0 hp, Option.bind_some]
  by_cases e : pgi σ s p = true
  · obtain ⟨g1, e1, W1, O1⟩ := rw_pg W l1 hp (ftc σ s p)
    refine ⟨g1, ?_, ?_, O1⟩
    · rw [if_pos e]
      simp only [m_lst W R G h0, m_fetch W R G h0 hp, Option.bind_some]
      rw [show lst σ 24 (tp σ s) = las σ s from rfl, l_8, J_mul, J_add, e1]
      rfl
    · rw [if_pos e]; exact W1
  · refine ⟨h, ?_, ?_, Ot.rf⟩
    · rw [if_neg e]
    · rw [if_neg e]; exact W
theorem m_await (W : RA h A σ) (R : RG σ) (G : GR σ) {s p : Nat} (h0 : hs σ s = true) (hp : p < 8) : ∃ h', fX11_goAwait h A (J s) (J p) = some h' ∧ RA h' A (awS σ s p) ∧ Ot A (A + 1) h h' := by
  have lh := las_ho R G h0
  have l1 := (ho_lt lh).1
  obtain ⟨g1, e1, W1, O1⟩ := rw_aw W l1 (bset (σ 7 (las σ s)) p)
  refine ⟨g1, ?_, W1, O1⟩
  unfold fX11_goAwait
  simp only [m_lst W R G h0, Option.bind_some]
  rw [show lst σ 24 (tp σ s) = las σ s from rfl]
  simp (disch := omega) only [l_288, J_add, ra_aw W, Option.bind_some, J_bset, e1]
def rfR (σ : ST) (s p : Nat) : Nat := if rfF σ s p = 0 then (if pgi σ s p = true ∧ tot σ 8 = 64 then 4294967291 else 0) else rfF σ s p
theorem m_refR (W : RA h A σ) (R : RG σ) (G : GR σ) {s p : Nat} (h0 : hs σ s = true) (hp : p < 8) : fX11_refusesRead h A (J s) (J p) = some (J (rfR σ s p)) := by
  have v := rfF_v σ s p
  have t1 := tot_lt R (f := 8)
  unfold fX11_refusesRead rfR
  simp (disch := omega) only [m_refF W R G h0 hp, Option.bind_some, l_0, J_le]
  by_cases e : rfF σ s p = 0
  · rw [if_pos (by omega), if_pos e]
    simp only [m_isF W R G h0 hp, Option.bind_some]
    by_cases e2 : pgi σ s p = true
    · rw [if_pos e2]
      simp (disch := omega) only [m_frames W R, Option.bind_some, l_64, J_inj]
      by_cases e3 : tot σ 8 = 64
      · rw [if_pos e3, if_pos ⟨e2, e3⟩, neg_l5]
      · rw [if_neg e3, if_neg (fun z => e3 z.2)]
    · rw [if_neg e2, if_neg (fun z => e2 z.1)]
  · rw [if_neg (by omega), if_neg e]
theorem m_shared (W : RA h A σ) (R : RG σ) (G : GR σ) {s : Nat} (h0 : hs σ s = true) : fX11_isShared h A (J s) = some (nds σ s) := by
  obtain ⟨h1, h2, h3⟩ := hs_tp h0 R G
  have h4 := (hs_lt h0).2
  have q1 := hol_lt (σ := σ) (n := σ 0 s)
  have hsb : sb σ s < 4294967296 := by unfold sb; split <;> omega
  unfold fX11_isShared nds
  rw [h2]
  simp (disch := omega) only [l_318, J_add, ra_sr W, Option.bind_some, l_1, J_inj]
  unfold sb
  cases (σ 1 0).testBit s
  · simp
  · simp (disch := omega) only [if_true, l_312, J_add, ra_tp W, nn_id h4, m_hol W R, Option.bind_some, J_le, Bool.true_and]
    by_cases e : 1 < hol σ (σ 0 s)
    · rw [if_neg (by omega), decide_eq_true e]
    · rw [if_pos (by omega), decide_eq_false e]
theorem lst_rk {rk : Nat → Nat} (G : GRk rk σ) : ∀ k o, o < 24 → rk (lst σ k o) ≤ rk o
  | 0, _, _ => Nat.le_refl _
  | k + 1, o, ho' => by
    unfold lst
    split
    · rename_i h1
      have e : at24 σ 4 o = σ 4 o := by unfold at24; rw [if_pos ho']
      rw [e] at h1
      have h2 := (ho_lt h1).1
      exact Nat.le_trans (lst_rk G k _ h2) (Nat.le_of_lt (G o ho' h2))
    · exact Nat.le_refl _
theorem las_tp (R : RG σ) (G : GR σ) {s : Nat} (h0 : hs σ s = true) : las σ s = tp σ s ↔ σ 4 (tp σ s) = 24 := by
  obtain ⟨h1, h2, h3⟩ := hs_tp h0 R G
  obtain ⟨t1, t2⟩ := ho_lt h3
  have e : at24 σ 4 (tp σ s) = σ 4 (tp σ s) := by unfold at24; rw [if_pos t1]
  have el : las σ s = if ho σ (at24 σ 4 (tp σ s)) = true then lst σ 23 (σ 4 (tp σ s)) else tp σ s := rfl
  have r1 := (R.2.2.1 _ t1).2.2.1
  rw [el, e]
  by_cases h4 : σ 4 (tp σ s) = 24
  · rw [if_neg (by rw [h4]; exact ho_24)]
    exact ⟨fun _ => h4, fun _ => rfl⟩
  · have h5 : σ 4 (tp σ s) < 24 := by omega
    rw [if_pos (ho_of h5 (G.2.1 _ t1 h5))]
    constructor
    · intro z
      exfalso
      obtain ⟨-, -, -, rk, hrk⟩ := G
      have h6 := lst_rk (rk := rk) hrk 23 _ h5
      rw [z] at h6
      have h7 := hrk _ t1 h5
      omega
    · intro z; exact absurd z h4
def wrN (σ : ST) (s p : Nat) : Nat := if rfF σ s p = 0 then (if nds σ s = true ∧ ¬ frO σ < 24 then 4294967290 else if tot σ 8 + f2w σ s p (nds σ s) ≤ 64 then 0 else 4294967291) else rfF σ s p
theorem hd_fir {s p : Nat} (h3 : ho σ (tp σ s) = true) (e : hd σ (tp σ s) p = true) : fir σ s p = tp σ s := by
  unfold fir fh
  rw [if_pos h3, if_pos e]
theorem psh_cp (G : GR σ) (R : RG σ) {o p : Nat} (ho' : o < 24) (hp : p < 8) : psh σ o p = (decide (σ 5 o < 24) && !(σ 8 (σ 5 o)).testBit p) := by
  have e : at24 σ 5 o = σ 5 o := by unfold at24; rw [if_pos ho']
  unfold psh
  rw [e]
  by_cases h1 : σ 5 o < 24
  · rw [ho_of h1 (G.2.2.1 o ho' h1), decide_eq_true h1]
    unfold hd
    rw [decide_eq_true h1, decide_eq_true hp]
    rfl
  · have : ho σ (σ 5 o) = false := by unfold ho; rw [decide_eq_false h1, Bool.false_and]
    rw [this, decide_eq_false h1]
    rfl
theorem m_refW (W : RA h A σ) (R : RG σ) (G : GR σ) {s p : Nat} (h0 : hs σ s = true) (hp : p < 8) : fX11_refusesWrite h A (J s) (J p) = some (J (wrN σ s p)) := by
  obtain ⟨h1, h2, h3⟩ := hs_tp h0 R G
  obtain ⟨t1, t2⟩ := ho_lt h3
  have v := rfF_v σ s p
  have tt := tot_lt R (f := 8)
  have r1 := R.2.2.1 _ t1
  have fo := frO_le R
  have hh : hd σ (tp σ s) p = (σ 8 (tp σ s)).testBit p := by unfold hd; rw [decide_eq_true t1, decide_eq_true hp]; rfl
  have e143 : ∀ c : Nat, c < 100 → fX11_refusesWrite_J143 h A (J c) = some (J (if tot σ 8 + c ≤ 64 then 0 else 4294967291)) := by
    intro c hc
    unfold fX11_refusesWrite_J143
    simp (disch := omega) only [m_frames W R, Option.bind_some, J_add, l_64, J_le]
    by_cases e : tot σ 8 + c ≤ 64
    · rw [if_pos (by omega), if_pos e]; rfl
    · rw [if_neg (by omega), if_neg e, neg_l5]
  have e130 : ∀ (b : Bool) (c : Nat) (q : Bool), c < 90 → fX11_refusesWrite_J130 h A b (J c) (b2i q) = some (J (if tot σ 8 + (c + (if b = true ∨ ¬ q = true then 1 else 0)) ≤ 64 then 0 else 4294967291)) := by
    intro b c q hc
    unfold fX11_refusesWrite_J130
    cases b
    · rw [if_neg (by decide)]
      cases q
      · rw [show b2i false = 0 from rfl, if_pos rfl]
        simp only [letF, l_1, J_add]
        rw [e143 _ (by omega)]
        simp
      · rw [show b2i true = 1 from rfl, if_neg (by decide), e143 _ (by omega)]
        simp
    · rw [if_pos rfl]
      simp only [letF, l_1, J_add]
      rw [e143 _ (by omega)]
      simp
  have e93 : ∀ (c : Nat) (q : Bool), c < 80 → fX11_refusesWrite_J93 h A (J p) (J (tp σ s)) (nds σ s) (J c) (b2i q) = some (J (if tot σ 8 + (c + (if nds σ s = true ∨ ¬ q = true then 1 else 0) + (if ¬ nds σ s = true ∧ psh σ (tp σ s) p = true then 1 else 0)) ≤ 64 then 0 else 4294967291)) := by
    intro c q hc
    unfold fX11_refusesWrite_J93
    by_cases hb : nds σ s = true
    · rw [if_pos hb]
      unfold fX11_refusesWrite_J109
      rw [if_pos rfl, e130 _ _ _ (by omega)]
      rw [if_neg (show ¬ (¬ nds σ s = true ∧ psh σ (tp σ s) p = true) from fun z => z.1 hb)]
      rfl
    · rw [if_neg hb]
      have nl := nn_lt r1.2.2.2.1
      unfold fX11_refusesWrite_J109
      simp (disch := omega) only [l_264, J_add, ra_cp W, Option.bind_some, m1_J, J_inj, nn_m1 r1.2.2.2.1]
      have ep := psh_cp (p := p) G R t1 hp
      by_cases hc24 : σ 5 (tp σ s) = 24
      · rw [if_pos hc24, e130 _ _ _ (by omega)]
        rw [ep, decide_eq_false (by omega), Bool.false_and, if_neg (show ¬ (¬ nds σ s = true ∧ false = true) from fun z => by cases z.2)]
        rfl
      · have hc24' : σ 5 (tp σ s) < 24 := by omega
        rw [if_neg hc24, nn_id hc24']
        simp (disch := omega) only [m_hd W R, Option.bind_some]
        rw [decide_eq_true hc24', Bool.true_and] at ep
        by_cases hq : (σ 8 (σ 5 (tp σ s))).testBit p = true
        · rw [if_pos hq, e130 _ _ _ (by omega)]
          rw [ep, hq, if_neg (show ¬ (¬ nds σ s = true ∧ (!true) = true) from fun z => by cases z.2)]
          rfl
        · rw [if_neg hq]
          simp only [letF, l_1, J_add]
          rw [e130 _ _ _ (by omega)]
          have hq' : (σ 8 (σ 5 (tp σ s))).testBit p = false := by simpa using hq
          rw [ep, hq', if_pos (show ¬ nds σ s = true ∧ (!false) = true from ⟨hb, rfl⟩)]
          congr 3
          congr 1
          omega
  have e77 : ∀ (c : Nat) (q : Bool), c < 80 → rfF σ s p = 0 → f2w σ s p (nds σ s) = c + (if nds σ s = true ∨ ¬ q = true then 1 else 0) + (if ¬ nds σ s = true ∧ psh σ (tp σ s) p = true then 1 else 0) → fX11_refusesWrite_J77 h A (J p) (J (tp σ s)) (nds σ s) (J c) (b2i q) = some (J (wrN σ s p)) := by
    intro c q hc hr hf
    unfold fX11_refusesWrite_J77 wrN
    rw [if_pos hr, hf]
    by_cases hb : nds σ s = true
    · rw [if_pos hb]
      have nl : nn (frO σ) < 4294967296 := nn_lt fo
      simp (disch := omega) only [m_frO W R, Option.bind_some, m1_J, J_inj, nn_m1 fo]
      by_cases h24 : frO σ = 24
      · rw [if_pos h24, if_pos ⟨hb, by omega⟩, ← neg_l6]
      · rw [if_neg h24, if_neg (fun z => z.2 (by omega)), e93 c q hc]
    · rw [if_neg hb, if_neg (fun z => hb z.1), e93 c q hc]
  unfold fX11_refusesWrite
  have s2 := (hs_lt h0).2
  rw [h2] at e77 hh t1 t2 h3
  simp (disch := omega) only [l_312, J_add, ra_tp W, nn_id s2, m_shared W R G h0, m_hd W R, Option.bind_some]
  have unf : f2w σ s p (nds σ s) = ((if pgi σ s p = true then 1 else 0) + (if nds σ s = true ∨ ¬ (hd σ (σ 0 s) p = true ∨ (pgi σ s p = true ∧ las σ s = σ 0 s)) then 1 else 0)) + (if ¬ nds σ s = true ∧ psh σ (σ 0 s) p = true then 1 else 0) := by
    unfold f2w; rw [h2]
  by_cases e : (σ 8 (σ 0 s)).testBit p = true
  · have hf : fir σ s p = σ 0 s := by rw [← h2]; exact hd_fir (by rw [h2]; exact h3) (by rw [h2, hh]; exact e)
    have hr : rfF σ s p = 0 := by unfold rfF; rw [if_neg (by omega)]
    have hg : pgi σ s p = false := by unfold pgi; rw [decide_eq_false (by omega), Bool.false_and]
    rw [if_pos e, l_0, e]
    refine e77 0 true (by omega) hr ?_
    rw [unf, hg, hh, e]
    simp
  · rw [if_neg e]
    have e' : (σ 8 (σ 0 s)).testBit p = false := by simpa using e
    simp (disch := omega) only [m_refF W R G h0 hp, Option.bind_some, l_0, J_le]
    by_cases hr : rfF σ s p = 0
    · rw [if_pos (by omega)]
      simp only [m_isF W R G h0 hp, Option.bind_some]
      by_cases hg : pgi σ s p = true
      · rw [if_pos hg]
        have r4 := (R.2.2.1 _ t1).2.2.1
        have nl := nn_lt r4
        simp (disch := omega) only [letF, l_1, neg_l1, J_add, l_192, ra_sh W, Option.bind_some, J_inj, nn_m1 r4]
        have lt := las_tp R G h0
        rw [h2] at lt
        by_cases h4 : σ 4 (σ 0 s) = 24
        · rw [if_pos h4]
          show fX11_refusesWrite_J77 h A (J p) (J (σ 0 s)) (nds σ s) (J 1) (b2i true) = _
          refine e77 1 true (by omega) hr ?_
          rw [unf, hg, hh, e', lt.mpr h4]
          simp
        · rw [if_neg h4]
          show fX11_refusesWrite_J77 h A (J p) (J (σ 0 s)) (nds σ s) (J 1) (b2i false) = _
          refine e77 1 false (by omega) hr ?_
          have hne : ¬ las σ s = σ 0 s := fun z => h4 (lt.mp z)
          rw [unf, hg, hh, e']
          simp [hne]
      · rw [if_neg hg, e']
        refine e77 0 false (by omega) hr ?_
        rw [unf, hh, e']
        simp [hg]
    · rw [if_neg (by omega)]
      unfold wrN
      rw [if_neg hr]
theorem m_comes (W : RA h A σ) (R : RG σ) {pg dg t : Nat} (hf : frO σ < 24) (hp : pg < 4) : ∃ h', fX11_comes h A (J pg) (J dg) (J (nn t)) = some (J (frO σ), h') ∧ RA h' A (put (comeS σ (frO σ) pg dg) 4 (frO σ) t) ∧ Ot A (A + 1) h h' := by
  obtain ⟨m2, m4, m5, m7, m8⟩ := fro_miss R hf
  obtain ⟨g1, e1, W1, O1⟩ := m_clear W hf (by omega)
  obtain ⟨g2, e2, W2, O2⟩ := rw_pr W1 hf pg
  obtain ⟨g3, e3, W3, O3⟩ := rw_dg W2 hf dg
  obtain ⟨g4, e4, W4, O4⟩ := rw_sh W3 hf t
  rw [if_pos hp] at e2
  refine ⟨g4, ?_, W4.cg ?_, ((O1.trans O2).trans O3).trans O4⟩
  · unfold fX11_comes
    simp (disch := omega) only [m_frO W R, nn_id hf, Option.bind_some, e1, l_216, l_240, l_192, J_add, e2, e3, e4]
  · refine ⟨?_, ⟨?_, ?_⟩, ?_, ?_, ?_, ?_, ?_, ?_, ?_⟩ <;> (try intro k) <;> simp only [clrS, comeS, put]
    · simp
    · simp
    · simp
    · by_cases e : k = frO σ
      · simp [e]
      · simp [e]
    · by_cases e : k = frO σ
      · simp [e]
      · simp [e]
    · by_cases e : k = frO σ
      · simp [e]
      · simp [e]
    · by_cases e : k = frO σ
      · simp [e, m5]
      · simp [e]
    · simp
    · by_cases e : k = frO σ
      · simp [e, m7]
      · simp [e]
    · by_cases e : k = frO σ
      · simp [e, m8]
      · simp [e]
theorem m_refK (W : RA h A σ) (R : RG σ) (G : GR σ) {s : Nat} (hs' : s < 4294967296) : fX11_refusesFork h A (J s) = some (J (if hs σ s = true then (if frS σ < 6 then (if ¬ pgr σ (σ 0 s) = 0 ∧ ¬ frO σ < 24 then 4294967290 else 0) else 4294967294) else 4294967295)) := by
  have fs := frS_le R
  have fo := frO_le R
  unfold fX11_refusesFork
  simp (disch := omega) only [m_hs W R, Option.bind_some]
  by_cases h0 : hs σ s = true
  · obtain ⟨h1, h2, h3⟩ := hs_tp h0 R G
    have s2 := (hs_lt h0).2
    rw [h2] at h3
    have g1 := pgr_le R (σ 0 s)
    have n6l : n6 (frS σ) < 4294967296 := by unfold n6; split <;> omega
    have n6e : n6 (frS σ) = 4294967295 ↔ ¬ frS σ < 6 := by unfold n6; split <;> omega
    have nl := nn_lt fo
    rw [if_pos h0, if_pos h0]
    simp (disch := omega) only [m_frS W R, Option.bind_some, m1_J, J_inj, n6e]
    by_cases h6 : frS σ < 6
    · rw [if_neg (fun z => z h6), if_pos h6]
      simp (disch := omega) only [l_312, J_add, ra_tp W, nn_id s2, l_216, ra_pr W, pr_pgr h3, Option.bind_some, l_0, J_inj]
      by_cases hp : pgr σ (σ 0 s) = 0
      · rw [if_pos hp, if_neg (fun z => z.1 hp)]
      · rw [if_neg hp]
        simp (disch := omega) only [m_frO W R, Option.bind_some, J_inj, nn_m1 fo]
        by_cases h24 : frO σ = 24
        · rw [if_pos h24, if_pos ⟨hp, by omega⟩, neg_l6]
        · rw [if_neg h24, if_neg (fun z => z.2 (by omega))]
    · rw [if_pos h6, if_neg h6, neg_l2]
  · rw [if_neg h0, if_neg h0, m1_J]
theorem m_fork (W : RA h A σ) (I : INV σ) {s : Nat} (hk : frkOk σ s) : ∃ h', fX11_goFork h A (J s) = some (J (frS σ), h') ∧ RA h' A (frkS σ s) ∧ Ot A (A + 1) h h' := by
  have R := I.rg
  have G := I.gr
  obtain ⟨h0, h6, hq⟩ := hk
  obtain ⟨h1, h2, h3⟩ := hs_tp h0 R G
  have s2 := (hs_lt h0).2
  rw [h2] at h3
  have g1 := pgr_le R (σ 0 s)
  have n6e : n6 (frS σ) = frS σ := by unfold n6; rw [if_neg (by omega)]
  have f24 := frS_spec R h6
  have hne : frS σ ≠ s := fun z => by rw [z] at f24; omega
  have s10 := R.2.1.1
  unfold fX11_goFork
  simp (disch := omega) only [m_frS W R, n6e, Option.bind_some, l_312, J_add, ra_tp W, nn_id s2, l_216, ra_pr W, pr_pgr h3, l_0, J_inj]
  by_cases hp : pgr σ (σ 0 s) = 0
  · have z0 : frk0 σ s = put σ 1 0 (bset (σ 1 0) s) := by unfold frk0; rw [if_pos hp]
    have zT : frkT σ s = σ 0 s := by unfold frkT; rw [if_pos hp]
    obtain ⟨ga, ea, Wa, Oa⟩ := rw_tp W h6 (σ 0 s)
    rw [nn_id s2] at ea
    obtain ⟨gb, eb, Wb, Ob⟩ := rw_sr Wa h1 (bset (σ 1 0) s) (fun t ht => by rw [bset_tb, decide_eq_false ht, Bool.or_false]; rfl)
    obtain ⟨gc, ec, Wc, Oc⟩ := rw_sr Wb h6 (bset (bset (σ 1 0) s) (frS σ)) (fun t ht => by rw [bset_tb, decide_eq_false ht, Bool.or_false, put_eq])
    rw [if_pos (by rw [bset_tb]; simp)] at eb ec
    refine ⟨gc, ?_, Wc.cg ?_, (Oa.trans Ob).trans Oc⟩
    · rw [if_pos hp, ea]
      unfold fX11_goFork_J95
      simp only [Option.bind_some, l_318, l_1, J_add, eb, ec]
    · unfold frkS
      rw [z0, zT]
      refine ⟨?_, ⟨?_, ?_⟩, ?_, ?_, ?_, ?_, ?_, ?_, ?_⟩ <;> (try intro k) <;> simp [put]
  · have hf := hq.resolve_left hp
    have z0 : frk0 σ s = cmpS σ (σ 0 s) := by unfold frk0; rw [if_neg hp]
    have zT : frkT σ s = frO σ := by unfold frkT; rw [if_neg hp]
    have gc3 := G.2.2.1 _ s2
    obtain ⟨g1', e1, W1, O1⟩ := m_comes W R (pg := 0) (dg := 0) (t := σ 0 s) hf (by decide)
    rw [nn_id s2] at e1
    have r5 := (R.2.2.1 _ s2).2.2.2.1
    have nl := nn_lt r5
    have a5 : put (comeS σ (frO σ) 0 0) 4 (frO σ) (σ 0 s) 5 (σ 0 s) = σ 5 (σ 0 s) := by simp [comeS, put]
    have tail : ∀ g, RA g A (if ho (put (comeS σ (frO σ) 0 0) 4 (frO σ) (σ 0 s)) (σ 5 (σ 0 s)) = true then put (put (comeS σ (frO σ) 0 0) 4 (frO σ) (σ 0 s)) 4 (σ 5 (σ 0 s)) (frO σ) else put (comeS σ (frO σ) 0 0) 4 (frO σ) (σ 0 s)) → Ot A (A + 1) h g → ∃ h', fX11_goFork_J77 (fun h13 x11 x12 => fX11_goFork_J95 h13 x11 x12) g A (J (frS σ)) (J (σ 0 s)) (J (frO σ)) = some (J (frS σ), h') ∧ RA h' A (frkS σ s) ∧ Ot A (A + 1) h h' := by
      intro g Wg Og
      obtain ⟨ga, ea, Wa, Oa⟩ := rw_cp Wg s2 (frO σ)
      obtain ⟨gb, eb, Wb, Ob⟩ := rw_tp Wa h6 (frO σ)
      rw [nn_id hf] at ea eb
      have Wb' : RA gb A (put (cmpS σ (σ 0 s)) 0 (frS σ) (frO σ)) := Wb
      have c10 : put (cmpS σ (σ 0 s)) 0 (frS σ) (frO σ) 1 0 = σ 1 0 := by rw [put_f (by decide), cmp_10]
      obtain ⟨gc, ec, Wc, Oc⟩ := rw_sr Wb' h6 (bset (σ 1 0) (frS σ)) (fun t ht => by rw [bset_tb, decide_eq_false ht, Bool.or_false, c10])
      rw [if_pos (by rw [bset_tb]; simp)] at ec
      refine ⟨gc, ?_, Wc.cg ?_, ((Og.trans Oa).trans Ob).trans Oc⟩
      · unfold fX11_goFork_J77 fX11_goFork_J95
        simp only [Option.bind_some, l_318, l_312, l_264, l_1, J_add, ea, eb, ec]
      · unfold frkS
        rw [z0, zT, cmp_10]
        refine ⟨?_, ⟨?_, ?_⟩, ?_, ?_, ?_, ?_, ?_, ?_, ?_⟩ <;> (try intro k) <;> simp [put]
    rw [if_neg hp, e1]
    simp (disch := omega) only [Option.bind_some, l_264, J_add, ra_cp W1, a5, m1_J, J_inj, nn_m1 r5]
    have cho := cmp_ho (t := σ 0 s) R hf gc3
    by_cases h24 : σ 5 (σ 0 s) = 24
    · rw [if_pos h24]
      refine tail g1' ?_ O1
      rw [cho, decide_eq_false (by omega), if_neg (by decide)]
      exact W1
    · have h24' : σ 5 (σ 0 s) < 24 := by omega
      obtain ⟨g2, e2, W2, O2⟩ := rw_sh W1 h24' (frO σ)
      rw [nn_id hf] at e2
      rw [if_neg h24, nn_id h24', l_192, J_add, e2]
      refine tail g2 ?_ (O1.trans O2)
      rw [cho, decide_eq_true h24', if_pos rfl]
      exact W2
theorem m_end (W : RA h A σ) (I : INV σ) {s : Nat} (hs' : s < 6) : ∃ h', fX11_goEnd h A (J s) = some (J (endS σ s).1, h') ∧ RA h' A (endS σ s).2 ∧ Ot A (A + 1) h h' := by
  obtain ⟨g1, e1, W1, O1⟩ := rw_tp W hs' 24
  obtain ⟨g2, e2, W2, O2⟩ := rw_sr W1 hs' (bclr (σ 1 0) s) (fun t ht => by rw [bclr_tb, decide_eq_false ht]; simp [put])
  rw [nn_24] at e1
  rw [if_neg (by rw [bclr_tb]; simp)] at e2
  have W3 : RA g2 A (en0 σ s) := W2.cg (by
    unfold en0
    refine ⟨?_, ⟨?_, ?_⟩, ?_, ?_, ?_, ?_, ?_, ?_, ?_⟩ <;> (try intro k) <;> simp [put])
  obtain ⟨rk, I1, H⟩ := I
  obtain ⟨g3, e3, W4, H4, O3⟩ := m_free W3 (iv_en0 I1 hs').1 (nz_en0 H)
  refine ⟨g3, ?_, W4, (O1.trans O2).trans O3⟩
  unfold fX11_goEnd
  simp only [l_312, l_318, l_0, J_add, m1_J, e1, e2, e3, Option.bind_some]
  rfl
end MF
