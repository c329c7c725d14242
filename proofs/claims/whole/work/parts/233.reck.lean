/-! rules reckoned by the class -/
def PC (c : List Nat) : Prop := ∀ x, x ∈ c → x < 1000 ∨ (1000 < x ∧ x < 1256)
theorem PC.app {c c' : List Nat} (h : PC c) (h' : PC c') : PC (c ++ c') := fun x hx => (List.mem_append.mp hx).elim (h x) (h' x)
theorem PC.one {k : Nat} (h : k < 1000 ∨ (1000 < k ∧ k < 1256)) : PC [k] := fun x hx => by
  rw [List.mem_singleton.mp hx]; exact h
theorem stg_pc {hr : Nat → Nat} (hs : ∀ i, hr i < 256 ∨ hr i = BIG) {a : Nat} (h : 0 < stg (hr a)) : PC [1000 + hr a] := by
  refine PC.one (Or.inr ?_)
  have h0 : hr a ≠ 0 := fun z => by rw [z] at h; revert h; decide
  rcases hs a with h1 | h1
  · omega
  · rw [h1, stg_big] at h; omega
theorem pzl_pc {hr : Nat → Nat} (hs : ∀ i, hr i < 256 ∨ hr i = BIG) (rc : Nat → PR) {st : Nat} (hst : 0 < st) (hrc : ∀ a q, rc a = some q → PC q.1) : ∀ n c a q, pzl rc st hr n c a = some q → PC c → PC q.1
  | 0, c, a, q, h, _ => by cases h
  | n + 1, c, a, q, h, hc => by
    unfold pzl at h
    by_cases h1 : stg (hr a) = st
    · rw [if_pos h1] at h
      obtain ⟨r, hr1, hr2⟩ := Option.bind_eq_some_iff.mp h
      by_cases h2 : r.2.2 = true
      · rw [if_pos h2] at hr2
        exact pzl_pc hs rc hst hrc n _ _ q hr2 ((hc.app (hrc _ _ hr1)).app (stg_pc hs (by omega)))
      · rw [if_neg h2] at hr2
        cases hr2
        exact hc
    · rw [if_neg h1] at h
      cases h
      exact hc
theorem pz_pc {hr : Nat → Nat} (hs : ∀ i, hr i < 256 ∨ hr i = BIG) : ∀ d k deep a q, k ≤ 3 → pz hr d k deep a = some q → PC q.1 := by
  intro d
  induction d with
  | zero => intro k deep a q _ h; cases h
  | succ d ih =>
    intro k deep a q hk h
    match k, hk, h with
    | 1, _, h =>
      obtain ⟨r, h1, h2⟩ := Option.bind_eq_some_iff.mp (pz_1.symm.trans h)
      have p1 := ih 2 deep a r (by omega) h1
      by_cases h3 : r.2.2 = true
      · rw [if_pos h3] at h2
        exact pzl_pc hs _ (by omega) (fun a q hq => ih 2 deep a q (by omega) hq) _ _ _ q h2 p1
      · rw [if_neg h3] at h2
        cases h2
        exact p1
    | 2, _, h =>
      obtain ⟨r, h1, h2⟩ := Option.bind_eq_some_iff.mp (pz_2.symm.trans h)
      have p1 := ih 3 deep a r (by omega) h1
      by_cases h3 : r.2.2 = true
      · rw [if_pos h3] at h2
        exact pzl_pc hs _ (by omega) (fun a q hq => ih 3 deep a q (by omega) hq) _ _ _ q h2 p1
      · rw [if_neg h3] at h2
        cases h2
        exact p1
    | 0, _, h =>
      obtain ⟨r, h1, h2⟩ := Option.bind_eq_some_iff.mp (pz_0.symm.trans h)
      have p1 := ih 1 deep a r (by omega) h1
      by_cases h3 : r.2.2 = true
      · rw [if_pos h3] at h2
        by_cases h4 : stg (hr r.2.1) = 1
        · rw [if_pos h4] at h2
          obtain ⟨u, h5, h6⟩ := Option.bind_eq_some_iff.mp h2
          cases h6
          exact (p1.app (ih 1 deep _ u (by omega) h5)).app (stg_pc hs (by omega))
        · rw [if_neg h4] at h2
          cases h2
          exact p1
      · rw [if_neg h3] at h2
        cases h2
        exact p1
    | 3, _, h =>
      have h' := pz_3.symm.trans h
      by_cases h1 : hr a = 45
      · rw [if_pos h1] at h'
        obtain ⟨u, h5, h6⟩ := Option.bind_eq_some_iff.mp h'
        cases h6
        exact (ih 3 deep _ u (by omega) h5).app (PC.one (by omega))
      · rw [if_neg h1] at h'
        by_cases h2 : hr a = 40 ∧ deep < 4
        · rw [if_pos h2] at h'
          obtain ⟨u, h5, h6⟩ := Option.bind_eq_some_iff.mp h'
          have p1 := ih 0 _ _ u (by omega) h5
          by_cases h3 : u.2.2 = true
          · rw [if_pos h3] at h6
            split at h6
            · cases h6; exact p1
            · cases h6; exact p1
          · rw [if_neg h3] at h6
            cases h6
            exact p1
        · rw [if_neg h2] at h'
          by_cases h3 : dgc (hr a) = true
          · rw [if_pos h3] at h'
            cases h'
            refine PC.one (Or.inl ?_)
            have q1 := dgc_r h3
            unfold nval
            split
            · rename_i d1
              have q2 := dgc_r d1
              split
              · rename_i d2
                have q3 := dgc_r d2
                omega
              · omega
            · omega
          · rw [if_neg h3] at h'
            by_cases h4 : ltc (hr a) = true
            · rw [if_pos h4] at h'
              cases h'
              refine PC.one (Or.inr ?_)
              have := ltc_v.mp h4
              omega
            · rw [if_neg h4] at h'
              cases h'
              intro x hx
              cases hx
def msr (σ : ST) (s p g : Nat) : Int32 := if g = 102 then J (tot σ 8) else if g = 110 then J (dep σ 24 (tp σ s)) else if g = 111 then J (bc (σ 1 2)) else if g = 112 then J p else if g = 115 then J s else if g = 119 then J (σ 1 3) - J (σ 1 3) / 7 * 7 else J (bc (at0 σ 8 (tp σ s)))
def ngt : List Int32 → List Int32
  | v :: st => (-v) :: st
  | [] => []
def bnt (g : Nat) : List Int32 → List Int32
  | b :: a :: st => bnd g a b :: st
  | [v] => [v]
  | [] => []
theorem nstep_n {e : Nat → Int32} {st : List Int32} : nstep e 1126 st = ngt st := by cases st <;> rfl
theorem nstep_o {e : Nat → Int32} {g : Nat} {st : List Int32} (h : 0 < stg g) (hg : g ≠ 126) : nstep e (1000 + g) st = bnt g st := by
  match st with
  | b :: a :: st => exact nstep_b h hg
  | [v] =>
    unfold nstep
    rw [if_neg (by omega), if_neg (by omega), Nat.add_sub_cancel_left, if_pos h]
    rfl
  | [] =>
    unfold nstep
    rw [if_neg (by omega), if_neg (by omega), Nat.add_sub_cancel_left, if_pos h]
    rfl
theorem ngt_len (st : List Int32) : (ngt st).length = st.length := by cases st <;> rfl
theorem bnt_len (g : Nat) (st : List Int32) : (bnt g st).length ≤ st.length := by
  match st with
  | b :: a :: st => exact Nat.le_succ _
  | [v] => exact Nat.le_refl _
  | [] => exact Nat.le_refl _
def SRk (f : Nat → Int32) : List Int32 → Prop
  | [] => True
  | v :: st => f st.length = v ∧ SRk f st
theorem SRk.cg {f f' : Nat → Int32} : ∀ {st : List Int32}, SRk f st → (∀ j, j < st.length → f' j = f j) → SRk f' st
  | [], _, _ => trivial
  | v :: st, h, e => ⟨(e st.length (by simp)).trans h.1, h.2.cg (fun j hj => e j (by simp; omega))⟩
def RUs (h : AH) (r : Nat) (C : List Nat) (st : List Int32) : Prop := ∃ F fc fs, OBJ 6 3 h r F ∧ F 0 = .ref (r + 1) ∧ F 1 = .ref (r + 2) ∧ F 2 = .int (J C.length) ∧ h.1 (r + 1) = some (.inl (0, 40, .inl fc)) ∧ h.1 (r + 2) = some (.inl (0, 40, .inl fs)) ∧ C.length ≤ 40 ∧ (∀ j k, C[j]? = some k → fc j = J k) ∧ SRk fs st
section CK
variable {h : AH} {r w : Nat} {C : List Nat} {σ : ST}
theorem RUs.u {st : List Int32} (U : RUs h r C st) : RU h r C := by
  obtain ⟨F, fc, fs, u1, u2, u3, u4, u5, u6, u7, u8, u9⟩ := U
  exact ⟨F, fc, fs, u1, u2, u3, u4, u5, u6, u7, u8⟩
theorem at0_lt (R : RG σ) (n : Nat) : at0 σ 8 n < 256 := by
  unfold at0
  split
  · exact (R.2.2.1 n (by assumption)).2.2.2.2.2
  · omega
theorem c_measure (W : WR h w σ) (R : RG σ) {g s p : Nat} (hg : g < 65536) (hs' : s < 4294967296) : fX6_measure h (J g) w (J s) (J p) = some (msr σ s p g) := by
  have l110 : (110 : Int32) = J 110 := rfl
  have l111 : (111 : Int32) = J 111 := rfl
  have l115 : (115 : Int32) = J 115 := rfl
  have l112 : (112 : Int32) = J 112 := rfl
  have l119 : (119 : Int32) = J 119 := rfl
  have tl := tp_le R s
  have a1 := at0_lt R (tp σ s)
  unfold fX6_measure msr
  simp (disch := omega) only [l110, l_102, l111, l115, l112, l119, J_inj, c_frameTotal W R, c_chain W R, c_objectTotal W R, c_writeTotal W, c_tp W R, c_heldOf W R, bc_J, Option.bind_some]
  by_cases h1 : g = 102
  · rw [if_pos h1, if_pos h1]
  · rw [if_neg h1, if_neg h1]
    by_cases h2 : g = 110
    · rw [if_pos h2, if_pos h2]
    · rw [if_neg h2, if_neg h2]
      by_cases h3 : g = 111
      · rw [if_pos h3, if_pos h3]
      · rw [if_neg h3, if_neg h3]
        by_cases h4 : g = 112
        · rw [if_pos h4, if_pos h4]
        · rw [if_neg h4, if_neg h4]
          by_cases h5 : g = 115
          · rw [if_pos h5, if_pos h5]
          · rw [if_neg h5, if_neg h5]
            by_cases h6 : g = 119
            · rw [if_pos h6, if_pos h6]
              unfold jrem
              rw [if_neg (by decide)]
              rfl
            · rw [if_neg h6, if_neg h6]
theorem c_push {st : List Int32} (U : RUs h r C st) (hst : st.length < 40) (v : Int32) : ∃ h', fX6_push h r (J st.length) v = some (J (st.length + 1), h') ∧ RUs h' r C (v :: st) ∧ Ot r (r + 3) h h' := by
  obtain ⟨F, fc, fs, u1, u2, u3, u4, u5, u6, u7, u8, u9⟩ := U
  obtain ⟨g1, e1, C1, O1⟩ := wa_s u6 hst (by decide) v
  refine ⟨g1, ?_, ⟨F, fc, _, u1.ot O1 (by omega), u2, u3, u4, (O1.2 _ (by omega)).trans u5, C1, u7, u8, ⟨if_pos rfl, u9.cg (fun j hj => if_neg (by omega))⟩⟩, O1.mono (by omega) (by omega)⟩
  unfold fX6_push
  simp (disch := omega) only [ob_h u1, if_true, l_0, J_lt, ob_r u1 (k := 1) (by decide) u3, Option.bind_some, aL_at u6]
  rw [if_neg (by omega), if_pos (by omega)]
  simp only [e1, Option.bind_some, l_1, J_add]
theorem c_neg {st : List Int32} (U : RUs h r C st) (hst : st.length ≤ 40) : ∃ h', fX6_negateTop h r (J st.length) = some h' ∧ RUs h' r C (ngt st) ∧ Ot r (r + 3) h h' := by
  obtain ⟨F, fc, fs, u1, u2, u3, u4, u5, u6, u7, u8, u9⟩ := U
  cases st with
  | nil =>
    refine ⟨h, ?_, ⟨F, fc, fs, u1, u2, u3, u4, u5, u6, u7, u8, u9⟩, Ot.rf⟩
    unfold fX6_negateTop
    simp (disch := omega) only [ob_h u1, if_true, l_0, J_le, List.length_nil]
    rw [if_pos (by omega)]
  | cons v st =>
    have hst' : st.length + 1 ≤ 40 := hst
    obtain ⟨g1, e1, C1, O1⟩ := wa_s u6 (show st.length < 40 by omega) (by decide) (-v)
    refine ⟨g1, ?_, ⟨F, fc, _, u1.ot O1 (by omega), u2, u3, u4, (O1.2 _ (by omega)).trans u5, C1, u7, u8, ⟨if_pos rfl, u9.2.cg (fun j hj => if_neg (by omega))⟩⟩, O1.mono (by omega) (by omega)⟩
    unfold fX6_negateTop
    simp (disch := omega) only [ob_h u1, if_true, l_0, J_le, ob_r u1 (k := 1) (by decide) u3, Option.bind_some, aL_at u6, J_lt, List.length_cons, l_1, J_sub, Nat.add_sub_cancel]
    rw [if_neg (by omega), if_neg (by omega)]
    simp (disch := omega) only [aI_at u6, u9.1, Option.bind_some, e1]
theorem c_bnd {g : Nat} (hg : g < 256) {a b : Int32} : fX6_bind h (J g) a b = some (bnd g a b) := by
  have l42 : (42 : Int32) = J 42 := rfl
  have l43 : (43 : Int32) = J 43 := rfl
  have l45 : (45 : Int32) = J 45 := rfl
  have l60 : (60 : Int32) = J 60 := rfl
  have l61 : (61 : Int32) = J 61 := rfl
  have l62 : (62 : Int32) = J 62 := rfl
  unfold fX6_bind bnd
  simp (disch := omega) only [l42, l43, l45, l60, l61, l62, J_inj]
  by_cases h1 : g = 42
  · rw [if_pos h1, if_pos h1]
  · rw [if_neg h1, if_neg h1]
    by_cases h2 : g = 43
    · rw [if_pos h2, if_pos h2]
    · rw [if_neg h2, if_neg h2]
      by_cases h3 : g = 45
      · rw [if_pos h3, if_pos h3]
      · rw [if_neg h3, if_neg h3]
        by_cases h4 : g = 60
        · rw [if_pos h4, if_pos h4]
          by_cases hc : b ≤ a
          · rw [if_pos hc, if_neg (fun z => absurd hc (Int32.not_le.mpr z))]
          · rw [if_neg hc, if_pos (Int32.not_le.mp hc)]
        · rw [if_neg h4, if_neg h4]
          by_cases h5 : g = 61
          · rw [if_pos h5, if_pos h5]
            by_cases hc : a = b
            · rw [if_pos hc, if_pos hc]
            · rw [if_neg hc, if_neg hc]
          · rw [if_neg h5, if_neg h5]
            by_cases h6 : g = 62
            · rw [if_pos h6, if_pos h6]
              by_cases hc : a ≤ b
              · rw [if_pos hc, if_neg (fun z => absurd hc (Int32.not_le.mpr z))]
              · rw [if_neg hc, if_pos (Int32.not_le.mp hc)]
            · rw [if_neg h6, if_neg h6]
              by_cases hc : b = 0
              · rw [if_pos hc, if_pos hc]
              · rw [if_neg hc, if_neg hc]
                unfold jdiv
                rw [if_neg hc]
                rfl
theorem c_bindTop {st : List Int32} (U : RUs h r C st) (hst : st.length ≤ 40) {g : Nat} (hg : g < 256) : ∃ h' st', fX6_bindTop h r (J st.length) (J g) = some (J st'.length, h') ∧ RUs h' r C st' ∧ st' = bnt g st ∧ Ot r (r + 3) h h' := by
  have U0 := U
  obtain ⟨F, fc, fs, u1, u2, u3, u4, u5, u6, u7, u8, u9⟩ := U
  match st, hst, u9, U0 with
  | [], hst, u9, U0 =>
    refine ⟨h, [], ?_, U0, rfl, Ot.rf⟩
    unfold fX6_bindTop
    simp (disch := omega) only [ob_h u1, if_true, l_2, J_lt, List.length_nil]
    rw [if_pos (by omega)]
  | [v], hst, u9, U0 =>
    refine ⟨h, [v], ?_, U0, rfl, Ot.rf⟩
    unfold fX6_bindTop
    simp (disch := omega) only [ob_h u1, if_true, l_2, J_lt, List.length_cons, List.length_nil]
    rw [if_pos (by omega)]
  | b :: a :: st, hst, u9, U0 =>
    have hst' : st.length + 1 + 1 ≤ 40 := hst
    have v1 : fs (st.length + 1) = b := u9.1
    have v2 : fs st.length = a := u9.2.1
    obtain ⟨g1, e1, C1, O1⟩ := wa_s u6 (show st.length < 40 by omega) (by decide) (bnd g a b)
    refine ⟨g1, bnd g a b :: st, ?_, ⟨F, fc, _, u1.ot O1 (by omega), u2, u3, u4, (O1.2 _ (by omega)).trans u5, C1, u7, u8, ⟨if_pos rfl, u9.2.2.cg (fun j hj => if_neg (by omega))⟩⟩, rfl, O1.mono (by omega) (by omega)⟩
    unfold fX6_bindTop
    simp (disch := omega) only [ob_h u1, if_true, l_2, J_lt, ob_r u1 (k := 1) (by decide) u3, Option.bind_some, aL_at u6, J_le, List.length_cons]
    rw [if_neg (by omega), if_pos (by omega)]
    have j2 : J (st.length + 1 + 1) - J 2 = J st.length := by rw [J_sub (by omega)]; rfl
    have j1 : J (st.length + 1 + 1) - 1 = J (st.length + 1) := by rw [l_1, J_sub (by omega)]; rfl
    simp (disch := omega) only [j1, j2, aI_at u6, v1, v2, Option.bind_some, c_bnd hg, e1]
theorem WR.ot {h' : AH} {lo hi : Nat} (W : WR h w σ) (O : Ot lo hi h h') (hw : w + 9 ≤ lo ∨ hi ≤ w) : WR h' w σ := W.frame O hw
theorem c_reck_L (R : RG σ) (hwr : w + 9 ≤ r ∨ r + 3 ≤ w) (hC : PC C) {s p : Nat} (hs' : s < 4294967296) : ∀ (rest : List Nat) i n h (st : List Int32) v, (∀ j, C[i + j]? = rest[j]?) → i + rest.length = C.length → st.length ≤ i → rest.length < n → RUs h r C st → WR h w σ → ev (msr σ s p) rest st = [v] → ∃ h', fX6_reckon_L6 n h r w (J s) (J p) (J st.length) (J i) = some (v, h') ∧ RU h' r C ∧ Ot r (r + 3) h h'
  | [], i, n + 1, h, st, v, hj, hi, hst, hn, U, W, hv => by
    have hst1 : st = [v] := hv
    have U0 := U
    obtain ⟨F, fc, fs, u1, u2, u3, u4, u5, u6, u7, u8, u9⟩ := U
    have hi' : i = C.length := hi
    refine ⟨h, ?_, U0.u, Ot.rf⟩
    rw [hst1] at u9
    have v0 : fs 0 = v := u9.1
    rw [fX6_reckon_L6]
    simp (disch := omega) only [ob_i u1 (k := 2) (by decide) u4, Option.bind_some, J_le]
    rw [if_pos (by omega)]
    simp (disch := omega) only [ob_r u1 (k := 1) (by decide) u3, Option.bind_some, l_0, aI_at u6, v0]
  | k :: rest, i, n + 1, h, st, v, hj, hi, hst, hn, U, W, hv => by
    have hi' : i + (rest.length + 1) = C.length := hi
    have hn' : rest.length + 1 < n + 1 := hn
    have hk : C[i]? = some k := by have := hj 0; rw [Nat.add_zero] at this; rw [this]; rfl
    have hkc := hC k (List.mem_of_getElem? hk)
    have hj' : ∀ j, C[i + 1 + j]? = rest[j]? := fun j => by
      have := hj (j + 1)
      rw [show i + (j + 1) = i + 1 + j by omega] at this
      rw [this]; rfl
    have ej : J i + 1 = J (i + 1) := by rw [l_1, J_add]
    have go : ∀ g st', nstep (msr σ s p) k st = st' → st'.length ≤ i + 1 → RUs g r C st' → Ot r (r + 3) h g → ∃ h', fX6_reckon_L6 n g r w (J s) (J p) (J st'.length) (J (i + 1)) = some (v, h') ∧ RU h' r C ∧ Ot r (r + 3) h h' := by
      intro g st' hs2 hl U2 O2
      have hv2 : ev (msr σ s p) rest st' = [v] := by rw [← hs2]; exact hv
      obtain ⟨h', q1, q2, q3⟩ := c_reck_L R hwr hC hs' rest (i + 1) n g st' v hj' (by omega) hl (by omega) U2 (W.ot O2 hwr) hv2
      exact ⟨h', q1, q2, O2.trans q3⟩
    have U0 := U
    obtain ⟨F, fc, fs, u1, u2, u3, u4, u5, u6, u7, u8, u9⟩ := U
    have hfc := u8 i k hk
    rw [fX6_reckon_L6]
    simp (disch := omega) only [ob_i u1 (k := 2) (by decide) u4, Option.bind_some, J_le, ob_r u1 (k := 0) (by decide) u2, aL_at u5]
    rw [if_neg (by omega), if_neg (by omega)]
    simp (disch := omega) only [aI_at u5, hfc, Option.bind_some]
    unfold fX6_signOf
    simp (disch := omega) only [l_1000, J_lt]
    by_cases h1 : k < 1000
    · rw [if_pos (by omega), l_0, ch_J (by omega)]
      simp only [Option.bind_some, if_true]
      have es : nstep (msr σ s p) k st = J k :: st := by unfold nstep; rw [if_pos h1]
      obtain ⟨g2, e2, U2, O2⟩ := c_push U0 (by omega) (J k)
      simp only [e2, Option.bind_some, letF, ej]
      exact go g2 (J k :: st) es (by show st.length + 1 ≤ i + 1; omega) U2 O2
    · obtain ⟨g, rfl⟩ : ∃ g, k = 1000 + g := ⟨k - 1000, by omega⟩
      have hg : 0 < g ∧ g < 256 := by omega
      have l126 : (126 : Int32) = J 126 := rfl
      have jg : J (1000 + g) - J 1000 = J g := by rw [J_sub (by omega), Nat.add_sub_cancel_left]
      rw [if_neg (by omega), jg, u16_J (by omega), ch_J (by omega)]
      simp (disch := omega) only [Option.bind_some, l_0, l126, J_inj]
      rw [if_neg (by omega)]
      by_cases h2 : g = 126
      · rw [if_pos h2]
        obtain ⟨g2, e2, U2, O2⟩ := c_neg U0 (by omega)
        have es : nstep (msr σ s p) (1000 + g) st = ngt st := by rw [h2]; exact nstep_n
        simp only [e2, Option.bind_some, letF, ej]
        have := go g2 _ es (by rw [ngt_len]; omega) U2 O2
        rw [ngt_len] at this
        exact this
      · rw [if_neg h2]
        simp only [c_isBin hg.2, Option.bind_some, decide_eq_true_eq]
        by_cases h3 : 0 < stg g ∧ g ≠ 126
        · rw [if_pos h3]
          obtain ⟨g2, st', e2, U2, hst2, O2⟩ := c_bindTop U0 (by omega) hg.2
          have es : nstep (msr σ s p) (1000 + g) st = st' := by
            rw [hst2]
            exact nstep_o h3.1 h3.2
          simp only [e2, Option.bind_some, letF, ej]
          refine go g2 st' es ?_ U2 O2
          rw [hst2]
          have := bnt_len g st
          omega
        · rw [if_neg h3]
          simp (disch := omega) only [c_measure W R, Option.bind_some]
          obtain ⟨g2, e2, U2, O2⟩ := c_push U0 (by omega) (msr σ s p g)
          have es : nstep (msr σ s p) (1000 + g) st = msr σ s p g :: st := by
            unfold nstep
            rw [if_neg h1, if_neg (by omega), Nat.add_sub_cancel_left, if_neg (by omega)]
          simp only [e2, Option.bind_some, letF, ej]
          exact go g2 _ es (by show st.length + 1 ≤ i + 1; omega) U2 O2
theorem c_reckon (U : RU h r C) (W : WR h w σ) (R : RG σ) (hwr : w + 9 ≤ r ∨ r + 3 ≤ w) (hC : PC C) {s p : Nat} (hs' : s < 4294967296) {v : Int32} (hv : ev (msr σ s p) C [] = [v]) : ∃ h', fX6_reckon h r w (J s) (J p) = some (v, h') ∧ RU h' r C ∧ Ot r (r + 3) h h' := by
  obtain ⟨F, fc, fs, u1, u2, u3, u4, u5, u6, u7, u8⟩ := U
  have U' : RUs h r C [] := ⟨F, fc, fs, u1, u2, u3, u4, u5, u6, u7, u8, trivial⟩
  unfold fX6_reckon
  rw [if_pos (ob_h u1), l_0]
  exact c_reck_L R hwr hC hs' C 0 FU h [] v (fun j => by rw [Nat.zero_add]) (Nat.zero_add _) (Nat.le_refl _) (FU_gt (by omega)) U' W hv
end CK
/-- what a rule is: the class's steps, the reference's text -/
def RLR (C : List Nat) (ρ : Nat → Nat) (n : Nat) : Prop := (n = 0 ∧ C = [1110, 3, 1062]) ∨ (0 < n ∧ n ≤ 40 ∧ (∀ i, i < n → ρ i < 256) ∧ pz (hrf ρ n 40) RD 0 0 0 = some (C, n, true))
theorem rlr_pc {C : List Nat} {ρ : Nat → Nat} {n : Nat} (L : RLR C ρ n) : PC C := by
  rcases L with ⟨-, rfl⟩ | ⟨h1, h2, h3, h4⟩
  · intro x hx
    simp at hx
    omega
  · exact pz_pc (fun i => by
      unfold hrf
      split
      · rename_i e; exact Or.inl (h3 i e.1)
      · exact Or.inr rfl) RD 0 0 0 _ (by omega) h4
