/-! rules read and reckoned by the reference -/
def TXT (f : Nat → Int32) (τ : Nat → Nat) (n : Nat) : Prop := ∀ i, i < n → τ i < 256 ∧ f i &&& 255 = J (τ i) ∧ (τ i < 128 → f i = J (τ i))
def hrf (τ : Nat → Nat) (len top : Nat) : Nat → Nat := fun i => if i < len ∧ i < top then τ i else BIG
def RS (h : AH) (m : Nat) (F : Nat → Value) (T : Nat) (τ : Nat → Nat) (len top a w : Nat) : Prop :=
  m ≠ T ∧ OBJ 11 36 h m (fput (fput F 9 (.int (J a))) 10 (.int (J w))) ∧ (∃ N f, h.1 T = some (.inl (3, N, .inl f)) ∧ len ≤ N ∧ N ≤ 100 ∧ TXT f τ len) ∧ F 6 = .ref T ∧ F 7 = .int (J len) ∧ F 8 = .int (J top) ∧ top ≤ 100
section RS
variable {h : AH} {m : Nat} {F : Nat → Value} {T : Nat} {τ : Nat → Nat} {len top a w : Nat}
theorem rs_h (W : RS h m F T τ len top a w) : hasC h 11 m = true := ob_h W.2.1
theorem rs_f (W : RS h m F T τ len top a w) {k : Nat} (h9 : k ≠ 9) (h10 : k ≠ 10) : fput (fput F 9 (.int (J a))) 10 (.int (J w)) k = F k := by rw [fput_ne h10, fput_ne h9]
theorem rs_9 (W : RS h m F T τ len top a w) : gI h 11 m 9 = some (J a) := ob_i W.2.1 (by decide) (by rw [fput_ne (by decide), fput_eq])
theorem rs_10 (W : RS h m F T τ len top a w) : gI h 11 m 10 = some (J w) := ob_i W.2.1 (by decide) fput_eq
theorem rs_7 (W : RS h m F T τ len top a w) : gI h 11 m 7 = some (J len) := ob_i W.2.1 (by decide) (by rw [rs_f W (by decide) (by decide)]; exact W.2.2.2.2.1)
theorem rs_8 (W : RS h m F T τ len top a w) : gI h 11 m 8 = some (J top) := ob_i W.2.1 (by decide) (by rw [rs_f W (by decide) (by decide)]; exact W.2.2.2.2.2.1)
theorem rs_6 (W : RS h m F T τ len top a w) : gR h 11 m 6 = some T := ob_r W.2.1 (by decide) (by rw [rs_f W (by decide) (by decide)]; exact W.2.2.2.1)
theorem rs_p9 (W : RS h m F T τ len top a w) (b : Nat) : ∃ h', pF h 11 m 9 (.int (J b)) = some h' ∧ RS h' m F T τ len top b w ∧ On (fun k => k = m) h h' := by
  obtain ⟨w1, w2, ⟨N, f, w3⟩, w4⟩ := W
  obtain ⟨h', e, M, O⟩ := ob_p w2 (k := 9) (by decide) (.int (J b))
  refine ⟨h', e, ⟨w1, ?_, ⟨N, f, ?_, w3.2⟩, w4⟩, O.on1 rfl⟩
  · rw [fput_comm (k := 10) (by decide), fput_fput] at M
    exact M
  · rw [O.2 T (by omega)]; exact w3.1
theorem rs_p10 (W : RS h m F T τ len top a w) (b : Nat) : ∃ h', pF h 11 m 10 (.int (J b)) = some h' ∧ RS h' m F T τ len top a b ∧ On (fun k => k = m) h h' := by
  obtain ⟨w1, w2, ⟨N, f, w3⟩, w4⟩ := W
  obtain ⟨h', e, M, O⟩ := ob_p w2 (k := 10) (by decide) (.int (J b))
  refine ⟨h', e, ⟨w1, ?_, ⟨N, f, ?_, w3.2⟩, w4⟩, O.on1 rfl⟩
  · rw [fput_fput] at M
    exact M
  · rw [O.2 T (by omega)]; exact w3.1
theorem rs_on {h' : AH} {P : Nat → Prop} (W : RS h m F T τ len top a w) (O : On P h h') (hm : ¬ P m) (hT : ¬ P T) : RS h' m F T τ len top a w := by
  obtain ⟨w1, w2, ⟨N, f, w3⟩, w4⟩ := W
  exact ⟨w1, w2.on O hm, ⟨N, f, (O.2 T hT).trans w3.1, w3.2⟩, w4⟩
theorem hrf_lt {i : Nat} : hrf τ len top i ≠ BIG → i < len ∧ i < top := fun h => by
  unfold hrf at h
  by_cases e : i < len ∧ i < top
  · exact e
  · rw [if_neg e] at h; exact absurd rfl h
theorem hrf_v (W : RS h m F T τ len top a w) (i : Nat) : hrf τ len top i < 256 ∨ hrf τ len top i = 4294967295 := by
  obtain ⟨w1, w2, ⟨N, f, w3⟩, w4⟩ := W
  unfold hrf
  split
  · rename_i e; exact Or.inl (w3.2.2.2 i e.1).1
  · exact Or.inr rfl
theorem hrf_l (W : RS h m F T τ len top a w) (i : Nat) : hrf τ len top i < 4294967296 := by
  have := hrf_v W i
  omega
theorem rs_len (W : RS h m F T τ len top a w) : len ≤ 100 ∧ top ≤ 100 := by
  obtain ⟨w1, w2, ⟨N, f, w3⟩, w4⟩ := W
  exact ⟨by omega, w4.2.2.2⟩
theorem m_here (W : RS h m F T τ len top a w) (ha : a < 1000) : fX11_here h m = some (J (hrf τ len top a)) := by
  have l := rs_len W
  unfold fX11_here
  simp (disch := omega) only [rs_h W, if_true, rs_9 W, rs_7 W, rs_8 W, Option.bind_some, J_le]
  unfold hrf
  by_cases h1 : a < len
  · rw [if_neg (by omega)]
    by_cases h2 : a < top
    · rw [if_neg (by omega), if_pos ⟨h1, h2⟩]
      obtain ⟨w1, w2, ⟨N, f, w3⟩, w4⟩ := W
      have r6 := rs_6 (h := h) (m := m) (F := F) (T := T) (τ := τ) (len := len) (top := top) (a := a) (w := w) ⟨w1, w2, ⟨N, f, w3⟩, w4⟩
      simp (disch := omega) only [r6, aI_at w3.1, Option.bind_some]
      rw [(w3.2.2.2 a h1).2.1]
    · rw [if_pos (by omega), if_neg (fun z => h2 z.2)]
      decide
  · rw [if_pos (by omega), if_neg (fun z => h1 z.1)]
    decide
theorem m_fine (W : RS h m F T τ len top a w) (hw : w < 4294967296) : fX11_fine h m = some (decide (w = BIG)) := by
  unfold fX11_fine
  simp (disch := omega) only [rs_h W, if_true, rs_10 W, Option.bind_some, m1_J, J_inj]
  by_cases e : w = 4294967295
  · rw [if_pos e, decide_eq_true (show w = BIG from e)]
  · rw [if_neg e, decide_eq_false (show ¬ w = BIG from e)]
theorem m_fault (W : RS h m F T τ len top a BIG) (b : Nat) : ∃ h', fX11_fault h m (J b) = some h' ∧ RS h' m F T τ len top a b ∧ On (fun k => k = m) h h' := by
  obtain ⟨g1, e1, W1, O1⟩ := rs_p10 W b
  refine ⟨g1, ?_, W1, O1⟩
  unfold fX11_fault
  simp only [rs_h W, if_true, m_fine W (by decide), Option.bind_some, e1, decide_true]
theorem m_fault_no (W : RS h m F T τ len top a w) (hw : w < BIG) (x : Int32) : fX11_fault h m x = some h := by
  have hw' : w < 4294967295 := hw
  unfold fX11_fault
  simp only [rs_h W, if_true, m_fine W (by omega), Option.bind_some]
  rw [decide_eq_false (show ¬ w = BIG from Nat.ne_of_lt hw), if_neg (by decide)]
theorem m_pass_y (W : RS h m F T τ len top a BIG) (ha : a < 1000) {c : Nat} (hc : hrf τ len top a = c) : ∃ h', fX11_passes h m (J c) = some (true, h') ∧ RS h' m F T τ len top (a + 1) BIG ∧ On (fun k => k = m) h h' := by
  obtain ⟨g1, e1, W1, O1⟩ := rs_p9 W (a + 1)
  refine ⟨g1, ?_, W1, O1⟩
  unfold fX11_passes
  simp only [rs_h W, if_true, m_fine W (by decide), Option.bind_some, decide_true, m_here W ha, hc, rs_9 W, l_1, J_add, e1]
theorem m_pass_n (W : RS h m F T τ len top a BIG) (ha : a < 1000) {c : Nat} (hc' : c < 1000) (hc : hrf τ len top a ≠ c) : fX11_passes h m (J c) = some (false, h) := by
  have := hrf_l W a
  unfold fX11_passes
  simp (disch := omega) only [rs_h W, if_true, m_fine W (by decide), Option.bind_some, decide_true, m_here W ha, J_inj]
  rw [if_neg hc]
theorem m_pass_f (W : RS h m F T τ len top a w) (hw : w < BIG) (x : Int32) : fX11_passes h m x = some (false, h) := by
  have hw' : w < 4294967295 := hw
  unfold fX11_passes
  simp only [rs_h W, if_true, m_fine W (by omega), Option.bind_some]
  rw [decide_eq_false (show ¬ w = BIG from Nat.ne_of_lt hw), if_neg (by decide)]
theorem m_oneOf_y (W : RS h m F T τ len top a BIG) {fi n : Nat} (hfi : fi + n ≤ 128) (hn : 0 < n) (h1 : fi ≤ hrf τ len top a) (h2 : hrf τ len top a < fi + n) : ∃ h', fX11_oneOf h m (J fi) (J n) = some (J (hrf τ len top a - fi), h') ∧ RS h' m F T τ len top (a + 1) BIG ∧ On (fun k => k = m) h h' := by
  have hl := hrf_lt (τ := τ) (len := len) (top := top) (i := a) (fun z => by rw [z] at h2; have : BIG = 4294967295 := rfl; omega)
  have l := rs_len W
  obtain ⟨g1, e1, W1, O1⟩ := rs_p9 W (a + 1)
  refine ⟨g1, ?_, W1, O1⟩
  have ht : hrf τ len top a = τ a := by unfold hrf; rw [if_pos hl]
  unfold fX11_oneOf
  simp (disch := omega) only [rs_h W, if_true, m_fine W (by decide), Option.bind_some, decide_true, m_here W (by omega), l_1, J_add, J_sub, m_in]
  rw [decide_eq_true h1, decide_eq_true (show hrf τ len top a ≤ fi + n - 1 by omega), if_pos (show (true && true) = true from rfl)]
  simp (disch := omega) only [rs_9 W, Option.bind_some, J_add, e1, rs_9 W1, rs_6 W1, J_sub, Nat.add_sub_cancel]
  obtain ⟨w1, w2, ⟨N, f, w3⟩, w4⟩ := W1
  simp (disch := omega) only [aI_at w3.1, Option.bind_some]
  rw [(w3.2.2.2 a hl.1).2.2 (by omega), ht, J_sub (by omega)]
theorem m_oneOf_n (W : RS h m F T τ len top a BIG) (ha : a < 1000) {fi n : Nat} (hfi : fi + n ≤ 128) (hn : 0 < n) (h1 : ¬ (fi ≤ hrf τ len top a ∧ hrf τ len top a < fi + n)) : ∃ h', fX11_oneOf h m (J fi) (J n) = some (J 0, h') ∧ RS h' m F T τ len top a a ∧ On (fun k => k = m) h h' := by
  have hb := hrf_l W a
  obtain ⟨g1, e1, W1, O1⟩ := m_fault W a
  refine ⟨g1, ?_, W1, O1⟩
  unfold fX11_oneOf
  simp (disch := omega) only [rs_h W, if_true, m_fine W (by decide), Option.bind_some, decide_true, m_here W ha, l_1, J_add, J_sub, m_in]
  have : ¬ ((decide (fi ≤ hrf τ len top a) && decide (hrf τ len top a ≤ fi + n - 1)) = true) := by
    rw [Bool.and_eq_true, decide_eq_true_eq, decide_eq_true_eq]
    omega
  rw [if_neg this]
  simp only [rs_9 W, Option.bind_some, e1]
  rfl
theorem m_oneOf_f (W : RS h m F T τ len top a w) (hw : w < BIG) (x y : Int32) : fX11_oneOf h m x y = some (J 0, h) := by
  have hw' : w < 4294967295 := hw
  unfold fX11_oneOf
  simp only [rs_h W, if_true, m_fine W (by omega), Option.bind_some]
  rw [decide_eq_false (show ¬ w = BIG from Nat.ne_of_lt hw), if_neg (by decide)]
  rfl
theorem m_in_dgc (W : RS h m F T τ len top a w) (i : Nat) {g : AH} : fX11_in g (J (hrf τ len top i)) (J 48) (J 57) = some (dgc (hrf τ len top i)) := by
  have := hrf_l W i
  rw [m_in this (by decide) (by decide)]
  rfl
theorem m_number (W : RS h m F T τ len top a BIG) (hd : dgc (hrf τ len top a) = true) : ∃ h', fX11_number h m (J 3) = some (J (nval (hrf τ len top) a), h') ∧ RS h' m F T τ len top (a + nlen (hrf τ len top) a) BIG ∧ On (fun k => k = m) h h' := by
  have l := rs_len W
  have big : BIG = 4294967295 := rfl
  have dl : ∀ i, dgc (hrf τ len top i) = true → i < 100 ∧ 48 ≤ hrf τ len top i ∧ hrf τ len top i < 48 + 10 := fun i hi => by
    have := dgc_r hi
    have h2 := hrf_lt (τ := τ) (len := len) (top := top) (i := i) (by omega)
    omega
  obtain ⟨a1, a2, a3⟩ := dl a hd
  obtain ⟨g1, e1, W1, O1⟩ := m_oneOf_y W (fi := 48) (n := 10) (by decide) (by decide) a2 a3
  have l48 : (48 : Int32) = J 48 := rfl
  have l57 : (57 : Int32) = J 57 := rfl
  unfold fX11_number nlen nval
  simp only [rs_h W, if_true, l48, l_10, e1, Option.bind_some]
  have e4096 : FU = 4093 + 1 + 1 + 1 := rfl
  rw [e4096, fX11_number_L11]
  simp (disch := omega) only [l_1, J_le]
  rw [if_neg (by omega)]
  simp only [m_fine W1 (by decide), Option.bind_some, decide_true, if_true, m_here W1 (show a + 1 < 1000 by omega), l48, l57, m_in_dgc W1]
  by_cases d1 : dgc (hrf τ len top (a + 1)) = true
  · simp only [if_pos d1]
    obtain ⟨b1, b2, b3⟩ := dl _ d1
    obtain ⟨g2, e2, W2, O2⟩ := m_oneOf_y W1 (fi := 48) (n := 10) (by decide) (by decide) b2 b3
    simp only [l_10, e2, Option.bind_some, letF, J_mul, J_add]
    rw [fX11_number_L11]
    simp (disch := omega) only [l_1, J_le]
    rw [if_neg (by omega)]
    simp only [m_fine W2 (by decide), Option.bind_some, decide_true, if_true, m_here W2 (show a + 1 + 1 < 1000 by omega), l48, l57, m_in_dgc W2]
    by_cases d2 : dgc (hrf τ len top (a + 1 + 1)) = true
    · simp only [if_pos (show dgc (hrf τ len top (a + 2)) = true from d2), if_pos d2]
      obtain ⟨c1, c2, c3⟩ := dl _ d2
      obtain ⟨g3, e3, W3, O3⟩ := m_oneOf_y W2 (fi := 48) (n := 10) (by decide) (by decide) c2 c3
      refine ⟨g3, ?_, W3, (O1.trans O2).trans O3⟩
      simp only [l_10, e3, Option.bind_some, letF, J_mul, J_add]
      rw [fX11_number_L11]
      simp (disch := omega) only [l_1, J_add, J_le]
      rw [if_pos (by omega)]
    · simp only [if_neg (show ¬ dgc (hrf τ len top (a + 2)) = true from d2), if_neg d2]
      exact ⟨g2, rfl, W2, O1.trans O2⟩
  · simp only [if_neg d1]
    exact ⟨g1, rfl, W1, O1⟩
end RS
/-! what a rule's steps come to -/
def bnd (g : Nat) (a b : Int32) : Int32 := if g = 42 then a * b else if g = 43 then a + b else if g = 45 then a - b else if g = 60 then (if a < b then 1 else 0) else if g = 61 then (if a = b then 1 else 0) else if g = 62 then (if b < a then 1 else 0) else if b = 0 then 0 else a / b
def nstep (e : Nat → Int32) (k : Nat) (st : List Int32) : List Int32 :=
  if k < 1000 then J k :: st else if k = 1126 then (match st with | v :: st => (-v) :: st | [] => []) else if 0 < stg (k - 1000) then (match st with | b :: a :: st => bnd (k - 1000) a b :: st | st => st) else e (k - 1000) :: st
def ev (e : Nat → Int32) : List Nat → List Int32 → List Int32
  | [], st => st
  | k :: c, st => ev e c (nstep e k st)
theorem ev_app (e : Nat → Int32) : ∀ c c' st, ev e (c ++ c') st = ev e c' (ev e c st)
  | [], _, _ => rfl
  | k :: c, c', st => ev_app e c c' (nstep e k st)
theorem ev_one (e : Nat → Int32) (k : Nat) (st : List Int32) : ev e [k] st = nstep e k st := rfl
theorem nstep_b {e : Nat → Int32} {g : Nat} {a b : Int32} {st : List Int32} (h : 0 < stg g) (hg : g ≠ 126) : nstep e (1000 + g) (b :: a :: st) = bnd g a b :: st := by
  unfold nstep
  rw [if_neg (by omega), if_neg (by omega), Nat.add_sub_cancel_left, if_pos h]
theorem stg_3 {g : Nat} : stg g = 3 ↔ g = 42 ∨ g = 47 := by
  unfold stg
  constructor
  · intro h
    split at h
    · assumption
    · split at h
      · omega
      · split at h
        · omega
        · split at h <;> omega
  · intro h; rw [if_pos h]
theorem stg_2 {g : Nat} : stg g = 2 ↔ g = 43 ∨ g = 45 := by
  unfold stg
  constructor
  · intro h
    split at h
    · omega
    · split at h
      · assumption
      · split at h
        · omega
        · split at h <;> omega
  · intro h; rw [if_neg (by omega), if_pos h]
theorem stg_1 {g : Nat} : stg g = 1 ↔ g = 60 ∨ g = 61 ∨ g = 62 := by
  unfold stg
  constructor
  · intro h
    split at h
    · omega
    · split at h
      · omega
      · split at h
        · assumption
        · split at h <;> omega
  · intro h; rw [if_neg (by omega), if_neg (by omega), if_pos h]
def lidx (g : Nat) : Nat := if g = 110 then 0 else if g = 102 then 1 else if g = 111 then 2 else if g = 115 then 3 else if g = 112 then 4 else if g = 119 then 5 else 6
/-- what letters stand for, in the reference -/
def ENV (h : AH) (m : Nat) (F : Nat → Value) (T : Nat) (e : Nat → Int32) : Prop := ∃ Q b ask, Q ≠ m ∧ F 15 = .int (b2i b) ∧ F 16 = .ref Q ∧ h.1 Q = some (.inl (0, 7, .inl ask)) ∧ ∀ g, ltc g = true → e g = if b = true then ask (lidx g) else 0
theorem env_on {h h' : AH} {m : Nat} {F : Nat → Value} {T : Nat} {e : Nat → Int32} (E : ENV h m F T e) (O : On (fun k => k = m) h h') : ENV h' m F T e := by
  obtain ⟨Q, b, ask, q1, q2, q3, q4, q5⟩ := E
  exact ⟨Q, b, ask, q1, q2, q3, (O.2 Q q1).trans q4, q5⟩
theorem ltc_v {g : Nat} : ltc g = true ↔ g = 102 ∨ g = 110 ∨ g = 111 ∨ g = 112 ∨ g = 115 ∨ g = 116 ∨ g = 119 := by
  unfold ltc
  simp [or_assoc]
theorem m_letter {h : AH} {g : Nat} (hg : g < 4294967296) : fX11_letterOf h (J g) = some (if ltc g = true then J (lidx g) else J BIG) := by
  have l110 : (110 : Int32) = J 110 := rfl
  have l111 : (111 : Int32) = J 111 := rfl
  have l115 : (115 : Int32) = J 115 := rfl
  have l112 : (112 : Int32) = J 112 := rfl
  have l119 : (119 : Int32) = J 119 := rfl
  have l116 : (116 : Int32) = J 116 := rfl
  unfold fX11_letterOf lidx
  simp (disch := omega) only [l110, l_102, l111, l115, l112, l119, l116, J_inj, ltc_v]
  by_cases h1 : g = 110
  · simp [h1]; rfl
  · by_cases h2 : g = 102
    · simp [h2]; rfl
    · by_cases h3 : g = 111
      · simp [h3]; rfl
      · by_cases h4 : g = 115
        · simp [h4]; rfl
        · by_cases h5 : g = 112
          · simp [h5]; rfl
          · by_cases h6 : g = 119
            · simp [h6]; rfl
            · by_cases h7 : g = 116
              · simp [h7]; rfl
              · simp [h1, h2, h3, h4, h5, h6, h7]; rfl
section REC
variable {m : Nat} {T : Nat} {τ : Nat → Nat} {len top : Nat} {e : Nat → Int32}
def RES (h : AH) (m : Nat) (F : Nat → Value) (T : Nat) (τ : Nat → Nat) (len top : Nat) (e : Nat → Int32) (q : List Nat × Nat × Bool) (r : Option (Int32 × AH)) : Prop := ∃ v h', r = some (v, h') ∧ RS h' m F T τ len top q.2.1 (if q.2.2 = true then BIG else q.2.1) ∧ On (fun k => k = m) h h' ∧ (q.2.2 = true → ∀ st, ev e q.1 st = v :: st)
theorem m_stop2 {F : Nat → Value} {deep n b : Nat} {h : AH} {v : Int32} (rc : Nat → AH → Nat → Int32 → Option (Int32 × AH)) (W : RS h m F T τ len top b b) (hb : b < 1000) : fX11_sum_L6 rc (n + 1) h m (J deep) v = some (v, h) := by
  rw [fX11_sum_L6]
  have hb : ¬ b = BIG := by have : BIG = 4294967295 := rfl; omega
  simp only [m_fine W (by omega), Option.bind_some]
  rw [decide_eq_false hb, if_neg (by decide)]
theorem m_stop3 {F : Nat → Value} {deep n b : Nat} {h : AH} {v : Int32} (rc : Nat → AH → Nat → Int32 → Option (Int32 × AH)) (W : RS h m F T τ len top b b) (hb : b < 1000) : fX11_product_L6 rc (n + 1) h m (J deep) v = some (v, h) := by
  rw [fX11_product_L6]
  have hb : ¬ b = BIG := by have : BIG = 4294967295 := rfl; omega
  simp only [m_fine W (by omega), Option.bind_some]
  rw [decide_eq_false hb, if_neg (by decide)]
theorem m_loop2 {F : Nat → Value} {deep : Nat} (rc : Nat → AH → Nat → Int32 → Option (Int32 × AH)) (pc : Nat → PR) {LM : Nat} (hLM : LM ≤ 100) (hlim : ∀ i, LM ≤ i → hrf τ len top i = BIG) (hrc : ∀ a q, pc a = some q → a ≤ LM → q.2.1 ≤ LM ∧ ∀ h, RS h m F T τ len top a BIG → ENV h m F T e → RES h m F T τ len top e q (rc 2 h m (J deep))) :
    ∀ n c a q, pzl pc 2 (hrf τ len top) n c a = some q → a ≤ LM → ∀ N h v, n < N → RS h m F T τ len top a BIG → ENV h m F T e → (∀ st, ev e c st = v :: st) → RES h m F T τ len top e q (fX11_sum_L6 rc N h m (J deep) v)
  | 0, c, a, q, hq, _, _, _, _, _, _, _, _ => by cases hq
  | n + 1, c, a, q, hq, ha, N, h, v, hN, W, E, hv => by
    obtain ⟨N, rfl⟩ : ∃ x, N = x + 1 + 1 := ⟨N - 2, by omega⟩
    have l := rs_len W
    have hl := hrf_l W a
    have l43 : (43 : Int32) = J 43 := rfl
    have l45 : (45 : Int32) = J 45 := rfl
    rw [fX11_sum_L6]
    simp (disch := omega) only [m_fine W (by decide), Option.bind_some, decide_true, if_true, m_here W (show a < 1000 by omega), l43, l45, J_inj]
    unfold pzl at hq
    by_cases h1 : stg (hrf τ len top a) = 2
    · rw [if_pos h1] at hq
      obtain ⟨r, hr1, hr2⟩ := Option.bind_eq_some_iff.mp hq
      have hal : a < LM := by
        by_cases z : a < LM
        · exact z
        · rw [hlim a (by omega), stg_big] at h1; omega
      have hj : J a + 1 = J (a + 1) := by rw [l_1, J_add]
      obtain ⟨i1, i2⟩ := hrc (a + 1) r hr1 (by omega)
      obtain ⟨g1, e1, W1, O1⟩ := rs_p9 W (a + 1)
      obtain ⟨v2, g2, e2, W2, O2, V2⟩ := i2 g1 W1 (env_on E O1)
      have step : ∀ (v3 : Int32), v3 = bnd (hrf τ len top a) v v2 → RES h m F T τ len top e q (fX11_sum_L6 rc (N + 1) g2 m (J deep) v3) := by
        intro v3 hv3
        by_cases h2 : r.2.2 = true
        · rw [if_pos h2] at hr2
          have W2' : RS g2 m F T τ len top r.2.1 BIG := by rw [if_pos h2] at W2; exact W2
          obtain ⟨v4, g4, e4, W4, O4, V4⟩ := m_loop2 rc pc hLM hlim hrc n _ _ q hr2 i1 (N + 1) g2 v3 (by omega) W2' (env_on (env_on E O1) O2) (fun st => by
            rw [ev_app, ev_app, hv st, V2 h2, ev_one, nstep_b (by omega) (fun z => by rw [z] at h1; revert h1; decide), hv3])
          exact ⟨v4, g4, e4, W4, (O1.trans O2).trans O4, V4⟩
        · rw [if_neg h2] at hr2
          cases hr2
          rw [if_neg h2] at W2
          exact ⟨v3, g2, m_stop2 rc W2 (by omega), by rw [if_neg (show ¬ false = true by decide)]; exact W2, O1.trans O2, fun z => by cases z⟩
      have j31 : fX11_sum_J31 rc (fX11_sum_L6 rc (N + 1)) h m (J deep) v = fX11_sum_L6 rc (N + 1) g2 m (J deep) (bnd (hrf τ len top a) v v2) := by
        unfold fX11_sum_J31
        simp (disch := omega) only [m_here W (show a < 1000 by omega), Option.bind_some, l43, J_inj]
        rcases stg_2.mp h1 with h2 | h2
        · rw [if_pos h2]
          unfold fX11_sum_J45
          simp only [rs_9 W, hj, e1, e2, Option.bind_some, letF]
          rw [if_neg (by decide), h2]
          rfl
        · rw [if_neg (by omega)]
          unfold fX11_sum_J45
          simp only [rs_9 W, hj, e1, e2, Option.bind_some, letF, if_true]
          rw [h2]
          rfl
      rcases stg_2.mp h1 with h2 | h2
      · rw [if_pos h2, j31]
        exact step _ rfl
      · rw [if_neg (by omega), if_pos h2, j31]
        exact step _ rfl
    · rw [if_neg h1] at hq
      cases hq
      have h2 : ¬ (hrf τ len top a = 43 ∨ hrf τ len top a = 45) := fun z => h1 (stg_2.mpr z)
      rw [if_neg (fun z => h2 (Or.inl z)), if_neg (fun z => h2 (Or.inr z))]
      exact ⟨v, h, rfl, by rw [if_pos rfl]; exact W, On.rf, fun _ => hv⟩
theorem m_loop3 {F : Nat → Value} {deep : Nat} (rc : Nat → AH → Nat → Int32 → Option (Int32 × AH)) (pc : Nat → PR) {LM : Nat} (hLM : LM ≤ 100) (hlim : ∀ i, LM ≤ i → hrf τ len top i = BIG) (hrc : ∀ a q, pc a = some q → a ≤ LM → q.2.1 ≤ LM ∧ ∀ h, RS h m F T τ len top a BIG → ENV h m F T e → RES h m F T τ len top e q (rc 3 h m (J deep))) :
    ∀ n c a q, pzl pc 3 (hrf τ len top) n c a = some q → a ≤ LM → ∀ N h v, n < N → RS h m F T τ len top a BIG → ENV h m F T e → (∀ st, ev e c st = v :: st) → RES h m F T τ len top e q (fX11_product_L6 rc N h m (J deep) v)
  | 0, c, a, q, hq, _, _, _, _, _, _, _, _ => by cases hq
  | n + 1, c, a, q, hq, ha, N, h, v, hN, W, E, hv => by
    obtain ⟨N, rfl⟩ : ∃ x, N = x + 1 + 1 := ⟨N - 2, by omega⟩
    have l := rs_len W
    have hl := hrf_l W a
    have l42 : (42 : Int32) = J 42 := rfl
    have l47 : (47 : Int32) = J 47 := rfl
    rw [fX11_product_L6]
    simp (disch := omega) only [m_fine W (by decide), Option.bind_some, decide_true, if_true, m_here W (show a < 1000 by omega), l42, l47, J_inj]
    unfold pzl at hq
    by_cases h1 : stg (hrf τ len top a) = 3
    · rw [if_pos h1] at hq
      obtain ⟨r, hr1, hr2⟩ := Option.bind_eq_some_iff.mp hq
      have hal : a < LM := by
        by_cases z : a < LM
        · exact z
        · rw [hlim a (by omega), stg_big] at h1; omega
      have hj : J a + 1 = J (a + 1) := by rw [l_1, J_add]
      obtain ⟨i1, i2⟩ := hrc (a + 1) r hr1 (by omega)
      obtain ⟨g1, e1, W1, O1⟩ := rs_p9 W (a + 1)
      obtain ⟨v2, g2, e2, W2, O2, V2⟩ := i2 g1 W1 (env_on E O1)
      have step : ∀ (v3 : Int32), v3 = bnd (hrf τ len top a) v v2 → RES h m F T τ len top e q (fX11_product_L6 rc (N + 1) g2 m (J deep) v3) := by
        intro v3 hv3
        by_cases h2 : r.2.2 = true
        · rw [if_pos h2] at hr2
          have W2' : RS g2 m F T τ len top r.2.1 BIG := by rw [if_pos h2] at W2; exact W2
          obtain ⟨v4, g4, e4, W4, O4, V4⟩ := m_loop3 rc pc hLM hlim hrc n _ _ q hr2 i1 (N + 1) g2 v3 (by omega) W2' (env_on (env_on E O1) O2) (fun st => by
            rw [ev_app, ev_app, hv st, V2 h2, ev_one, nstep_b (by omega) (fun z => by rw [z] at h1; revert h1; decide), hv3])
          exact ⟨v4, g4, e4, W4, (O1.trans O2).trans O4, V4⟩
        · rw [if_neg h2] at hr2
          cases hr2
          rw [if_neg h2] at W2
          exact ⟨v3, g2, m_stop3 rc W2 (by omega), by rw [if_neg (show ¬ false = true by decide)]; exact W2, O1.trans O2, fun z => by cases z⟩
      have j31 : fX11_product_J31 rc (fX11_product_L6 rc (N + 1)) h m (J deep) v = fX11_product_L6 rc (N + 1) g2 m (J deep) (bnd (hrf τ len top a) v v2) := by
        unfold fX11_product_J31
        simp (disch := omega) only [m_here W (show a < 1000 by omega), Option.bind_some, l42, J_inj]
        rcases stg_3.mp h1 with h2 | h2
        · rw [if_pos h2]
          unfold fX11_product_J45
          simp only [rs_9 W, hj, e1, e2, Option.bind_some, letF]
          rw [if_neg (by decide), h2]
          rfl
        · rw [if_neg (by omega)]
          unfold fX11_product_J45
          simp only [rs_9 W, hj, e1, e2, Option.bind_some, letF, if_true]
          rw [h2]
          unfold jdiv bnd
          by_cases hz : v2 = 0
          · simp [hz]
          · simp [hz]
      rcases stg_3.mp h1 with h2 | h2
      · rw [if_pos h2, j31]
        exact step _ rfl
      · rw [if_neg (by omega), if_pos h2, j31]
        exact step _ rfl
    · rw [if_neg h1] at hq
      cases hq
      have h2 : ¬ (hrf τ len top a = 42 ∨ hrf τ len top a = 47) := fun z => h1 (stg_3.mpr z)
      rw [if_neg (fun z => h2 (Or.inl z)), if_neg (fun z => h2 (Or.inr z))]
      exact ⟨v, h, rfl, by rw [if_pos rfl]; exact W, On.rf, fun _ => hv⟩
theorem hrf_big (i : Nat) (h : (if len < top then len else top) ≤ i) : hrf τ len top i = BIG := by
  unfold hrf
  rw [if_neg]
  intro z
  split at h <;> omega
theorem m_rec : ∀ d k deep a q, pz (hrf τ len top) d k deep a = some q → k ≤ 3 → deep ≤ 4 → a ≤ (if len < top then len else top) → ∀ h F, RS h m F T τ len top a BIG → ENV h m F T e → RES h m F T τ len top e q (fX11_rec d k h m (J deep)) := by
  intro d
  induction d with
  | zero => intro k deep a q hq; cases hq
  | succ d ih =>
    intro k deep a q hq hk hdp ha h F W E
    have l := rs_len W
    have lm : (if len < top then len else top) ≤ 100 := by split <;> omega
    have hl := hrf_l W a
    have sm := fun k deep a q hq hk ha => sim (hr := hrf τ len top) (lim := if len < top then len else top) hrf_big d k deep a q hq hk ha
    have hsub : ∀ k deep a q, k ≤ 3 → deep ≤ 4 → pz (hrf τ len top) d k deep a = some q → a ≤ (if len < top then len else top) → q.2.1 ≤ (if len < top then len else top) ∧ ∀ h, RS h m F T τ len top a BIG → ENV h m F T e → RES h m F T τ len top e q (fX11_rec d k h m (J deep)) := fun k deep a q hk hdp hq hal => by
      obtain ⟨j1, j2, -⟩ := sm k deep a q hq hk hal
      exact ⟨j2, fun h W E => ih k deep a q hq hk hdp hal h F W E⟩
    have hj : ∀ b, J b + 1 = J (b + 1) := fun b => by rw [l_1, J_add]
    match k, hk, hq with
    | 1, _, hq =>
      obtain ⟨r, h1, h2⟩ := Option.bind_eq_some_iff.mp (pz_1.symm.trans hq)
      obtain ⟨i2, i3⟩ := hsub 2 deep a r (by omega) hdp h1 ha
      obtain ⟨v, g, e1, W1, O1, V1⟩ := i3 h W E
      show RES h m F T τ len top e q (fX11_sum_b (fX11_rec d) h m (J deep))
      unfold fX11_sum_b
      simp only [rs_h W, if_true, e1, Option.bind_some]
      by_cases h3 : r.2.2 = true
      · rw [if_pos h3] at h2 W1
        obtain ⟨v4, g4, e4, W4, O4, V4⟩ := m_loop2 (m := m) (T := T) (e := e) (fX11_rec d) (pz (hrf τ len top) d 2 deep) lm hrf_big (fun a q hq hal => hsub 2 deep a q (by omega) hdp hq hal) LF r.1 r.2.1 q h2 i2 FU g v (by decide) W1 (env_on E O1) (V1 h3)
        exact ⟨v4, g4, e4, W4, O1.trans O4, V4⟩
      · rw [if_neg h3] at h2 W1
        cases h2
        exact ⟨v, g, m_stop2 (fX11_rec d) W1 (by omega), by rw [if_neg h3]; exact W1, O1, fun z => absurd z h3⟩
    | 2, _, hq =>
      obtain ⟨r, h1, h2⟩ := Option.bind_eq_some_iff.mp (pz_2.symm.trans hq)
      obtain ⟨i2, i3⟩ := hsub 3 deep a r (by omega) hdp h1 ha
      obtain ⟨v, g, e1, W1, O1, V1⟩ := i3 h W E
      show RES h m F T τ len top e q (fX11_product_b (fX11_rec d) h m (J deep))
      unfold fX11_product_b
      simp only [rs_h W, if_true, e1, Option.bind_some]
      by_cases h3 : r.2.2 = true
      · rw [if_pos h3] at h2 W1
        obtain ⟨v4, g4, e4, W4, O4, V4⟩ := m_loop3 (m := m) (T := T) (e := e) (fX11_rec d) (pz (hrf τ len top) d 3 deep) lm hrf_big (fun a q hq hal => hsub 3 deep a q (by omega) hdp hq hal) LF r.1 r.2.1 q h2 i2 FU g v (by decide) W1 (env_on E O1) (V1 h3)
        exact ⟨v4, g4, e4, W4, O1.trans O4, V4⟩
      · rw [if_neg h3] at h2 W1
        cases h2
        exact ⟨v, g, m_stop3 (fX11_rec d) W1 (by omega), by rw [if_neg h3]; exact W1, O1, fun z => absurd z h3⟩
    | 0, _, hq =>
      have l60 : (60 : Int32) = J 60 := rfl
      have l61 : (61 : Int32) = J 61 := rfl
      have l62 : (62 : Int32) = J 62 := rfl
      obtain ⟨r, h1, h2⟩ := Option.bind_eq_some_iff.mp (pz_0.symm.trans hq)
      obtain ⟨i2, i3⟩ := hsub 1 deep a r (by omega) hdp h1 ha
      obtain ⟨v, g, e1, W1, O1, V1⟩ := i3 h W E
      show RES h m F T τ len top e q (fX11_held_b (fX11_rec d) h m (J deep))
      unfold fX11_held_b
      simp only [rs_h W, if_true, e1, Option.bind_some, l60, l61, l62]
      by_cases h3 : r.2.2 = true
      · rw [if_pos h3] at h2 W1
        have hb : r.2.1 < 1000 := by omega
        by_cases h4 : stg (hrf τ len top r.2.1) = 1
        · rw [if_pos h4] at h2
          obtain ⟨u, h5, h6⟩ := Option.bind_eq_some_iff.mp h2
          cases h6
          have hal : r.2.1 < (if len < top then len else top) := by
            by_cases z : r.2.1 < (if len < top then len else top)
            · exact z
            · rw [hrf_big _ (by omega), stg_big] at h4; omega
          obtain ⟨i4, i5⟩ := hsub 1 deep (r.2.1 + 1) u (by omega) hdp h5 (by omega)
          have fin : ∀ (g2 : AH) (x : Int32) (W2 : RS g2 m F T τ len top (r.2.1 + 1) BIG) (O2 : On (fun k => k = m) g g2), ∃ v2 g3, fX11_rec d 1 g2 m (J deep) = some (v2, g3) ∧ (∀ y, y = bnd (hrf τ len top r.2.1) v v2 → RES h m F T τ len top e (r.1 ++ u.1 ++ [1000 + hrf τ len top r.2.1], u.2.1, u.2.2) (some (y, g3))) := by
            intro g2 x W2 O2
            obtain ⟨v2, g3, e3, W3, O3, V3⟩ := i5 g2 W2 (env_on (env_on E O1) O2)
            refine ⟨v2, g3, e3, fun y hy => ⟨y, g3, rfl, W3, (O1.trans O2).trans O3, fun hok st => ?_⟩⟩
            show ev e (r.1 ++ u.1 ++ [1000 + hrf τ len top r.2.1]) st = y :: st
            rw [ev_app, ev_app, V1 h3, V3 hok, ev_one, nstep_b (by omega) (fun z => by rw [z] at h4; revert h4; decide), hy]
          rcases stg_1.mp h4 with h7 | h7 | h7
          · obtain ⟨g2, e2, W2, O2⟩ := m_pass_y W1 hb (c := 60) h7
            obtain ⟨v2, g3, e3, hf⟩ := fin g2 0 W2 O2
            simp only [e2, Option.bind_some, if_true, e3]
            rw [h7] at hf ⊢
            by_cases hc : v2 ≤ v
            · rw [if_pos hc]
              exact hf 0 (by unfold bnd; simp; exact hc)
            · rw [if_neg hc]
              exact hf 1 (by unfold bnd; simp [Int32.not_le.mp hc])
          · have n60 := m_pass_n W1 hb (c := 60) (by omega) (by omega)
            have n62 := m_pass_n W1 hb (c := 62) (by omega) (by omega)
            obtain ⟨g2, e2, W2, O2⟩ := m_pass_y W1 hb (c := 61) h7
            obtain ⟨v2, g3, e3, hf⟩ := fin g2 0 W2 O2
            simp only [n60, n62, e2, Option.bind_some, if_true, e3, if_neg (show ¬ false = true by decide)]
            rw [h7] at hf ⊢
            by_cases hc : v = v2
            · rw [if_pos hc]
              exact hf 1 (by unfold bnd; simp [hc])
            · rw [if_neg hc]
              exact hf 0 (by unfold bnd; simp [hc])
          · have n60 := m_pass_n W1 hb (c := 60) (by omega) (by omega)
            obtain ⟨g2, e2, W2, O2⟩ := m_pass_y W1 hb (c := 62) h7
            obtain ⟨v2, g3, e3, hf⟩ := fin g2 0 W2 O2
            simp only [n60, e2, Option.bind_some, if_true, e3, if_neg (show ¬ false = true by decide)]
            rw [h7] at hf ⊢
            by_cases hc : v ≤ v2
            · rw [if_pos hc]
              exact hf 0 (by unfold bnd; simp; exact hc)
            · rw [if_neg hc]
              exact hf 1 (by unfold bnd; simp [Int32.not_le.mp hc])
        · rw [if_neg h4] at h2
          cases h2
          have h5 : ¬ (hrf τ len top q.2.1 = 60 ∨ hrf τ len top q.2.1 = 61 ∨ hrf τ len top q.2.1 = 62) := fun z => h4 (stg_1.mpr z)
          have n60 := m_pass_n W1 hb (c := 60) (by omega) (by omega)
          have n61 := m_pass_n W1 hb (c := 61) (by omega) (by omega)
          have n62 := m_pass_n W1 hb (c := 62) (by omega) (by omega)
          simp only [n60, n61, n62, Option.bind_some, if_neg (show ¬ false = true by decide)]
          exact ⟨v, g, rfl, by rw [if_pos h3]; exact W1, O1, V1⟩
      · rw [if_neg h3] at h2 W1
        cases h2
        have hw : q.2.1 < BIG := by have : BIG = 4294967295 := rfl; omega
        simp only [m_pass_f W1 hw, Option.bind_some, if_neg (show ¬ false = true by decide)]
        exact ⟨v, g, rfl, by rw [if_neg h3]; exact W1, O1, fun z => absurd z h3⟩
    | 3, _, hq =>
      have l45 : (45 : Int32) = J 45 := rfl
      have l40' : (40 : Int32) = J 40 := rfl
      have l41 : (41 : Int32) = J 41 := rfl
      have l48 : (48 : Int32) = J 48 := rfl
      have l57 : (57 : Int32) = J 57 := rfl
      have hq' := pz_3.symm.trans hq
      show RES h m F T τ len top e q (fX11_thing_b (fX11_rec d) h m (J deep))
      unfold fX11_thing_b
      simp only [rs_h W, if_true, l45]
      have ha1 : a < 1000 := by omega
      by_cases h1 : hrf τ len top a = 45
      · rw [if_pos h1] at hq'
        have hal : a < (if len < top then len else top) := by
          by_cases z : a < (if len < top then len else top)
          · exact z
          · rw [hrf_big _ (by omega)] at h1; exact absurd h1 (big_ne (by omega))
        obtain ⟨u, h5, h6⟩ := Option.bind_eq_some_iff.mp hq'
        cases h6
        obtain ⟨g1, e1, W1, O1⟩ := m_pass_y W ha1 h1
        obtain ⟨i4, i5⟩ := hsub 3 deep (a + 1) u (by omega) hdp h5 (by omega)
        obtain ⟨v2, g2, e2, W2, O2, V2⟩ := i5 g1 W1 (env_on E O1)
        simp only [e1, Option.bind_some, if_true, e2]
        refine ⟨-v2, g2, rfl, W2, O1.trans O2, fun hok st => ?_⟩
        show ev e (u.1 ++ [1126]) st = _
        rw [ev_app, V2 hok, ev_one]
        rfl
      · rw [if_neg h1] at hq'
        simp only [m_pass_n W ha1 (show 45 < 1000 by omega) h1, Option.bind_some, if_neg (show ¬ false = true by decide), m_fine W (by decide), decide_true, if_true, m_here W ha1]
        have tail : ¬ (hrf τ len top a = 40 ∧ deep < 4) → RES h m F T τ len top e q (fX11_thing_J67 (fX11_rec d) h m (J (hrf τ len top a))) := by
          intro h2
          rw [if_neg h2] at hq'
          unfold fX11_thing_J67
          simp only [l48, l57, m_in_dgc W, Option.bind_some]
          by_cases h3 : dgc (hrf τ len top a) = true
          · rw [if_pos h3] at hq'
            cases hq'
            obtain ⟨g1, e1, W1, O1⟩ := m_number W h3
            rw [if_pos h3, l_3]
            simp only [e1, Option.bind_some]
            refine ⟨_, g1, rfl, W1, O1, fun _ st => ?_⟩
            have hv : nval (hrf τ len top) a < 1000 := by
              have q1 := dgc_r h3
              unfold nval
              split
              · rename_i d1
                have q2 := dgc_r d1
                split
                · rename_i d2
                  have q3 := dgc_r d2
                  omega
                · omega
              · omega
            show ev e [nval (hrf τ len top) a] st = _
            rw [ev_one]
            unfold nstep
            rw [if_pos hv]
          · rw [if_neg h3] at hq'
            rw [if_neg h3]
            simp only [m_letter hl, Option.bind_some]
            by_cases h4 : ltc (hrf τ len top a) = true
            · rw [if_pos h4] at hq'
              cases hq'
              have li : lidx (hrf τ len top a) < 7 := by unfold lidx; split <;> (try split) <;> (try split) <;> (try split) <;> (try split) <;> (try split) <;> omega
              obtain ⟨g1, e1, W1, O1⟩ := rs_p9 W (a + 1)
              have E1 := env_on E O1
              obtain ⟨Q, b, ask, q1, q2, q3, q4, q5⟩ := E1
              have lr := ltc_r h4
              simp (disch := omega) only [if_pos h4, m1_J, J_inj]
              rw [if_neg (by omega)]
              simp only [rs_9 W, Option.bind_some, hj, e1]
              have z15 : gZ g1 11 m 15 = some b := ob_z W1.2.1 (by decide) (by rw [rs_f W1 (by decide) (by decide)]; exact q2)
              have r16 : gR g1 11 m 16 = some Q := ob_r W1.2.1 (by decide) (by rw [rs_f W1 (by decide) (by decide)]; exact q3)
              have fin : ∀ y, y = e (hrf τ len top a) → RES h m F T τ len top e ([1000 + hrf τ len top a], a + 1, true) (some (y, g1)) := by
                intro y hy
                refine ⟨y, g1, rfl, W1, O1, fun _ st => ?_⟩
                show ev e [1000 + hrf τ len top a] st = _
                rw [ev_one]
                unfold nstep
                have s0 : stg (hrf τ len top a) = 0 := by
                  rcases ltc_v.mp h4 with z | z | z | z | z | z | z <;> rw [z] <;> decide
                have n126 : hrf τ len top a ≠ 126 := by
                  rcases ltc_v.mp h4 with z | z | z | z | z | z | z <;> rw [z] <;> decide
                rw [if_neg (by omega), if_neg (by omega), Nat.add_sub_cancel_left, if_neg (by omega), hy]
              have e5 := q5 _ h4
              simp only [z15, Option.bind_some]
              cases b
              · rw [if_neg (by decide)]
                exact fin _ (by rw [e5]; rfl)
              · simp (disch := omega) only [if_true, r16, Option.bind_some, m_letter hl, if_pos h4, aI_at q4]
                exact fin _ (by rw [e5]; rfl)
            · rw [if_neg h4] at hq'
              cases hq'
              obtain ⟨g1, e1, W1, O1⟩ := m_fault W a
              simp only [if_neg h4]
              rw [if_pos (show J BIG = -1 by decide)]
              simp only [rs_9 W, Option.bind_some, e1]
              exact ⟨_, g1, rfl, W1, O1, fun z => by cases z⟩
        simp (disch := omega) only [l40', l_4, J_inj, J_le]
        by_cases h2 : hrf τ len top a = 40
        · rw [if_pos h2]
          by_cases h3 : deep < 4
          · rw [if_pos ⟨h2, h3⟩] at hq'
            rw [if_neg (by omega)]
            have hal : a < (if len < top then len else top) := by
              by_cases z : a < (if len < top then len else top)
              · exact z
              · rw [hrf_big _ (by omega)] at h2; exact absurd h2 (big_ne (by omega))
            obtain ⟨u, h5, h6⟩ := Option.bind_eq_some_iff.mp hq'
            obtain ⟨g1, e1, W1, O1⟩ := rs_p9 W (a + 1)
            obtain ⟨i4, i5⟩ := hsub 0 (deep + 1) (a + 1) u (by omega) (by omega) h5 (by omega)
            obtain ⟨v2, g2, e2, W2, O2, V2⟩ := i5 g1 W1 (env_on E O1)
            simp only [rs_9 W, Option.bind_some, hj, e1, e2, l41]
            unfold fX11_need
            by_cases h7 : u.2.2 = true
            · rw [if_pos h7] at h6 W2
              by_cases h8 : hrf τ len top u.2.1 = 41
              · rw [if_pos h8] at h6
                cases h6
                obtain ⟨g3, e3, W3, O3⟩ := m_pass_y W2 (by omega) h8
                simp only [rs_h W2, if_true, e3, Option.bind_some]
                exact ⟨v2, g3, rfl, W3, (O1.trans O2).trans O3, fun _ => V2 h7⟩
              · rw [if_neg h8] at h6
                cases h6
                obtain ⟨g3, e3, W3, O3⟩ := m_fault W2 u.2.1
                simp only [rs_h W2, if_true, m_pass_n W2 (show u.2.1 < 1000 by omega) (show 41 < 1000 by omega) h8, Option.bind_some, if_neg (show ¬ false = true by decide), rs_9 W2, e3]
                exact ⟨v2, g3, rfl, W3, (O1.trans O2).trans O3, fun z => by cases z⟩
            · rw [if_neg h7] at h6 W2
              cases h6
              have hw : q.2.1 < BIG := by have : BIG = 4294967295 := rfl; omega
              simp only [rs_h W2, if_true, m_pass_f W2 hw, Option.bind_some, if_neg (show ¬ false = true by decide), rs_9 W2, m_fault_no W2 hw]
              exact ⟨v2, g2, rfl, by rw [if_neg h7]; exact W2, O1.trans O2, fun z => absurd z h7⟩
          · rw [if_pos (by omega)]
            exact tail (fun z => h3 z.2)
        · rw [if_neg h2]
          exact tail (fun z => h2 z.1)
end REC
