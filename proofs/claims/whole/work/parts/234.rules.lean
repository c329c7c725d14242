/-! a rule read: both -/
def rin (τ : Nat → Nat) (len : Nat) : Nat × List Nat := if len = 0 then (BIG, [1110, 3, 1062]) else match pz (hrf τ len 40) RD 0 0 0 with
  | some q => if q.2.2 = true ∧ q.2.1 = len then (BIG, q.1) else (q.2.1, [])
  | none => (BIG, [])
def lm40 (len : Nat) : Nat := if len < 40 then len else 40
theorem hrf_40 {τ : Nat → Nat} {len : Nat} (i : Nat) (h : lm40 len ≤ i) : hrf τ len 40 i = BIG := hrf_big (τ := τ) (len := len) (top := 40) i h
theorem lm40_le {len : Nat} : lm40 len ≤ 40 ∧ lm40 len ≤ len := by
  unfold lm40
  split <;> omega
theorem rin_spec {τ : Nat → Nat} {len : Nat} (h : 0 < len) : ∃ q, pz (hrf τ len 40) RD 0 0 0 = some q ∧ q.2.1 ≤ lm40 len ∧ rin τ len = if q.2.2 = true ∧ q.2.1 = len then (BIG, q.1) else (q.2.1, []) := by
  have l := lm40_le (len := len)
  obtain ⟨q, hq⟩ := pz_some (hr := hrf τ len 40) (lim := lm40 len) (by omega) hrf_40 RD 0 0 0 (by omega) (Nat.zero_le _) (show 4 * (lm40 len - 0) + (3 - 0) < 200 by omega)
  obtain ⟨-, j2, -⟩ := sim (hr := hrf τ len 40) (lim := lm40 len) hrf_40 RD 0 0 0 q hq (by omega) (Nat.zero_le _)
  refine ⟨q, hq, j2, ?_⟩
  unfold rin
  rw [if_neg (by omega), hq]
theorem big_40 {n : Nat} (h : n ≤ 100) : n ≠ BIG := by
  unfold BIG
  omega
theorem rin_rlr {τ : Nat → Nat} {len : Nat} (ht : ∀ i, i < len → τ i < 256) (h : (rin τ len).1 = BIG) : RLR (rin τ len).2 τ len := by
  by_cases h0 : len = 0
  · left
    refine ⟨h0, ?_⟩
    unfold rin
    rw [if_pos h0]
  · right
    obtain ⟨q, q1, q2, q3⟩ := rin_spec (τ := τ) (len := len) (by omega)
    have l := lm40_le (len := len)
    rw [q3] at h ⊢
    by_cases e : q.2.2 = true ∧ q.2.1 = len
    · rw [if_pos e]
      refine ⟨by omega, by omega, ht, ?_⟩
      rw [q1]
      congr 1
      obtain ⟨c, b, ok⟩ := q
      have e1 : ok = true := e.1
      have e2 : b = len := e.2
      rw [e1, e2]
    · rw [if_neg e] at h
      exact absurd h (big_40 (by omega))
theorem rin_le {τ : Nat → Nat} {len : Nat} (h : (rin τ len).1 ≠ BIG) : (rin τ len).1 ≤ 40 := by
  by_cases h0 : len = 0
  · unfold rin at h
    rw [if_pos h0] at h
    exact absurd rfl h
  · obtain ⟨q, q1, q2, q3⟩ := rin_spec (τ := τ) (len := len) (by omega)
    have l := lm40_le (len := len)
    rw [q3] at h ⊢
    by_cases e : q.2.2 = true ∧ q.2.1 = len
    · rw [if_pos e] at h
      exact absurd rfl h
    · rw [if_neg e]
      show q.2.1 ≤ 40
      omega
def TC (h : AH) (T : Nat) (τ : Nat → Nat) (len : Nat) : Prop := ∃ f, h.1 T = some (.inl (2, 80, .inl f)) ∧ len ≤ 80 ∧ ∀ i, i < len → f i = J (τ i) ∧ τ i < 256
theorem TC.on {h h' : AH} {T : Nat} {τ : Nat → Nat} {len : Nat} {P : Nat → Prop} (W : TC h T τ len) (O : On P h h') (hT : ¬ P T) : TC h' T τ len := by
  obtain ⟨f, w1, w2⟩ := W
  exact ⟨f, (O.2 T hT).trans w1, w2⟩
theorem tc_at {h : AH} {T : Nat} {τ : Nat → Nat} {len i : Nat} (W : TC h T τ len) (hi : i < len) : aI h 2 T (J i) = some (J (τ i)) ∧ τ i < 256 := by
  obtain ⟨f, w1, w2, w3⟩ := W
  rw [aI_at w1 (show i < 80 by omega) (by decide), (w3 i hi).1]
  exact ⟨rfl, (w3 i hi).2⟩
theorem tc_l {h : AH} {T : Nat} {τ : Nat → Nat} {len : Nat} (W : TC h T τ len) : aL h 2 T = some (J 80) ∧ len ≤ 80 := by
  obtain ⟨f, w1, w2, w3⟩ := W
  exact ⟨aL_at w1, w2⟩
def ST7 (h : AH) (q d : Nat) (s : MS) (a : Nat) : Prop := RD7 h q s.1 s.2.1 s.2.2.1 s.2.2.2.1 s.2.2.2.2.1 ∧ RU h d s.2.2.2.2.2 ∧ s.1.length + s.2.2.2.2.2.length ≤ a ∧ (s.2.2.1 = 0 ∨ ∃ C0 v, s.2.2.2.2.2 = C0 ++ [v])
abbrev PQ (q d : Nat) : Nat → Prop := fun i => (q ≤ i ∧ i < q + 3) ∨ (d ≤ i ∧ i < d + 3)
section RRD
variable {q d T : Nat} {τ : Nat → Nat} {len : Nat}
theorem c_run (hqr : q + 3 ≤ d ∨ d + 3 ≤ q) (hT : ¬ PQ q d T) (K : AH → Nat → Int32 → Nat → Option (Int32 × AH)) : ∀ k a s s' N h, mrun (hrf τ len 40) k a s = some s' → a + k ≤ lm40 len → k < N → ST7 h q d s a → TC h T τ len → ∃ h', fX7_readRule_L31 K N h q T (J len) d (J (lm40 len)) (J a) = fX7_readRule_L31 K (N - k) h' q T (J len) d (J (lm40 len)) (J (a + k)) ∧ ST7 h' q d s' (a + k) ∧ On (PQ q d) h h'
  | 0, a, s, s', N, h, hm, ha, hN, S, W => by
    cases hm
    exact ⟨h, rfl, S, On.rf⟩
  | k + 1, a, s, s', N, h, hm, ha, hN, S, W => by
    obtain ⟨N, rfl⟩ : ∃ x, N = x + 1 := ⟨N - 1, by omega⟩
    have l := lm40_le (len := len)
    obtain ⟨s1, m1, m2⟩ := Option.bind_eq_some_iff.mp (show (tk s (hrf τ len 40 a)).bind _ = some s' from hm)
    have hal : hrf τ len 40 a = τ a := by unfold hrf; rw [if_pos ⟨by omega, by omega⟩]
    rw [hal] at m1
    obtain ⟨W0, dp, dg, wt, cp, C⟩ := s
    obtain ⟨S1, S2, S3, S4⟩ := S
    obtain ⟨t1, t2⟩ := tc_at W (show a < len by omega)
    obtain ⟨y1, -⟩ := c_takes hqr S1 S2 (show W0.length + C.length < 40 by have : W0.length + C.length ≤ a := S3; omega) S4 t2
    obtain ⟨g1, e1, R1, U1, L1, D1, O1⟩ := y1 s1 m1
    have S' : ST7 g1 q d s1 (a + 1) := ⟨R1, U1, by have : W0.length + C.length ≤ a := S3; omega, D1⟩
    obtain ⟨g2, e2, S2', O2⟩ := c_run hqr hT K k (a + 1) s1 s' N g1 m2 (by omega) (by omega) S' (W.on O1 hT)
    refine ⟨g2, ?_, ?_, O1.trans O2⟩
    · rw [fX7_readRule_L31]
      simp (disch := omega) only [J_le]
      rw [if_neg (by omega)]
      simp only [t1, Option.bind_some, e1, if_true, letF, l_1, J_add]
      rw [e2, show a + 1 + k = a + (k + 1) by omega, show N + 1 - (k + 1) = N - k by omega]
    · rw [show a + (k + 1) = a + 1 + k by omega]
      exact S2'
theorem c_start {h : AH} (hqr : q + 3 ≤ d ∨ d + 3 ≤ q) (R : RD7w h q) (U : RUw h d) : ∃ h', fX7_start h q d = some h' ∧ ST7 h' q d ([], 0, 0, true, fun _ => false, []) 0 ∧ On (PQ q d) h h' := by
  obtain ⟨g1, e1, U1, O1⟩ := c_rclear U
  obtain ⟨F, fw, fb, x2, x3, x4, x5, r1, r2, r3, r4, r5, r6, r7, r8, r9⟩ := R
  have M1 := r1.ot O1 (by omega)
  obtain ⟨g2, e2, M2, O2⟩ := ob_p M1 (k := 2) (by decide) (.int (J 0))
  obtain ⟨g3, e3, M3, O3⟩ := ob_p M2 (k := 3) (by decide) (.int (J 0))
  obtain ⟨g4, e4, M4, O4⟩ := ob_p M3 (k := 4) (by decide) (.int (J 0))
  obtain ⟨g5, e5, M5, O5⟩ := ob_p M4 (k := 5) (by decide) (.int (b2i true))
  have q9 : g5.1 (q + 2) = some (.inl (4, 5, .inl fb)) := (O5.2 _ (by omega)).trans ((O4.2 _ (by omega)).trans ((O3.2 _ (by omega)).trans ((O2.2 _ (by omega)).trans ((O1.2 _ (by omega)).trans r9))))
  have q8 : g5.1 (q + 1) = some (.inl (2, 40, .inl fw)) := (O5.2 _ (by omega)).trans ((O4.2 _ (by omega)).trans ((O3.2 _ (by omega)).trans ((O2.2 _ (by omega)).trans ((O1.2 _ (by omega)).trans r8))))
  obtain ⟨g6, e6, C6, O6⟩ := wa_t q9 (show 0 < 5 by decide) (by decide) (x := J 0) (show vp_nar .boolean (b2i false) = b2i false from nar_b2i false)
  have f0 : fput (fput (fput (fput F 2 (.int (J 0))) 3 (.int (J 0))) 4 (.int (J 0))) 5 (.int (b2i true)) 0 = .ref (q + 1) := by
    rw [fput_ne (by decide), fput_ne (by decide), fput_ne (by decide), fput_ne (by decide)]; exact r2
  have f1 : fput (fput (fput (fput F 2 (.int (J 0))) 3 (.int (J 0))) 4 (.int (J 0))) 5 (.int (b2i true)) 1 = .ref (q + 2) := by
    rw [fput_ne (by decide), fput_ne (by decide), fput_ne (by decide), fput_ne (by decide)]; exact r3
  have R6 : RD7 g6 q [] 0 0 true (fun _ => false) := by
    refine ⟨_, fw, _, M5.ot O6 (by omega), f0, f1, ?_, ?_, ?_, fput_eq, (O6.2 _ (by omega)).trans q8, C6, Nat.zero_le _, by omega, by omega, trivial, fun j hj => ?_⟩
    · rw [fput_ne (by decide), fput_ne (by decide), fput_ne (by decide), fput_eq]; rfl
    · rw [fput_ne (by decide), fput_ne (by decide), fput_eq]
    · rw [fput_ne (by decide), fput_eq]
    · rw [if_pos (by omega)]; rfl
  have OO : Ot q (q + 3) g1 g6 := ((((O2.mono (Nat.le_refl _) (by omega)).trans (O3.mono (Nat.le_refl _) (by omega))).trans (O4.mono (Nat.le_refl _) (by omega))).trans (O5.mono (Nat.le_refl _) (by omega))).trans (O6.mono (by omega) (by omega))
  refine ⟨g6, ?_, ⟨R6, U1.ot OO (by omega), Nat.le_refl _, Or.inl rfl⟩, (O1.on (fun i h1 h2 => Or.inr ⟨h1, h2⟩)).trans (OO.on (fun i h1 h2 => Or.inl ⟨h1, h2⟩))⟩
  unfold fX7_start
  simp only [ob_h r1, if_true, e1, Option.bind_some, l_0, e2, e3, e4, e5, ob_r M5 (k := 1) (by decide) f1, e6]
theorem c_readRule {h : AH} (hqr : q + 3 ≤ d ∨ d + 3 ≤ q) (hT : ¬ PQ q d T) (R : RD7w h q) (U : RUw h d) (W : TC h T τ len) : ∃ h', fX7_readRule h q T (J len) d = some (J (rin τ len).1, h') ∧ RD7w h' q ∧ RUw h' d ∧ ((rin τ len).1 = BIG → RU h' d (rin τ len).2) ∧ On (PQ q d) h h' := by
  have l := lm40_le (len := len)
  obtain ⟨t80, tl⟩ := tc_l W
  have Rh : hasC h 7 q = true := by
    obtain ⟨F, fw, fb, x2, x3, x4, x5, r1, -⟩ := R
    exact ob_h r1
  unfold fX7_readRule
  simp only [Rh, if_true]
  have hz : (J len = 0) ↔ len = 0 := by rw [l_0, J_inj (by omega) (by omega)]
  by_cases h0 : len = 0
  · rw [if_pos (hz.mpr h0)]
    obtain ⟨g1, e1, U1, O1⟩ := c_becomeNone U
    have er : rin τ len = (BIG, [1110, 3, 1062]) := by unfold rin; rw [if_pos h0]
    rw [er]
    have O1' : On (PQ q d) h g1 := O1.on (fun i h1 h2 => Or.inr ⟨h1, h2⟩)
    refine ⟨g1, ?_, R.on (P := fun i => d ≤ i ∧ i < d + 3) (O1.on (fun i h1 h2 => ⟨h1, h2⟩)) (by omega) (by omega) (by omega), U1.w, fun _ => U1, O1'⟩
    simp only [e1, Option.bind_some]
    rfl
  · rw [if_neg (fun z => h0 (hz.mp z))]
    obtain ⟨p, p1, p2, p3⟩ := rin_spec (τ := τ) (len := len) (by omega)
    obtain ⟨-, -, i3⟩ := sim (hr := hrf τ len 40) (lim := lm40 len) hrf_40 RD 0 0 0 p p1 (by omega) (Nat.zero_le _)
    obtain ⟨s, mr, ms, mf⟩ := i3 [] 0 (fun _ => false) [] tp_nil (fun _ => rfl)
    rw [Nat.sub_zero] at mr
    obtain ⟨g1, e1, S1, O1⟩ := c_start hqr R U
    have W1 := W.on O1 hT
    have t80' := (tc_l W1).1
    have em : jmin (jmin (J len) 40) (J 80) = J (lm40 len) := by
      have e40 : jmin (J len) 40 = J (lm40 len) := by
        unfold jmin lm40
        simp (disch := omega) only [l_40, J_lt]
        by_cases z : 40 < len
        · rw [if_pos (by omega), if_neg (by omega)]
        · rw [if_neg (by omega)]
          split
          · rfl
          · rw [show len = 40 by omega]
      rw [e40]
      unfold jmin
      simp (disch := omega) only [J_lt]
      rw [if_neg (by omega)]
    simp only [e1, Option.bind_some, t80', letF, em]
    obtain ⟨g2, e2, S2, O2⟩ := c_run (τ := τ) (len := len) hqr hT (fun h11 x8 x9 x10 =>
          if x9 ≤ 40 then (
            (gZ h11 7 x8 5).bind fun x12 =>
            if x12 = true then (
              some ((x9, h11))
            ) else (
              (gI h11 7 x8 3).bind fun x13 =>
              if x13 ≤ 0 then (
                (fX7_releaseDownTo h11 x8 1 x10).bind fun q14 =>
                some (((-1), q14))
              ) else (
                some ((x9, h11))
              )
            )
          ) else (
            some ((40, h11))
          )) p.2.1 0 _ s FU g1 mr (by omega) (FU_gt (by omega)) S1 W1
    rw [Nat.zero_add] at e2 S2
    rw [← l_0] at e2
    rw [e2]
    have W2 := W1.on O2 hT
    obtain ⟨m, hm⟩ : ∃ m, FU - p.2.1 = m + 1 := ⟨FU - p.2.1 - 1, by have : FU = 4096 := rfl; omega⟩
    rw [hm, fX7_readRule_L31]
    simp (disch := omega) only [J_le]
    have OO := O1.trans O2
    obtain ⟨W0, dp, dg, wt, cp, C⟩ := s
    obtain ⟨T1, T2, T3, T4⟩ := S2
    have T3' : W0.length + C.length ≤ p.2.1 := T3
    by_cases hb : p.2.1 < lm40 len
    · rw [if_neg (by omega)]
      have ne : ¬ (p.2.2 = true ∧ p.2.1 = len) := by omega
      rw [p3, if_neg ne]
      obtain ⟨t1, t2⟩ := tc_at W2 (show p.2.1 < len by omega)
      have hal : hrf τ len 40 p.2.1 = τ p.2.1 := by unfold hrf; rw [if_pos ⟨by omega, by omega⟩]
      have hn : tk (W0, dp, dg, wt, cp, C) (τ p.2.1) = none := by
        rw [← hal]
        cases hok : p.2.2 with
        | true => exact stuck (ms hok) (by omega)
        | false => exact (mf hok).1 hb
      obtain ⟨-, y2⟩ := c_takes hqr T1 T2 (by omega) T4 t2
      obtain ⟨g3, e3, R3, U3, O3⟩ := y2 hn
      simp only [t1, Option.bind_some, e3, if_neg (show ¬ false = true by decide)]
      exact ⟨g3, rfl, R3, U3, fun z => absurd z (big_40 (show p.2.1 ≤ 100 by omega)), OO.trans O3⟩
    · have hbe : p.2.1 = lm40 len := by omega
      rw [if_pos (by omega)]
      have bd := rd_bd T1
      have bd' : dp ≤ 4 := bd.2.1
      simp (disch := omega) only [l_40, J_le]
      by_cases h40 : len ≤ 40
      · have hl : lm40 len = len := by unfold lm40; split <;> omega
        have hbl : p.2.1 = len := by omega
        rw [if_pos (by omega)]
        have z5 : gZ g2 7 q 5 = some wt := rd_5 T1
        have z3 : gI g2 7 q 3 = some (J dp) := rd_3 T1
        simp only [z5, Option.bind_some, z3]
        cases hok : p.2.2 with
        | true =>
          have er : rin τ len = (BIG, p.1) := by rw [p3, if_pos ⟨hok, hbl⟩]
          rw [er]
          obtain ⟨q1, q2, q3, -⟩ := ms hok
          have q1' : dp = 0 := q1
          have q2' : wt = false := q2
          subst q1' q2'
          simp (disch := omega) only [if_neg (show ¬ false = true by decide), l_0, J_le]
          rw [if_pos (by omega)]
          obtain ⟨g3, e3, R3, U3, O3⟩ := c_rel7 hqr (k := 1) ⟨by omega, by omega⟩ (show W0.length + C.length ≤ 40 by omega) T1 T2
          have q3' : relz 1 W0 C = ([], [] ++ p.1) := q3
          rw [q3'] at U3
          rw [l_1, e3]
          exact ⟨g3, by simp only [Option.bind_some]; rfl, R3.w, U3.w, fun _ => U3, OO.trans O3⟩
        | false =>
          have er : rin τ len = (p.2.1, []) := by rw [p3, if_neg (fun z => by rw [hok] at z; cases z.1)]
          rw [er]
          have f2 := (mf hok).2 hb
          have f2' : wt = true ∨ dp ≠ 0 := f2
          have res : ∃ h', some (J len, g2) = some (J (p.2.1, ([] : List Nat)).1, h') ∧ RD7w h' q ∧ RUw h' d ∧ ((p.2.1, ([] : List Nat)).1 = BIG → RU h' d (p.2.1, ([] : List Nat)).2) ∧ On (PQ q d) h h' := ⟨g2, by rw [← hbl], T1.w, T2.w, fun z => absurd z (big_40 (show p.2.1 ≤ 100 by omega)), OO⟩
          cases wt
          · simp (disch := omega) only [if_neg (show ¬ false = true by decide), l_0, J_le]
            have f3 := f2'.resolve_left (by decide)
            rw [if_neg (by omega)]
            exact res
          · simp only [if_true]
            exact res
      · rw [if_neg (by omega)]
        have hl : lm40 len = 40 := by unfold lm40; split <;> omega
        rw [p3, if_neg (by omega)]
        exact ⟨g2, by show _ = some (J p.2.1, g2); rw [hbe, hl], T1.w, T2.w, fun z => absurd z (big_40 (show p.2.1 ≤ 100 by omega)), OO⟩
end RRD
/-! by the reference -/
section RMR
variable {h : AH} {m : Nat} {F : Nat → Value} {T : Nat} {τ : Nat → Nat} {len top : Nat}
def BT (h : AH) (T : Nat) (τ : Nat → Nat) (len : Nat) : Prop := ∃ N f, h.1 T = some (.inl (3, N, .inl f)) ∧ len ≤ N ∧ N ≤ 100 ∧ TXT f τ len
theorem BT.on {h' : AH} {P : Nat → Prop} (W : BT h T τ len) (O : On P h h') (hT : ¬ P T) : BT h' T τ len := by
  obtain ⟨N, f, w1, w2⟩ := W
  exact ⟨N, f, (O.2 T hT).trans w1, w2⟩
theorem m_begin (M : OBJ 11 36 h m F) (hmT : m ≠ T) (B : BT h T τ len) (htop : top ≤ 100) : ∃ h', fX11_begin h m T (J len) (J top) = some h' ∧ RS h' m (fput (fput (fput F 6 (.ref T)) 7 (.int (J len))) 8 (.int (J top))) T τ len top 0 BIG ∧ On (fun k => k = m) h h' := by
  obtain ⟨g1, e1, M1, O1⟩ := ob_p M (k := 6) (by decide) (.ref T)
  obtain ⟨g2, e2, M2, O2⟩ := ob_p M1 (k := 7) (by decide) (.int (J len))
  obtain ⟨g3, e3, M3, O3⟩ := ob_p M2 (k := 8) (by decide) (.int (J top))
  obtain ⟨g4, e4, M4, O4⟩ := ob_p M3 (k := 9) (by decide) (.int (J 0))
  obtain ⟨g5, e5, M5, O5⟩ := ob_p M4 (k := 10) (by decide) (.int (J BIG))
  have OO : On (fun k => k = m) h g5 := ((((O1.on1 (P := fun k => k = m) rfl).trans (O2.on1 rfl)).trans (O3.on1 rfl)).trans (O4.on1 rfl)).trans (O5.on1 rfl)
  refine ⟨g5, ?_, ⟨hmT, M5, B.on OO (Ne.symm hmT), ?_, ?_, fput_eq, htop⟩, OO⟩
  · have e5' : pF g4 11 m 10 (.int (-1)) = some g5 := e5
    unfold fX11_begin
    simp only [ob_h M, if_true, e1, Option.bind_some, e2, e3, l_0, e4]
    rw [show (-1 : Int32) = J BIG by decide, e5]
    rfl
  · rw [fput_ne (by decide), fput_ne (by decide), fput_eq]
  · rw [fput_ne (by decide), fput_eq]
theorem rs_put {a w : Nat} (W : RS h m F T τ len top a w) {k : Nat} (hk : k < 36) (h6 : k ≠ 6) (h7 : k ≠ 7) (h8 : k ≠ 8) (h9 : k ≠ 9) (h10 : k ≠ 10) (v : Value) : ∃ h', pF h 11 m k v = some h' ∧ RS h' m (fput F k v) T τ len top a w ∧ On (fun k => k = m) h h' := by
  obtain ⟨w1, w2, ⟨N, f, w3⟩, w4, w5, w6, w7⟩ := W
  obtain ⟨h', e, M, O⟩ := ob_p w2 hk v
  refine ⟨h', e, ⟨w1, ?_, ⟨N, f, ?_, w3.2⟩, by rw [fput_ne (Ne.symm h6)]; exact w4, by rw [fput_ne (Ne.symm h7)]; exact w5, by rw [fput_ne (Ne.symm h8)]; exact w6, w7⟩, O.on1 rfl⟩
  · rw [fput_comm (k := 10) (by omega), fput_comm (k := 9) (by omega)] at M
    exact M
  · rw [O.2 T (by omega)]; exact w3.1
theorem m_beginText (M : OBJ 11 36 h m F) (f1 : F 1 = .ref T) (f2 : F 2 = .int (J len)) (hmT : m ≠ T) (B : BT h T τ len) (htop : top ≤ 100) : ∃ h', fX11_beginText h m (J top) = some h' ∧ RS h' m (fput (fput (fput (fput F 6 (.ref T)) 7 (.int (J len))) 8 (.int (J top))) 2 (.int (J 0))) T τ len top 0 BIG ∧ On (fun k => k = m) h h' := by
  obtain ⟨g1, e1, W1, O1⟩ := m_begin M hmT B htop
  obtain ⟨g2, e2, W2, O2⟩ := rs_put W1 (k := 2) (by decide) (by decide) (by decide) (by decide) (by decide) (by decide) (.int (J 0))
  refine ⟨g2, ?_, W2, O1.trans O2⟩
  unfold fX11_beginText
  simp only [ob_h M, if_true, ob_r M (k := 1) (by decide) f1, ob_i M (k := 2) (by decide) f2, Option.bind_some, e1, l_0, e2]
theorem m_wasRight {a w : Nat} (W : RS h m F T τ len top a w) (ha : a ≤ len) (hw : w = BIG ∨ w = a) : ∃ h', fX11_wasRight h m = some (decide (w = BIG ∧ a = len), h') ∧ RS h' m F T τ len top a (if w = BIG ∧ a = len then BIG else a) ∧ On (fun k => k = m) h h' := by
  have l := rs_len W
  have hwl : w < 4294967296 := by
    rcases hw with z | z
    · rw [z]; decide
    · omega
  unfold fX11_wasRight
  simp (disch := omega) only [rs_h W, if_true, rs_9 W, rs_7 W, Option.bind_some, J_le]
  by_cases h1 : len ≤ a
  · rw [if_pos (by omega)]
    unfold fX11_wasRight_J19
    simp only [m_fine W hwl, Option.bind_some]
    have e : a = len := by omega
    refine ⟨h, ?_, ?_, On.rf⟩
    · congr 2
      rw [decide_eq_decide]
      exact ⟨fun z => ⟨z, e⟩, fun z => z.1⟩
    · rcases hw with z | z
      · rw [if_pos ⟨z, e⟩, ← z]; exact W
      · subst z
        have : w ≠ BIG := big_40 (by omega)
        rw [if_neg (fun y => this y.1)]
        exact W
  · rw [if_neg (by omega)]
    have ne : ¬ (w = BIG ∧ a = len) := by omega
    rw [decide_eq_false ne, if_neg ne]
    rcases hw with z | z
    · subst z
      obtain ⟨g1, e1, W1, O1⟩ := m_fault W a
      refine ⟨g1, ?_, W1, O1⟩
      unfold fX11_wasRight_J19
      simp only [e1, Option.bind_some, m_fine W1 (show a < 4294967296 by omega)]
      rw [decide_eq_false (big_40 (show a ≤ 100 by omega))]
    · subst z
      have hb : w < BIG := by have : BIG = 4294967295 := rfl; omega
      refine ⟨h, ?_, W, On.rf⟩
      unfold fX11_wasRight_J19
      simp only [m_fault_no W hb, Option.bind_some, m_fine W hwl]
      rw [decide_eq_false (big_40 (show w ≤ 100 by omega))]
/-- the fields that reading changes -/
def RF (k : Nat) : Prop := k = 2 ∨ k = 6 ∨ k = 7 ∨ k = 8 ∨ k = 9 ∨ k = 10 ∨ k = 15
theorem m_readRule (M : OBJ 11 36 h m F) (f1 : F 1 = .ref T) (f2 : F 2 = .int (J len)) {Q : Nat} (f16 : F 16 = .ref Q) (hmT : m ≠ T) (hmQ : Q ≠ m) (B : BT h T τ len) (cQ : ∃ a, h.1 Q = some (.inl (0, 7, .inl a))) : ∃ h' F', fX11_readRule h m = some (decide ((rin τ len).1 = BIG), h') ∧ OBJ 11 36 h' m F' ∧ F' 10 = .int (J (rin τ len).1) ∧ F' 2 = .int (J 0) ∧ (∀ k, ¬ RF k → F' k = F k) ∧ On (fun k => k = m) h h' := by
  obtain ⟨g1, e1, W1, O1⟩ := m_beginText (top := 40) M f1 f2 hmT B (by omega)
  obtain ⟨g2, e2, W2, O2⟩ := rs_put W1 (k := 15) (by decide) (by decide) (by decide) (by decide) (by decide) (by decide) (.int (b2i false))
  have l := rs_len W2
  obtain ⟨ask, cQ⟩ := cQ
  have E2 : ENV g2 m (fput (fput (fput (fput (fput F 6 (.ref T)) 7 (.int (J len))) 8 (.int (J 40))) 2 (.int (J 0))) 15 (.int (b2i false))) T (fun _ => 0) := by
    refine ⟨Q, false, ask, hmQ, fput_eq, ?_, ?_, fun g _ => rfl⟩
    · rw [fput_ne (by decide), fput_ne (by decide), fput_ne (by decide), fput_ne (by decide), fput_ne (by decide)]; exact f16
    · exact ((O1.trans O2).2 Q hmQ).trans cQ
  have same : ∀ {g : AH} {a w : Nat}, RS g m (fput (fput (fput (fput (fput F 6 (.ref T)) 7 (.int (J len))) 8 (.int (J 40))) 2 (.int (J 0))) 15 (.int (b2i false))) T τ len 40 a w → ∃ F', OBJ 11 36 g m F' ∧ F' 10 = .int (J w) ∧ F' 2 = .int (J 0) ∧ (∀ k, ¬ RF k → F' k = F k) := by
    intro g a w W
    refine ⟨_, W.2.1, fput_eq, ?_, fun k hk => ?_⟩
    · rw [fput_ne (by decide), fput_ne (by decide), fput_ne (by decide), fput_eq]
    · unfold RF at hk
      rw [fput_ne (by omega), fput_ne (by omega), fput_ne (by omega), fput_ne (by omega), fput_ne (by omega), fput_ne (by omega), fput_ne (by omega)]
  unfold fX11_readRule
  simp (disch := omega) only [ob_h M, if_true, l_40, e1, Option.bind_some, e2, rs_7 W2, l_0, J_le]
  unfold fX11_readRule_J24
  by_cases h0 : len = 0
  · rw [if_pos (by omega)]
    obtain ⟨g3, e3, W3, O3⟩ := m_wasRight W2 (by omega) (Or.inl rfl)
    have er : (rin τ len).1 = BIG := by unfold rin; rw [if_pos h0]
    obtain ⟨F', q1, q2, q3, q4⟩ := same W3
    refine ⟨g3, F', ?_, q1, ?_, q3, q4, (O1.trans O2).trans O3⟩
    · rw [decide_eq_true (show BIG = BIG ∧ 0 = len from ⟨rfl, h0.symm⟩)] at e3
      rw [e3, decide_eq_true er]
      rfl
    · rw [q2, er, if_pos ⟨rfl, h0.symm⟩]
  · rw [if_neg (by omega)]
    obtain ⟨p, p1, p2, p3⟩ := rin_spec (τ := τ) (len := len) (by omega)
    have lm := lm40_le (len := len)
    obtain ⟨v, g3, e3, W3, O3, -⟩ := m_rec (m := m) (T := T) (e := fun _ => 0) RD 0 0 0 p p1 (by omega) (by omega) (Nat.zero_le _) g2 _ W2 E2
    obtain ⟨g4, e4, W4, O4⟩ := m_wasRight W3 (by omega) (by split; exact Or.inl rfl; exact Or.inr rfl)
    have e3' : fX11_held g2 m (J 0) = some (v, g3) := e3
    obtain ⟨F', q1, q2, q3, q4⟩ := same W4
    have key : ((if p.2.2 = true then BIG else p.2.1) = BIG ∧ p.2.1 = len) ↔ (p.2.2 = true ∧ p.2.1 = len) := by
      constructor
      · intro z
        refine ⟨?_, z.2⟩
        by_cases y : p.2.2 = true
        · exact y
        · rw [if_neg y] at z
          exact absurd z.1 (big_40 (by omega))
      · intro z
        rw [if_pos z.1]
        exact ⟨rfl, z.2⟩
    have er : (rin τ len).1 = if p.2.2 = true ∧ p.2.1 = len then BIG else p.2.1 := by
      rw [p3]
      split <;> rfl
    refine ⟨g4, F', ?_, q1, ?_, q3, q4, ((O1.trans O2).trans O3).trans O4⟩
    · simp only [e3', Option.bind_some, e4]
      congr 2
      rw [decide_eq_decide, key, er]
      constructor
      · intro z; rw [if_pos z]
      · intro z
        by_cases y : p.2.2 = true ∧ p.2.1 = len
        · exact y
        · rw [if_neg y] at z
          exact absurd z (big_40 (by omega))
    · rw [q2, er]
      by_cases y : p.2.2 = true ∧ p.2.1 = len
      · rw [if_pos y, if_pos (key.mpr y)]
      · rw [if_neg y, if_neg (fun z => y (key.mp z))]
theorem m_ruleOf {A : Nat} {σ : ST} {C : List Nat} {P Q n : Nat} {ρ : Nat → Nat} (M : OBJ 11 36 h m F) (f12 : F 12 = .ref P) (f14 : F 14 = .int (J n)) (f16 : F 16 = .ref Q) (hmA : m ≠ A) (hmP : m ≠ P) (hmQ : m ≠ Q) (hQA : Q ≠ A) (hQP : Q ≠ P) (B : BT h P ρ n) (cQ : ∃ a, h.1 Q = some (.inl (0, 7, .inl a))) (W : RA h A σ) (R : RG σ) (G : GR σ) (L : RLR C ρ n) {s p : Nat} (h0 : hs σ s = true) (hp : p < 8) :
    ∃ v h' F', fX11_ruleOf h m A (J s) (J p) = some (v, h') ∧ OBJ 11 36 h' m F' ∧ (∀ k, (k = 2 ∨ ¬ RF k) → F' k = F k) ∧ (∃ a, h'.1 Q = some (.inl (0, 7, .inl a))) ∧ ev (msr σ s p) C [] = [v] ∧ On (fun k => k = m ∨ k = Q) h h' := by
  obtain ⟨s1, s2, s3⟩ := hs_tp h0 R G
  obtain ⟨t1, t2⟩ := ho_lt s3
  have dl := dep_le (σ := σ) 24 (tp σ s)
  unfold fX11_ruleOf
  rcases L with ⟨rfl, rfl⟩ | ⟨n1, n2, n3, n4⟩
  · have z14 : gI h 11 m 14 = some (J 0) := ob_i M (by decide) f14
    simp (disch := omega) only [ob_h M, if_true, z14, Option.bind_some, l_0, m_len W R G s1, l_3, J_le]
    have evv : ev (msr σ s p) [1110, 3, 1062] [] = [bnd 62 (msr σ s p 110) (J 3)] := rfl
    have ms : msr σ s p 110 = J (dep σ 24 (tp σ s)) := by
      unfold msr
      rw [if_neg (by decide), if_pos rfl]
    have bv : bnd 62 (J (dep σ 24 (tp σ s))) (J 3) = if 3 < dep σ 24 (tp σ s) then 1 else 0 := by
      unfold bnd
      simp (disch := omega) only [J_lt]
      rw [if_neg (by decide), if_neg (by decide), if_neg (by decide), if_neg (by decide), if_neg (by decide), if_pos trivial]
      by_cases z : 3 < dep σ 24 (tp σ s)
      · rw [if_pos (by omega), if_pos z]
      · rw [if_neg (by omega), if_neg z]
    rw [ms, bv] at evv
    by_cases z : 3 < dep σ 24 (tp σ s)
    · rw [if_pos z] at evv
      rw [if_neg (by omega)]
      exact ⟨1, h, F, rfl, M, fun _ _ => rfl, cQ, evv, On.rf⟩
    · rw [if_neg z] at evv
      rw [if_pos (by omega)]
      exact ⟨0, h, F, rfl, M, fun _ _ => rfl, cQ, evv, On.rf⟩
  · have z14 : gI h 11 m 14 = some (J n) := ob_i M (by decide) f14
    obtain ⟨a0, cQ⟩ := cQ
    have r1 := R.2.2.1 _ t1
    have r2 := R.2.1
    have hn0 : J n ≠ 0 := fun z => by rw [l_0, J_inj (by omega) (by omega)] at z; omega
    have eQ : ∀ {g : AH}, Ot Q (Q + 1) h g → gR g 11 m 16 = some Q := fun O => ob_r (M.ot O (by omega)) (by decide) f16
    have eA : ∀ {g : AH}, Ot Q (Q + 1) h g → RA g A σ := fun O => W.frame O (by omega)
    obtain ⟨g1, e1, c1, O1⟩ := wa_s cQ (show 0 < 7 by decide) (by decide) (J (dep σ 24 (tp σ s)))
    obtain ⟨g2, e2, c2, O2⟩ := wa_s c1 (show 1 < 7 by decide) (by decide) (J (tot σ 8))
    have P2 := O1.trans O2
    obtain ⟨g3, e3, c3, O3⟩ := wa_s c2 (show 2 < 7 by decide) (by decide) (J (bc (σ 1 2)))
    have P3 := P2.trans O3
    obtain ⟨g4, e4, c4, O4⟩ := wa_s c3 (show 3 < 7 by decide) (by decide) (J s)
    have P4 := P3.trans O4
    obtain ⟨g5, e5, c5, O5⟩ := wa_s c4 (show 4 < 7 by decide) (by decide) (J p)
    have P5 := P4.trans O5
    obtain ⟨g6, e6, c6, O6⟩ := wa_s c5 (show 5 < 7 by decide) (by decide) (J (σ 1 3) - J (σ 1 3) / 7 * 7)
    have P6 := P5.trans O6
    obtain ⟨g7, e7, c7, O7⟩ := wa_s c6 (show 6 < 7 by decide) (by decide) (J (bc (σ 8 (tp σ s))))
    have P7 := P6.trans O7
    have M7 := M.ot P7 (by omega)
    have B7 : BT g7 P ρ n := B.on (P7.on1 (P := fun k => k = Q) rfl) (Ne.symm hQP)
    obtain ⟨g8, e8, W8, O8⟩ := m_begin (top := 40) M7 hmP B7 (by omega)
    obtain ⟨g9, e9, W9, O9⟩ := rs_put W8 (k := 15) (by decide) (by decide) (by decide) (by decide) (by decide) (by decide) (.int (b2i true))
    have P9 := O8.trans O9
    have E9 : ENV g9 m (fput (fput (fput (fput F 6 (.ref P)) 7 (.int (J n))) 8 (.int (J 40))) 15 (.int (b2i true))) P (msr σ s p) := by
      refine ⟨Q, true, _, Ne.symm hmQ, fput_eq, ?_, (P9.2 Q (Ne.symm hmQ)).trans c7, fun g hg => ?_⟩
      · rw [fput_ne (by decide), fput_ne (by decide), fput_ne (by decide), fput_ne (by decide)]; exact f16
      · have ea : at0 σ 8 (tp σ s) = σ 8 (tp σ s) := by unfold at0; rw [if_pos t1]
        rcases ltc_v.mp hg with z | z | z | z | z | z | z <;> subst z <;> simp [msr, lidx, ea]
    obtain ⟨v, g10, e10, W10, O10, V10⟩ := m_rec (m := m) (T := P) (e := msr σ s p) RD 0 0 0 _ n4 (by omega) (by omega) (Nat.zero_le _) g9 _ W9 E9
    have e10' : fX11_held g9 m (J 0) = some (v, g10) := e10
    obtain ⟨g11, e11, M11, O11⟩ := ob_p W10.2.1 (k := 15) (by decide) (.int (b2i false))
    have tl : nn (σ 0 s) = tp σ s := by rw [s2, nn_id (hs_lt h0).2]
    have on11 : On (fun k => k = m ∨ k = Q) h g11 := (((P7.on1 (Or.inr rfl)).trans (P9.mono (fun k hk => Or.inl hk))).trans (O10.mono (fun k hk => Or.inl hk))).trans (O11.on1 (Or.inl rfl))
    have on9 : On (fun k => k = m) g7 g11 := (P9.trans O10).trans (O11.on1 rfl)
    refine ⟨v, g11, _, ?_, M11, fun k hk => ?_, ⟨_, (on9.2 Q (Ne.symm hmQ)).trans c7⟩, V10 rfl [], on11⟩
    · simp only [ob_h M, if_true, z14, Option.bind_some]
      rw [if_neg hn0]
      have x16 : gR h 11 m 16 = some Q := ob_r M (by decide) f16
      have jr : jrem (J (σ 1 3)) 7 = some (J (σ 1 3) - J (σ 1 3) / 7 * 7) := by unfold jrem; rw [if_neg (by decide)]
      have i0 : (0 : Int32) = J 0 := rfl
      have e1' : sI h 0 Q 0 (J (dep σ 24 (tp σ s))) = some g1 := e1
      have e2' : sI g1 0 Q 1 (J (tot σ 8)) = some g2 := e2
      have e3' : sI g2 0 Q 2 (J (bc (σ 1 2))) = some g3 := e3
      have e4' : sI g3 0 Q 3 (J s) = some g4 := e4
      have e5' : sI g4 0 Q 4 (J p) = some g5 := e5
      have e6' : sI g5 0 Q 5 (J (σ 1 3) - J (σ 1 3) / 7 * 7) = some g6 := e6
      have e7' : sI g6 0 Q 6 (J (bc (σ 8 (tp σ s)))) = some g7 := e7
      have a324 : aI g5 0 A 324 = some (J (σ 1 3)) := ra_wr (eA P5)
      have e8' : fX11_begin g7 m P (J n) 40 = some g8 := e8
      have e10'' : fX11_held g9 m 0 = some (v, g10) := e10'
      have h312 : aI g6 0 A (312 + J s) = some (J (tp σ s)) := by
        rw [l_312, J_add, ra_tp (eA P6) s1, tl]
      simp (disch := omega) only [x16, m_len W R G s1, e1', eQ O1, m_frames (eA O1) R, e2', eQ P2, m_objects (eA P2) R, bc_J, e3', eQ P3, e4', eQ P4, e5', eQ P5, a324, jr, e6', eQ P6, h312, m_pages (eA P6) R, e7', ob_r M7 (k := 12) (by decide) f12, ob_i M7 (k := 14) (by decide) f14, Option.bind_some, e8', e9, e10'', e11]
    · unfold RF at hk
      rw [fput_ne (by omega), fput_ne (by omega), fput_ne (by omega), fput_ne (by omega), fput_ne (by omega), fput_ne (by omega), fput_ne (by omega)]
end RMR
