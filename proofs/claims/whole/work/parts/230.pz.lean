/-! rules: how they are read; a reader, and a machine that waits with what binds less -/
def dgc (g : Nat) : Bool := decide (48 ≤ g) && decide (g ≤ 57)
def ltc (g : Nat) : Bool := decide (g = 102) || decide (g = 110) || decide (g = 111) || decide (g = 112) || decide (g = 115) || decide (g = 116) || decide (g = 119)
def stg (g : Nat) : Nat := if g = 42 ∨ g = 47 then 3 else if g = 43 ∨ g = 45 then 2 else if g = 60 ∨ g = 61 ∨ g = 62 then 1 else if g = 126 then 4 else 0
abbrev PR : Type := Option (List Nat × Nat × Bool)
def nlen (hr : Nat → Nat) (a : Nat) : Nat := if dgc (hr (a + 1)) = true then (if dgc (hr (a + 2)) = true then 3 else 2) else 1
def nval (hr : Nat → Nat) (a : Nat) : Nat := if dgc (hr (a + 1)) = true then (if dgc (hr (a + 2)) = true then 10 * (10 * (hr a - 48) + (hr (a + 1) - 48)) + (hr (a + 2) - 48) else 10 * (hr a - 48) + (hr (a + 1) - 48)) else hr a - 48
def pzl (rc : Nat → PR) (st : Nat) (hr : Nat → Nat) : Nat → List Nat → Nat → PR
  | 0, _, _ => none
  | n + 1, c, a => if stg (hr a) = st then (rc (a + 1)).bind fun q => if q.2.2 = true then pzl rc st hr n (c ++ q.1 ++ [1000 + hr a]) q.2.1 else some (c, q.2.1, false) else some (c, a, true)
def LF : Nat := 4000
def pz (hr : Nat → Nat) : Nat → Nat → Nat → Nat → PR
  | 0, _, _, _ => none
  | d + 1, 0, deep, a => (pz hr d 1 deep a).bind fun q => if q.2.2 = true then (if stg (hr q.2.1) = 1 then (pz hr d 1 deep (q.2.1 + 1)).bind fun r => some (q.1 ++ r.1 ++ [1000 + hr q.2.1], r.2.1, r.2.2) else some q) else some q
  | d + 1, 1, deep, a => (pz hr d 2 deep a).bind fun q => if q.2.2 = true then pzl (pz hr d 2 deep) 2 hr LF q.1 q.2.1 else some q
  | d + 1, 2, deep, a => (pz hr d 3 deep a).bind fun q => if q.2.2 = true then pzl (pz hr d 3 deep) 3 hr LF q.1 q.2.1 else some q
  | d + 1, _ + 3, deep, a => if hr a = 45 then (pz hr d 3 deep (a + 1)).bind fun q => some (q.1 ++ [1126], q.2.1, q.2.2)
    else if hr a = 40 ∧ deep < 4 then (pz hr d 0 (deep + 1) (a + 1)).bind fun q => if q.2.2 = true then (if hr q.2.1 = 41 then some (q.1, q.2.1 + 1, true) else some (q.1, q.2.1, false)) else some q
    else if dgc (hr a) = true then some ([nval hr a], a + nlen hr a, true)
    else if ltc (hr a) = true then some ([1000 + hr a], a + 1, true)
    else some ([], a, false)
def relz (k : Nat) : List Nat → List Nat → List Nat × List Nat
  | [], C => ([], C)
  | g :: W, C => if k ≤ stg g then relz k W (C ++ [1000 + g]) else (g :: W, C)
abbrev MS : Type := List Nat × Nat × Nat × Bool × (Nat → Bool) × List Nat
def apd (C : List Nat) (d : Nat) : List Nat := C.dropLast ++ [10 * C.getLastD 0 + d]
def tk (s : MS) (g : Nat) : Option MS :=
  if dgc g = true then (if s.2.2.2.1 = true then some (s.1, s.2.1, 1, false, s.2.2.2.2.1, s.2.2.2.2.2 ++ [g - 48]) else if s.2.2.1 = 0 ∨ s.2.2.1 = 3 then none else some (s.1, s.2.1, s.2.2.1 + 1, false, s.2.2.2.2.1, apd s.2.2.2.2.2 (g - 48)))
  else if s.2.2.2.1 = true then
    (if g = 45 then some (126 :: s.1, s.2.1, 0, true, s.2.2.2.2.1, s.2.2.2.2.2)
    else if g = 40 ∧ s.2.1 < 4 then some (40 :: s.1, s.2.1 + 1, 0, true, (fun j => if j = s.2.1 + 1 then false else s.2.2.2.2.1 j), s.2.2.2.2.2)
    else if ltc g = true then some (s.1, s.2.1, 0, false, s.2.2.2.2.1, s.2.2.2.2.2 ++ [1000 + g]) else none)
  else if g = 41 ∧ 0 < s.2.1 then some ((relz 1 s.1 s.2.2.2.2.2).1.tail, s.2.1 - 1, 0, false, s.2.2.2.2.1, (relz 1 s.1 s.2.2.2.2.2).2)
  else if 0 < stg g ∧ g ≠ 126 then
    (if stg g = 1 then (if s.2.2.2.2.1 s.2.1 = true then none else some (g :: (relz 1 s.1 s.2.2.2.2.2).1, s.2.1, 0, true, (fun j => if j = s.2.1 then true else s.2.2.2.2.1 j), (relz 1 s.1 s.2.2.2.2.2).2))
    else some (g :: (relz (stg g) s.1 s.2.2.2.2.2).1, s.2.1, 0, true, s.2.2.2.2.1, (relz (stg g) s.1 s.2.2.2.2.2).2))
  else none
def mrun (hr : Nat → Nat) : Nat → Nat → MS → Option MS
  | 0, _, s => some s
  | n + 1, a, s => (tk s (hr a)).bind fun s' => mrun hr n (a + 1) s'
theorem mrun_add (hr : Nat → Nat) : ∀ n m a s, mrun hr (n + m) a s = (mrun hr n a s).bind fun s' => mrun hr m (a + n) s'
  | 0, m, a, s => by rw [Nat.zero_add]; rfl
  | n + 1, m, a, s => by
    rw [show n + 1 + m = (n + m) + 1 by omega]
    show (tk s (hr a)).bind _ = ((tk s (hr a)).bind _).bind _
    rw [Option.bind_assoc]
    congr 1
    funext s'
    rw [mrun_add hr n m (a + 1) s', show a + 1 + n = a + (n + 1) by omega]
theorem mrun_step {hr : Nat → Nat} {n a : Nat} {s s' : MS} (h : tk s (hr a) = some s') : mrun hr (n + 1) a s = mrun hr n (a + 1) s' := by
  show (tk s (hr a)).bind _ = _
  rw [h]; rfl
theorem mrun_then {hr : Nat → Nat} {a b e : Nat} {s s' : MS} (h1 : a ≤ b) (h2 : b ≤ e) (h : mrun hr (b - a) a s = some s') : mrun hr (e - a) a s = mrun hr (e - b) b s' := by
  rw [show e - a = (b - a) + (e - b) by omega, mrun_add, h]
  show mrun hr (e - b) (a + (b - a)) s' = _
  rw [show a + (b - a) = b by omega]
theorem relz_y {k g : Nat} {W C : List Nat} (h : k ≤ stg g) : relz k (g :: W) C = relz k W (C ++ [1000 + g]) := by
  show (if k ≤ stg g then relz k W (C ++ [1000 + g]) else (g :: W, C)) = _
  rw [if_pos h]
theorem relz_n {k g : Nat} {W C : List Nat} (h : ¬ k ≤ stg g) : relz k (g :: W) C = (g :: W, C) := by
  show (if k ≤ stg g then relz k W (C ++ [1000 + g]) else (g :: W, C)) = _
  rw [if_neg h]
theorem relz_relz {j k : Nat} (hjk : j ≤ k) : ∀ W C, relz j (relz k W C).1 (relz k W C).2 = relz j W C
  | [], C => rfl
  | g :: W, C => by
    by_cases h : k ≤ stg g
    · rw [relz_y h, relz_y (show j ≤ stg g by omega)]
      exact relz_relz hjk W _
    · rw [relz_n h]
theorem relz_low {j k : Nat} {W C W' C' : List Nat} (hjk : j ≤ k) (h : relz k W C = relz k W' C') : relz j W C = relz j W' C' := by
  rw [← relz_relz hjk W C, h, relz_relz hjk]
theorem relz_idem {k : Nat} : ∀ W C, relz k (relz k W C).1 (relz k W C).2 = relz k W C := relz_relz (Nat.le_refl k)
def TP (k : Nat) (W : List Nat) : Prop := k = 3 ∨ ∀ X, relz (k + 1) W X = (W, X)
theorem tp_of {k : Nat} {g : Nat} {W : List Nat} (h : stg g ≤ k) : TP k (g :: W) := Or.inr fun X => relz_n (by omega)
theorem tp_nil {k : Nat} : TP k [] := Or.inr fun X => rfl
theorem tp_up {k j : Nat} {W : List Nat} (h : TP k W) (hkj : k ≤ j) (hj : j ≤ 3) : TP j W := by
  by_cases e : j = 3
  · exact Or.inl e
  · refine Or.inr fun X => ?_
    have h1 := h.resolve_left (by omega)
    cases W with
    | nil => rfl
    | cons g W =>
      by_cases h2 : j + 1 ≤ stg g
      · have h3 := h1 X
        rw [relz_y (by omega)] at h3
        exfalso
        have h4 : ∀ (W : List Nat) C, (relz (k + 1) W C).1.length ≤ W.length := by
          intro W
          induction W with
          | nil => intro C; exact Nat.le_refl _
          | cons y W ih =>
            intro C
            unfold relz
            split
            · exact Nat.le_trans (ih _) (Nat.le_succ _)
            · exact Nat.le_refl _
        have h5 := h4 W (X ++ [1000 + g])
        rw [h3] at h5
        simp only [List.length_cons] at h5
        omega
      · rw [relz_n h2]
def BIG : Nat := 4294967295
theorem pz_0 {hr : Nat → Nat} {d deep a : Nat} : pz hr (d + 1) 0 deep a = (pz hr d 1 deep a).bind fun q => if q.2.2 = true then (if stg (hr q.2.1) = 1 then (pz hr d 1 deep (q.2.1 + 1)).bind fun r => some (q.1 ++ r.1 ++ [1000 + hr q.2.1], r.2.1, r.2.2) else some q) else some q := by rw [pz]
theorem pz_1 {hr : Nat → Nat} {d deep a : Nat} : pz hr (d + 1) 1 deep a = (pz hr d (1 + 1) deep a).bind fun q => if q.2.2 = true then pzl (pz hr d (1 + 1) deep) (1 + 1) hr LF q.1 q.2.1 else some q := by rw [pz]
theorem pz_2 {hr : Nat → Nat} {d deep a : Nat} : pz hr (d + 1) 2 deep a = (pz hr d (2 + 1) deep a).bind fun q => if q.2.2 = true then pzl (pz hr d (2 + 1) deep) (2 + 1) hr LF q.1 q.2.1 else some q := by rw [pz]
theorem pz_3 {hr : Nat → Nat} {d deep a : Nat} : pz hr (d + 1) 3 deep a = if hr a = 45 then (pz hr d 3 deep (a + 1)).bind fun q => some (q.1 ++ [1126], q.2.1, q.2.2)
    else if hr a = 40 ∧ deep < 4 then (pz hr d 0 (deep + 1) (a + 1)).bind fun q => if q.2.2 = true then (if hr q.2.1 = 41 then some (q.1, q.2.1 + 1, true) else some (q.1, q.2.1, false)) else some q
    else if dgc (hr a) = true then some ([nval hr a], a + nlen hr a, true)
    else if ltc (hr a) = true then some ([1000 + hr a], a + 1, true)
    else some ([], a, false) := by
  show pz hr (d + 1) (0 + 3) deep a = _
  rw [pz]
theorem big_ne {n : Nat} (h : n < 1000) : BIG ≠ n := by
  unfold BIG
  omega
theorem ltc_r {g : Nat} (h : ltc g = true) : g < 1000 := by
  unfold ltc at h
  simp at h
  omega
def SUC (hr : Nat → Nat) (k deep : Nat) (W : List Nat) (cp : Nat → Bool) (C c : List Nat) (b : Nat) (s : MS) : Prop :=
  s.2.1 = deep ∧ s.2.2.2.1 = false ∧ relz (k + 1) s.1 s.2.2.2.2.2 = relz (k + 1) W (C ++ c) ∧ (∀ j, j < deep → s.2.2.2.2.1 j = cp j) ∧ (k ≠ 0 → s.2.2.2.2.1 deep = cp deep) ∧ (dgc (hr b) = true → s.2.2.1 = 0 ∨ s.2.2.1 = 3) ∧ (stg (hr b) = 3 → k = 3) ∧ (stg (hr b) = 2 → 2 ≤ k) ∧ (k = 0 → stg (hr b) = 1 → s.2.2.2.2.1 deep = true)
/-- between two things of a loop -/
def SUL (hr : Nat → Nat) (k deep : Nat) (W : List Nat) (cp : Nat → Bool) (C c : List Nat) (b : Nat) (s : MS) : Prop :=
  s.2.1 = deep ∧ s.2.2.2.1 = false ∧ relz (k + 1) s.1 s.2.2.2.2.2 = relz (k + 1) W (C ++ c) ∧ (∀ j, j ≤ deep → s.2.2.2.2.1 j = cp j) ∧ (dgc (hr b) = true → s.2.2.1 = 0 ∨ s.2.2.1 = 3) ∧ (stg (hr b) = 3 → k + 1 = 3) ∧ (stg (hr b) = 2 → 2 ≤ k + 1)
theorem SUC.sul {hr : Nat → Nat} {k deep : Nat} {W : List Nat} {cp : Nat → Bool} {C c : List Nat} {b : Nat} {s : MS} (S : SUC hr (k + 1) deep W cp C c b s) : SUL hr k deep W cp C c b s := by
  obtain ⟨s1, s2, s3, s4, s5, s6, s7, s8, s9⟩ := S
  refine ⟨s1, s2, relz_low (Nat.le_succ _) s3, fun j hj => ?_, s6, s7, s8⟩
  by_cases e : j = deep
  · rw [e]; exact s5 (by omega)
  · exact s4 j (by omega)
def FLL (hr : Nat → Nat) (lim b : Nat) (s : MS) : Prop := (b < lim → tk s (hr b) = none) ∧ (¬ b < lim → s.2.2.2.1 = true ∨ s.2.1 ≠ 0)
def SIM (hr : Nat → Nat) (lim k deep a : Nat) (q : List Nat × Nat × Bool) : Prop :=
  a ≤ q.2.1 ∧ q.2.1 ≤ lim ∧ ∀ W dg cp C, TP k W → (k = 0 → cp deep = false) → ∃ s, mrun hr (q.2.1 - a) a (W, deep, dg, true, cp, C) = some s ∧ (q.2.2 = true → SUC hr k deep W cp C q.1 q.2.1 s) ∧ (q.2.2 = false → FLL hr lim q.2.1 s)
/-- level 0 is stuck: what comes is refused, if it is no bracket that closes -/
theorem stuck {hr : Nat → Nat} {deep b : Nat} {W : List Nat} {cp : Nat → Bool} {C c : List Nat} {s : MS} (S : SUC hr 0 deep W cp C c b s) (h : ¬ (hr b = 41 ∧ 0 < deep)) : tk s (hr b) = none := by
  obtain ⟨s1, s2, -, -, -, s6, s7, s8, s9⟩ := S
  unfold tk
  by_cases h1 : dgc (hr b) = true
  · rw [if_pos h1, s2, if_neg (by decide), if_pos (s6 h1)]
  · rw [if_neg h1, s2, if_neg (by decide), if_neg (by rw [s1]; exact h)]
    by_cases h2 : 0 < stg (hr b) ∧ hr b ≠ 126
    · have h3 : stg (hr b) = 1 := by
        have h4 : stg (hr b) ≠ 3 := fun z => by have := s7 z; omega
        have h5 : stg (hr b) ≠ 2 := fun z => by have := s8 z; omega
        have h6 : stg (hr b) ≠ 4 := fun z => by
          unfold stg at z
          split at z
          · omega
          · split at z
            · omega
            · split at z
              · omega
              · split at z
                · rename_i h7; exact h2.2 h7
                · omega
        have h7 : stg (hr b) ≤ 4 := by
          unfold stg
          split
          · omega
          · split
            · omega
            · split
              · omega
              · split <;> omega
        omega
      rw [if_pos h2, if_pos h3, s1, if_pos (s9 rfl h3)]
    · rw [if_neg h2]
theorem dgc_r {g : Nat} (h : dgc g = true) : 48 ≤ g ∧ g ≤ 57 := by
  unfold dgc at h
  simpa using h
theorem stg_big : stg BIG = 0 := by decide
theorem dgc_big : dgc BIG = false := by decide
theorem stg_nd {g : Nat} (h : 0 < stg g) : dgc g = false := by
  cases hd : dgc g with
  | false => rfl
  | true =>
    have := dgc_r hd
    unfold stg at h
    rw [if_neg (by omega), if_neg (by omega), if_neg (by omega), if_neg (by omega)] at h
    omega
theorem tk_op {W : List Nat} {deep dg : Nat} {cp : Nat → Bool} {C : List Nat} {g : Nat} (h : stg g = 3 ∨ stg g = 2) : tk (W, deep, dg, false, cp, C) g = some (g :: (relz (stg g) W C).1, deep, 0, true, cp, (relz (stg g) W C).2) := by
  have h1 : dgc g = false := stg_nd (by omega)
  have h2 : ¬ (g = 41 ∧ 0 < deep) := fun z => by
    rw [z.1] at h
    revert h
    decide
  have h3 : g ≠ 126 := fun z => by
    rw [z] at h
    revert h
    decide
  unfold tk
  rw [if_neg (by rw [h1]; decide)]
  show (if (false : Bool) = true then _ else if g = 41 ∧ 0 < deep then _ else _) = _
  rw [if_neg (by decide), if_neg h2, if_pos ⟨by omega, h3⟩, if_neg (by omega)]
theorem tk_cmp {W : List Nat} {deep dg : Nat} {cp : Nat → Bool} {C : List Nat} {g : Nat} (h : stg g = 1) (hc : cp deep = false) : tk (W, deep, dg, false, cp, C) g = some (g :: (relz 1 W C).1, deep, 0, true, (fun j => if j = deep then true else cp j), (relz 1 W C).2) := by
  have h1 : dgc g = false := stg_nd (by omega)
  have h2 : ¬ (g = 41 ∧ 0 < deep) := fun z => by
    rw [z.1] at h
    revert h
    decide
  have h3 : g ≠ 126 := fun z => by
    rw [z] at h
    revert h
    decide
  unfold tk
  rw [if_neg (by rw [h1]; decide)]
  show (if (false : Bool) = true then _ else if g = 41 ∧ 0 < deep then _ else _) = _
  rw [if_neg (by decide), if_neg h2, if_pos ⟨by omega, h3⟩, if_pos h]
  show (if cp deep = true then _ else _) = _
  rw [if_neg (by rw [hc]; decide)]
/-- a loop of levels 1, 2 -/
theorem sim_loop {hr : Nat → Nat} {lim deep k : Nat} (hk : k = 1 ∨ k = 2) (hb : ∀ i, lim ≤ i → hr i = BIG) (rc : Nat → PR) (hrc : ∀ a q, rc a = some q → a ≤ lim → SIM hr lim (k + 1) deep a q) :
    ∀ n c a q, pzl rc (k + 1) hr n c a = some q → a ≤ lim → a ≤ q.2.1 ∧ q.2.1 ≤ lim ∧ ∀ W cp C s, TP k W → SUL hr k deep W cp C c a s → ∃ s', mrun hr (q.2.1 - a) a s = some s' ∧ (q.2.2 = true → SUC hr k deep W cp C q.1 q.2.1 s') ∧ (q.2.2 = false → FLL hr lim q.2.1 s')
  | 0, c, a, q, h, _ => by cases h
  | n + 1, c, a, q, h, ha => by
    unfold pzl at h
    by_cases h1 : stg (hr a) = k + 1
    · rw [if_pos h1] at h
      have hal : a < lim := by
        by_cases e : a < lim
        · exact e
        · rw [hb a (by omega), stg_big] at h1; omega
      obtain ⟨r, hr1, hr2⟩ := Option.bind_eq_some_iff.mp h
      obtain ⟨i1, i2, i3⟩ := hrc (a + 1) r hr1 (by omega)
      have pre : ∀ W cp C s, TP k W → SUL hr k deep W cp C c a s → ∃ s1, tk s (hr a) = some (hr a :: W, deep, 0, true, s1, C ++ c) ∧ (∀ j, j ≤ deep → s1 j = cp j) := by
        intro W cp C s hT S
        obtain ⟨W1, d1, g1, w1, c1, C1⟩ := s
        obtain ⟨s1, s2, s3, s4, s6, s7, s8⟩ := S
        have s1' : d1 = deep := s1
        have s2' : w1 = false := s2
        subst s1' s2'
        refine ⟨c1, ?_, s4⟩
        have s3' : relz (k + 1) W1 C1 = relz (k + 1) W (C ++ c) := s3
        rw [tk_op (by omega), h1, s3', hT.resolve_left (by omega)]
      by_cases h2 : r.2.2 = true
      · rw [if_pos h2] at hr2
        obtain ⟨j1, j2, j3⟩ := sim_loop hk hb rc hrc n _ _ q hr2 i2
        refine ⟨by omega, j2, fun W cp C s hT S => ?_⟩
        obtain ⟨cp1, p1, p2⟩ := pre W cp C s hT S
        obtain ⟨s2, t1, t2, -⟩ := i3 (hr a :: W) 0 cp1 (C ++ c) (tp_of (by omega)) (fun z => by omega)
        have S2 := t2 h2
        have S3 : SUL hr k deep W cp C (c ++ r.1 ++ [1000 + hr a]) r.2.1 s2 := by
          obtain ⟨s1, s2', s3, s4, s6, s7, s8⟩ := S2.sul
          refine ⟨s1, s2', ?_, fun j hj => (s4 j hj).trans (p2 j hj), s6, s7, s8⟩
          rw [s3, relz_y (show k + 1 ≤ stg (hr a) by omega)]
          simp only [List.append_assoc]
        obtain ⟨s4, v1, v2⟩ := j3 W cp C s2 hT S3
        refine ⟨s4, ?_, v2⟩
        rw [show q.2.1 - a = (q.2.1 - (a + 1)) + 1 by omega, mrun_step p1, mrun_then i1 j1 t1]
        exact v1
      · rw [if_neg h2] at hr2
        cases hr2
        refine ⟨by show a ≤ r.2.1; omega, i2, fun W cp C s hT S => ?_⟩
        obtain ⟨cp1, p1, p2⟩ := pre W cp C s hT S
        obtain ⟨s2, t1, -, t3⟩ := i3 (hr a :: W) 0 cp1 (C ++ c) (tp_of (by omega)) (fun z => by omega)
        refine ⟨s2, ?_, fun z => (by cases z), fun _ => t3 (by simpa using h2)⟩
        show mrun hr (r.2.1 - a) a s = some s2
        rw [show r.2.1 - a = (r.2.1 - (a + 1)) + 1 by omega, mrun_step p1]
        exact t1
    · rw [if_neg h1] at h
      cases h
      refine ⟨Nat.le_refl _, ha, fun W cp C s hT S => ?_⟩
      refine ⟨s, by rw [Nat.sub_self]; rfl, fun _ => ?_, fun z => by cases z⟩
      obtain ⟨s1, s2, s3, s4, s6, s7, s8⟩ := S
      have e : SUC hr k deep W cp C c a s := ⟨s1, s2, s3, fun j hj => s4 j (by omega), fun _ => s4 deep (Nat.le_refl _), s6, fun z => by have := s7 z; omega, fun z => by have := s8 z; omega, fun z => absurd z (by omega)⟩
      exact e
theorem tk_num1 {W : List Nat} {deep dg : Nat} {cp : Nat → Bool} {C : List Nat} {g : Nat} (h : dgc g = true) : tk (W, deep, dg, true, cp, C) g = some (W, deep, 1, false, cp, C ++ [g - 48]) := by
  unfold tk
  rw [if_pos h]
  rfl
theorem apd_eq {C : List Nat} {v d : Nat} : apd (C ++ [v]) d = C ++ [10 * v + d] := by
  unfold apd
  simp
theorem tk_num2 {W : List Nat} {deep dg : Nat} {cp : Nat → Bool} {C : List Nat} {g v : Nat} (h : dgc g = true) (hd : dg = 1 ∨ dg = 2) : tk (W, deep, dg, false, cp, C ++ [v]) g = some (W, deep, dg + 1, false, cp, C ++ [10 * v + (g - 48)]) := by
  unfold tk
  rw [if_pos h]
  show (if (false : Bool) = true then _ else if dg = 0 ∨ dg = 3 then none else some (W, deep, dg + 1, false, cp, apd (C ++ [v]) (g - 48))) = _
  rw [if_neg (by decide), if_neg (by omega), apd_eq]
theorem sim {hr : Nat → Nat} {lim : Nat} (hb : ∀ i, lim ≤ i → hr i = BIG) : ∀ d k deep a q, pz hr d k deep a = some q → k ≤ 3 → a ≤ lim → SIM hr lim k deep a q := by
  have hlt : ∀ {a : Nat}, hr a ≠ BIG → a < lim := fun {a} h => by
    by_cases e : a < lim
    · exact e
    · exact absurd (hb a (by omega)) h
  intro d
  induction d with
  | zero => intro k deep a q h; cases h
  | succ d ih =>
    intro k deep a q h hk ha
    have lev : ∀ k, k = 1 ∨ k = 2 → (pz hr d (k + 1) deep a).bind (fun q => if q.2.2 = true then pzl (pz hr d (k + 1) deep) (k + 1) hr LF q.1 q.2.1 else some q) = some q → SIM hr lim k deep a q := by
      intro k hk h
      obtain ⟨r, h1, h2⟩ := Option.bind_eq_some_iff.mp h
      obtain ⟨i1, i2, i3⟩ := ih (k + 1) deep a r h1 (by omega) ha
      by_cases h3 : r.2.2 = true
      · rw [if_pos h3] at h2
        obtain ⟨j1, j2, j3⟩ := sim_loop hk hb (pz hr d (k + 1) deep) (fun a q hq ha => ih (k + 1) deep a q hq (by omega) ha) LF r.1 r.2.1 q h2 i2
        refine ⟨by omega, j2, fun W dg cp C hT _ => ?_⟩
        obtain ⟨s1, t1, t2, -⟩ := i3 W dg cp C (tp_up hT (Nat.le_succ k) (by omega)) (fun z => absurd z (by omega))
        obtain ⟨s2, v1, v2⟩ := j3 W cp C s1 hT (t2 h3).sul
        exact ⟨s2, by rw [mrun_then i1 j1 t1]; exact v1, v2⟩
      · rw [if_neg h3] at h2
        cases h2
        refine ⟨i1, i2, fun W dg cp C hT _ => ?_⟩
        obtain ⟨s1, t1, -, t3⟩ := i3 W dg cp C (tp_up hT (Nat.le_succ k) (by omega)) (fun z => absurd z (by omega))
        exact ⟨s1, t1, fun z => absurd z h3, t3⟩
    match k, hk, h with
    | 1, _, h => exact lev 1 (Or.inl rfl) (pz_1.symm.trans h)
    | 2, _, h => exact lev 2 (Or.inr rfl) (pz_2.symm.trans h)
    | 0, _, h =>
      obtain ⟨r, h1, h2⟩ := Option.bind_eq_some_iff.mp (pz_0.symm.trans h)
      obtain ⟨i1, i2, i3⟩ := ih 1 deep a r h1 (by omega) ha
      by_cases h3 : r.2.2 = true
      · rw [if_pos h3] at h2
        by_cases h4 : stg (hr r.2.1) = 1
        · rw [if_pos h4] at h2
          have hal : r.2.1 < lim := hlt fun z => by rw [z, stg_big] at h4; omega
          obtain ⟨u, h5, h6⟩ := Option.bind_eq_some_iff.mp h2
          cases h6
          obtain ⟨j1, j2, j3⟩ := ih 1 deep (r.2.1 + 1) u h5 (by omega) (by omega)
          refine ⟨by show a ≤ u.2.1; omega, j2, fun W dg cp C hT hcp => ?_⟩
          obtain ⟨s1, t1, t2, -⟩ := i3 W dg cp C (tp_up hT (by omega) (by omega)) (fun z => absurd z (by omega))
          obtain ⟨W1, d1, g1, w1, c1, C1⟩ := s1
          obtain ⟨s1, s2, s3, s4, s5, s6, s7, s8, s9⟩ := t2 h3
          have s1' : d1 = deep := s1
          have s2' : w1 = false := s2
          subst s1' s2'
          have s3' : relz 2 W1 C1 = relz 2 W (C ++ r.1) := s3
          have s5' : c1 d1 = cp d1 := s5 (by omega)
          have p1 : tk (W1, d1, g1, false, c1, C1) (hr r.2.1) = some (hr r.2.1 :: W, d1, 0, true, (fun j => if j = d1 then true else c1 j), C ++ r.1) := by
            rw [tk_cmp h4 (s5'.trans (hcp rfl)), relz_low (show 1 ≤ 2 by omega) s3', hT.resolve_left (by omega)]
          obtain ⟨s3, v1, v2, v3⟩ := j3 (hr r.2.1 :: W) 0 (fun j => if j = d1 then true else c1 j) (C ++ r.1) (tp_of (by omega)) (fun z => absurd z (by omega))
          refine ⟨s3, ?_, fun hok => ?_, v3⟩
          · show mrun hr (u.2.1 - a) a _ = some s3
            rw [mrun_then i1 (show r.2.1 ≤ u.2.1 by omega) t1, show u.2.1 - r.2.1 = (u.2.1 - (r.2.1 + 1)) + 1 by omega, mrun_step p1]
            exact v1
          · obtain ⟨q1, q2, q3, q4, q5, q6, q7, q8, q9⟩ := v2 hok
            have e5 : s3.2.2.2.2.1 d1 = true := (q5 (by omega)).trans (if_pos rfl)
            have e : SUC hr 0 d1 W cp C (r.1 ++ u.1 ++ [1000 + hr r.2.1]) u.2.1 s3 := by
              refine ⟨q1, q2, ?_, fun j hj => ?_, fun z => absurd rfl z, q6, fun z => ?_, fun z => ?_, fun _ _ => e5⟩
              · rw [relz_low (show 0 + 1 ≤ 2 by omega) q3, relz_y (by omega)]
                simp only [List.append_assoc]
              · exact (q4 j hj).trans ((if_neg (show ¬ j = d1 by omega)).trans (s4 j hj))
              · have := q7 z; omega
              · have := q8 z; omega
            exact e
        · rw [if_neg h4] at h2
          cases h2
          refine ⟨i1, i2, fun W dg cp C hT hcp => ?_⟩
          obtain ⟨s1, t1, t2, t3⟩ := i3 W dg cp C (tp_up hT (by omega) (by omega)) (fun z => absurd z (by omega))
          refine ⟨s1, t1, fun hok => ?_, t3⟩
          obtain ⟨q1, q2, q3, q4, q5, q6, q7, q8, q9⟩ := t2 hok
          exact ⟨q1, q2, relz_low (show 0 + 1 ≤ 2 by omega) q3, q4, fun z => absurd rfl z, q6, fun z => (by have := q7 z; omega), fun z => (by have := q8 z; omega), fun _ z => absurd z h4⟩
      · rw [if_neg h3] at h2
        cases h2
        refine ⟨i1, i2, fun W dg cp C hT hcp => ?_⟩
        obtain ⟨s1, t1, t2, t3⟩ := i3 W dg cp C (tp_up hT (by omega) (by omega)) (fun z => absurd z (by omega))
        exact ⟨s1, t1, fun z => absurd z h3, t3⟩
    | 3, _, h =>
      have h' := pz_3.symm.trans h
      by_cases h1 : hr a = 45
      · rw [if_pos h1] at h'
        have hal : a < lim := hlt fun z => big_ne (n := 45) (by omega) (z.symm.trans h1)
        obtain ⟨u, h5, h6⟩ := Option.bind_eq_some_iff.mp h'
        cases h6
        obtain ⟨j1, j2, j3⟩ := ih 3 deep (a + 1) u h5 (by omega) (by omega)
        refine ⟨by show a ≤ u.2.1; omega, j2, fun W dg cp C hT hcp => ?_⟩
        have p1 : tk (W, deep, dg, true, cp, C) (hr a) = some (126 :: W, deep, 0, true, cp, C) := by
          unfold tk
          rw [h1, if_neg (by decide)]
          rfl
        obtain ⟨s3, v1, v2, v3⟩ := j3 (126 :: W) 0 cp C (Or.inl rfl) (fun z => absurd z (by omega))
        refine ⟨s3, ?_, fun hok => ?_, v3⟩
        · show mrun hr (u.2.1 - a) a _ = some s3
          rw [show u.2.1 - a = (u.2.1 - (a + 1)) + 1 by omega, mrun_step p1]
          exact v1
        · obtain ⟨q1, q2, q3, q4, q5, q6, q7, q8, q9⟩ := v2 hok
          have e : SUC hr 3 deep W cp C (u.1 ++ [1126]) u.2.1 s3 := by
            refine ⟨q1, q2, ?_, q4, q5, q6, q7, q8, q9⟩
            rw [q3, relz_y (show 3 + 1 ≤ stg 126 by decide)]
            simp only [List.append_assoc]
          exact e
      · rw [if_neg h1] at h'
        by_cases h2 : hr a = 40 ∧ deep < 4
        · rw [if_pos h2] at h'
          have hal : a < lim := hlt fun z => big_ne (n := 40) (by omega) (z.symm.trans h2.1)
          obtain ⟨u, h5, h6⟩ := Option.bind_eq_some_iff.mp h'
          obtain ⟨j1, j2, j3⟩ := ih 0 (deep + 1) (a + 1) u h5 (by omega) (by omega)
          have pre : ∀ W dg cp C, tk (W, deep, dg, true, cp, C) (hr a) = some (40 :: W, deep + 1, 0, true, (fun j => if j = deep + 1 then false else cp j), C) := by
            intro W dg cp C
            unfold tk
            rw [h2.1, if_neg (by decide), if_pos (show (W, deep, dg, true, cp, C).2.2.2.1 = true from rfl), if_neg (by decide), if_pos (show 40 = 40 ∧ (W, deep, dg, true, cp, C).2.1 < 4 from ⟨rfl, h2.2⟩)]
          by_cases h3 : u.2.2 = true
          · rw [if_pos h3] at h6
            by_cases h4 : hr u.2.1 = 41
            · rw [if_pos h4] at h6
              cases h6
              have hbl : u.2.1 < lim := hlt fun z => big_ne (n := 41) (by omega) (z.symm.trans h4)
              refine ⟨by show a ≤ u.2.1 + 1; omega, by show u.2.1 + 1 ≤ lim; omega, fun W dg cp C hT hcp => ?_⟩
              obtain ⟨s3, v1, v2, v3⟩ := j3 (40 :: W) 0 (fun j => if j = deep + 1 then false else cp j) C (tp_of (by decide)) (fun _ => if_pos rfl)
              obtain ⟨W1, d1, g1, w1, c1, C1⟩ := s3
              obtain ⟨q1, q2, q3, q4, q5, q6, q7, q8, q9⟩ := v2 h3
              have q1' : d1 = deep + 1 := q1
              have q2' : w1 = false := q2
              subst q1' q2'
              have q3' : relz 1 W1 C1 = relz 1 (40 :: W) (C ++ u.1) := q3
              rw [relz_n (show ¬ 1 ≤ stg 40 by decide)] at q3'
              have p2 : tk (W1, deep + 1, g1, false, c1, C1) (hr u.2.1) = some (W, deep, 0, false, c1, C ++ u.1) := by
                unfold tk
                rw [h4, if_neg (by decide)]
                show (if (false : Bool) = true then _ else if (41 : Nat) = 41 ∧ 0 < deep + 1 then some ((relz 1 W1 C1).1.tail, deep + 1 - 1, 0, false, c1, (relz 1 W1 C1).2) else _) = _
                rw [if_neg (by decide), if_pos ⟨rfl, by omega⟩, q3']
                rfl
              refine ⟨(W, deep, 0, false, c1, C ++ u.1), ?_, fun _ => ?_, fun z => by cases z⟩
              · show mrun hr (u.2.1 + 1 - a) a _ = _
                rw [show u.2.1 + 1 - a = (u.2.1 + 1 - (a + 1)) + 1 by omega, mrun_step (pre W dg cp C), mrun_then j1 (show u.2.1 ≤ u.2.1 + 1 by omega) v1, show u.2.1 + 1 - u.2.1 = 0 + 1 by omega, mrun_step p2]
                rfl
              · have e : SUC hr 3 deep W cp C u.1 (u.2.1 + 1) (W, deep, 0, false, c1, C ++ u.1) := by
                  refine ⟨rfl, rfl, rfl, fun j hj => ?_, fun _ => ?_, fun _ => Or.inl rfl, fun _ => rfl, fun _ => (by omega), fun z => absurd z (by omega)⟩
                  · exact (q4 j (by omega)).trans (if_neg (show ¬ j = deep + 1 by omega))
                  · exact (q4 deep (by omega)).trans (if_neg (show ¬ deep = deep + 1 by omega))
                exact e
            · rw [if_neg h4] at h6
              cases h6
              refine ⟨by show a ≤ u.2.1; omega, j2, fun W dg cp C hT hcp => ?_⟩
              obtain ⟨s3, v1, v2, v3⟩ := j3 (40 :: W) 0 (fun j => if j = deep + 1 then false else cp j) C (tp_of (by decide)) (fun _ => if_pos rfl)
              have S := v2 h3
              refine ⟨s3, ?_, fun z => (by cases z), fun _ => ?_⟩
              · show mrun hr (u.2.1 - a) a _ = some s3
                rw [show u.2.1 - a = (u.2.1 - (a + 1)) + 1 by omega, mrun_step (pre W dg cp C)]
                exact v1
              · exact ⟨fun _ => stuck S (fun z => h4 z.1), fun _ => Or.inr (by rw [S.1]; omega)⟩
          · rw [if_neg h3] at h6
            cases h6
            refine ⟨by omega, j2, fun W dg cp C hT hcp => ?_⟩
            obtain ⟨s3, v1, v2, v3⟩ := j3 (40 :: W) 0 (fun j => if j = deep + 1 then false else cp j) C (tp_of (by decide)) (fun _ => if_pos rfl)
            refine ⟨s3, ?_, fun z => absurd z h3, v3⟩
            rw [show q.2.1 - a = (q.2.1 - (a + 1)) + 1 by omega, mrun_step (pre W dg cp C)]
            exact v1
        · rw [if_neg h2] at h'
          by_cases h3 : dgc (hr a) = true
          · rw [if_pos h3] at h'
            cases h'
            have hal : a < lim := hlt fun z => by rw [z, dgc_big] at h3; cases h3
            have dlt : ∀ {i : Nat}, dgc (hr i) = true → i < lim := fun hd => hlt fun z => by rw [z, dgc_big] at hd; cases hd
            refine ⟨by show a ≤ a + nlen hr a; omega, ?_, fun W dg cp C hT hcp => ?_⟩
            · show a + nlen hr a ≤ lim
              unfold nlen
              split
              · rename_i d1
                have := dlt d1
                split
                · rename_i d2
                  have := dlt d2
                  omega
                · omega
              · omega
            · have p1 := tk_num1 (W := W) (deep := deep) (dg := dg) (cp := cp) (C := C) h3
              show ∃ s, mrun hr (a + nlen hr a - a) a _ = some s ∧ (true = true → SUC hr 3 deep W cp C [nval hr a] (a + nlen hr a) s) ∧ (true = false → FLL hr lim (a + nlen hr a) s)
              have ok : ∀ (n dg v : Nat), (dgc (hr (a + n)) = true → dg = 0 ∨ dg = 3) → SUC hr 3 deep W cp C [v] (a + n) (W, deep, dg, false, cp, C ++ [v]) := fun n dg v hd => ⟨rfl, rfl, rfl, fun _ _ => rfl, fun _ => rfl, hd, fun _ => rfl, fun _ => (by omega), fun z => absurd z (by omega)⟩
              rw [Nat.add_sub_cancel_left]
              unfold nlen nval
              by_cases d1 : dgc (hr (a + 1)) = true
              · have p2 := tk_num2 (W := W) (deep := deep) (dg := 1) (cp := cp) (C := C) (v := hr a - 48) d1 (Or.inl rfl)
                simp only [if_pos d1]
                by_cases d2 : dgc (hr (a + 2)) = true
                · have p3 := tk_num2 (W := W) (deep := deep) (dg := 2) (cp := cp) (C := C) (v := 10 * (hr a - 48) + (hr (a + 1) - 48)) d2 (Or.inr rfl)
                  simp only [if_pos d2]
                  refine ⟨_, ?_, fun _ => ok 3 3 _ (fun _ => Or.inr rfl), fun z => by cases z⟩
                  rw [mrun_step p1, mrun_step p2]
                  show mrun hr (0 + 1) (a + 2) _ = _
                  rw [mrun_step p3]
                  rfl
                · simp only [if_neg d2]
                  refine ⟨_, ?_, fun _ => ok 2 2 _ (fun z => absurd z d2), fun z => by cases z⟩
                  rw [mrun_step p1, mrun_step p2]
                  rfl
              · simp only [if_neg d1]
                refine ⟨_, ?_, fun _ => ok 1 1 _ (fun z => absurd z d1), fun z => by cases z⟩
                rw [mrun_step p1]
                rfl
          · rw [if_neg h3] at h'
            by_cases h4 : ltc (hr a) = true
            · rw [if_pos h4] at h'
              cases h'
              have hal : a < lim := hlt fun z => big_ne (ltc_r h4) z.symm
              have p1 : ∀ W dg cp C, tk (W, deep, dg, true, cp, C) (hr a) = some (W, deep, 0, false, cp, C ++ [1000 + hr a]) := by
                intro W dg cp C
                unfold tk
                rw [if_neg h3]
                show (if hr a = 45 then _ else if hr a = 40 ∧ deep < 4 then _ else if ltc (hr a) = true then _ else none) = _
                rw [if_neg h1, if_neg h2, if_pos h4]
              refine ⟨by show a ≤ a + 1; omega, by show a + 1 ≤ lim; omega, fun W dg cp C hT hcp => ?_⟩
              refine ⟨(W, deep, 0, false, cp, C ++ [1000 + hr a]), ?_, fun _ => ?_, fun z => by cases z⟩
              · show mrun hr (a + 1 - a) a _ = _
                rw [show a + 1 - a = 0 + 1 by omega, mrun_step (p1 W dg cp C)]
                rfl
              · exact ⟨rfl, rfl, rfl, fun _ _ => rfl, fun _ => rfl, fun _ => Or.inl rfl, fun _ => rfl, fun _ => (by omega), fun z => absurd z (by omega)⟩
            · rw [if_neg h4] at h'
              cases h'
              refine ⟨Nat.le_refl _, ha, fun W dg cp C hT hcp => ?_⟩
              refine ⟨(W, deep, dg, true, cp, C), by rw [Nat.sub_self]; rfl, fun z => (by cases z), fun _ => ⟨fun _ => ?_, fun _ => Or.inl rfl⟩⟩
              show tk (W, deep, dg, true, cp, C) (hr a) = none
              unfold tk
              rw [if_neg h3]
              show (if hr a = 45 then _ else if hr a = 40 ∧ deep < 4 then _ else if ltc (hr a) = true then _ else none) = none
              rw [if_neg h1, if_neg h2, if_neg h4]
/-- it always comes to an end -/
theorem pz_some {hr : Nat → Nat} {lim : Nat} (hl : lim ≤ 100) (hb : ∀ i, lim ≤ i → hr i = BIG) : ∀ d k deep a, k ≤ 3 → a ≤ lim → 4 * (lim - a) + (3 - k) < d → ∃ q, pz hr d k deep a = some q := by
  have hlt : ∀ {a : Nat}, hr a ≠ BIG → a < lim := fun {a} h => by
    by_cases e : a < lim
    · exact e
    · exact absurd (hb a (by omega)) h
  intro d
  induction d with
  | zero => intro k deep a _ _ h; omega
  | succ d ih =>
    intro k deep a hk ha hd
    have loop : ∀ k, k = 1 ∨ k = 2 → 4 * (lim - a) + (3 - k) < d + 1 → ∀ n c b, a ≤ b → b ≤ lim → lim - b < n → ∃ q, pzl (pz hr d (k + 1) deep) (k + 1) hr n c b = some q := by
      intro k hk hd n
      induction n with
      | zero => intro c b _ _ h; omega
      | succ n ihn =>
        intro c b hb1 hb2 hn
        unfold pzl
        by_cases h1 : stg (hr b) = k + 1
        · rw [if_pos h1]
          have hal : b < lim := hlt fun z => by rw [z, stg_big] at h1; omega
          obtain ⟨r, hr1⟩ := ih (k + 1) deep (b + 1) (by omega) (by omega) (by omega)
          obtain ⟨i1, i2, -⟩ := sim hb d (k + 1) deep (b + 1) r hr1 (by omega) (by omega)
          rw [hr1]
          show ∃ q, (if r.2.2 = true then pzl (pz hr d (k + 1) deep) (k + 1) hr n (c ++ r.1 ++ [1000 + hr b]) r.2.1 else some (c, r.2.1, false)) = some q
          by_cases h2 : r.2.2 = true
          · rw [if_pos h2]
            exact ihn _ _ (by omega) i2 (by omega)
          · rw [if_neg h2]
            exact ⟨_, rfl⟩
        · rw [if_neg h1]
          exact ⟨_, rfl⟩
    have lev : ∀ k, k = 1 ∨ k = 2 → 4 * (lim - a) + (3 - k) < d + 1 → ∃ q, (pz hr d (k + 1) deep a).bind (fun q => if q.2.2 = true then pzl (pz hr d (k + 1) deep) (k + 1) hr LF q.1 q.2.1 else some q) = some q := by
      intro k hk hd
      obtain ⟨r, hr1⟩ := ih (k + 1) deep a (by omega) ha (by omega)
      obtain ⟨i1, i2, -⟩ := sim hb d (k + 1) deep a r hr1 (by omega) ha
      rw [hr1]
      show ∃ q, (if r.2.2 = true then pzl (pz hr d (k + 1) deep) (k + 1) hr LF r.1 r.2.1 else some r) = some q
      by_cases h2 : r.2.2 = true
      · rw [if_pos h2]
        exact loop k hk hd LF r.1 r.2.1 i1 i2 (show lim - r.2.1 < 4000 by omega)
      · rw [if_neg h2]
        exact ⟨_, rfl⟩
    match k, hk, hd with
    | 1, _, hd => rw [pz_1]; exact lev 1 (Or.inl rfl) hd
    | 2, _, hd => rw [pz_2]; exact lev 2 (Or.inr rfl) hd
    | 0, _, hd =>
      obtain ⟨r, hr1⟩ := ih 1 deep a (by omega) ha (by omega)
      obtain ⟨i1, i2, -⟩ := sim hb d 1 deep a r hr1 (by omega) ha
      rw [pz_0]
      rw [hr1]
      show ∃ q, (if r.2.2 = true then (if stg (hr r.2.1) = 1 then (pz hr d 1 deep (r.2.1 + 1)).bind fun u => some (r.1 ++ u.1 ++ [1000 + hr r.2.1], u.2.1, u.2.2) else some r) else some r) = some q
      by_cases h2 : r.2.2 = true
      · rw [if_pos h2]
        by_cases h3 : stg (hr r.2.1) = 1
        · rw [if_pos h3]
          have hal : r.2.1 < lim := hlt fun z => by rw [z, stg_big] at h3; omega
          obtain ⟨u, hu⟩ := ih 1 deep (r.2.1 + 1) (by omega) (by omega) (by omega)
          rw [hu]
          exact ⟨_, rfl⟩
        · rw [if_neg h3]
          exact ⟨_, rfl⟩
      · rw [if_neg h2]
        exact ⟨_, rfl⟩
    | 3, _, hd =>
      rw [pz_3]
      by_cases h1 : hr a = 45
      · rw [if_pos h1]
        have hal : a < lim := hlt fun z => big_ne (n := 45) (by omega) (z.symm.trans h1)
        obtain ⟨u, hu⟩ := ih 3 deep (a + 1) (by omega) (by omega) (by omega)
        rw [hu]
        exact ⟨_, rfl⟩
      · rw [if_neg h1]
        by_cases h2 : hr a = 40 ∧ deep < 4
        · rw [if_pos h2]
          have hal : a < lim := hlt fun z => big_ne (n := 40) (by omega) (z.symm.trans h2.1)
          obtain ⟨u, hu⟩ := ih 0 (deep + 1) (a + 1) (by omega) (by omega) (by omega)
          rw [hu]
          show ∃ q, (if u.2.2 = true then (if hr u.2.1 = 41 then some (u.1, u.2.1 + 1, true) else some (u.1, u.2.1, false)) else some u) = some q
          split
          · split
            · exact ⟨_, rfl⟩
            · exact ⟨_, rfl⟩
          · exact ⟨_, rfl⟩
        · rw [if_neg h2]
          split
          · exact ⟨_, rfl⟩
          · split
            · exact ⟨_, rfl⟩
            · exact ⟨_, rfl⟩
