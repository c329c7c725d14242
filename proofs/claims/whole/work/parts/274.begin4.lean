/-! the reference begins -/
def zS (i : Nat) : ST := fun f k => if f = 2 ∧ k < i then 4 else if (f = 4 ∨ f = 5) ∧ k < i then 24 else if f = 8 ∧ k < 24 ∧ ¬ k < i then 255 else 0
def zT (i : Nat) : ST := fun f k => if f = 0 ∧ k < i then 24 else zS 24 f k
theorem zS_as {a : Nat → Int32} (h : ∀ j, a j = 0) : AS a (zS 0) := by
  have z : ∀ f k, f ≠ 8 → zS 0 f k = 0 := fun f k hf => by
    unfold zS
    rw [if_neg (by omega), if_neg (by omega), if_neg (by omega)]
  refine ⟨fun o p ho hp => ?_, fun o ho => ?_, fun o ho => ?_, fun o ho => ?_, fun o ho => ?_, fun o ho => ?_, fun s hs => ?_, fun s hs => ?_, ?_⟩ <;> rw [h]
  · have e8 : zS 0 8 o = 255 := by
      unfold zS
      rw [if_neg (by omega), if_neg (by omega), if_pos ⟨rfl, ho, Nat.not_lt_zero o⟩]
    unfold pv
    rw [e8, tb_255, decide_eq_true hp, if_pos rfl, z _ _ (by decide)]
    rfl
  · rw [z _ _ (by decide)]; rfl
  · unfold pr
    rw [z _ _ (by decide)]; rfl
  · rw [z _ _ (by decide)]; rfl
  · rw [z _ _ (by decide)]; rfl
  · rw [z _ _ (by decide)]; rfl
  · rw [z _ _ (by decide)]; rfl
  · unfold sb
    rw [z _ _ (by decide), Nat.zero_testBit, if_neg (by decide)]
    rfl
  · rw [z _ _ (by decide)]; rfl
theorem zS_n {i f k : Nat} (h : f ≠ 2 ∧ f ≠ 4 ∧ f ≠ 5 ∧ f ≠ 8) : zS i f k = 0 := by
  unfold zS
  rw [if_neg (by omega), if_neg (by omega), if_neg (by omega)]
theorem zS_2 {i k : Nat} : zS i 2 k = if k < i then 4 else 0 := by
  unfold zS
  by_cases h : k < i
  · rw [if_pos ⟨rfl, h⟩, if_pos h]
  · rw [if_neg (by omega), if_neg (by omega), if_neg (by omega), if_neg h]
theorem zS_4 {i k : Nat} : zS i 4 k = if k < i then 24 else 0 := by
  unfold zS
  by_cases h : k < i
  · rw [if_neg (by omega), if_pos ⟨Or.inl rfl, h⟩, if_pos h]
  · rw [if_neg (by omega), if_neg (by omega), if_neg (by omega), if_neg h]
theorem zS_5 {i k : Nat} : zS i 5 k = if k < i then 24 else 0 := by
  unfold zS
  by_cases h : k < i
  · rw [if_neg (by omega), if_pos ⟨Or.inr rfl, h⟩, if_pos h]
  · rw [if_neg (by omega), if_neg (by omega), if_neg (by omega), if_neg h]
theorem zS_8 {i k : Nat} : zS i 8 k = if k < 24 ∧ ¬ k < i then 255 else 0 := by
  unfold zS
  by_cases h : k < 24 ∧ ¬ k < i
  · rw [if_neg (by omega), if_neg (by omega), if_pos ⟨rfl, h⟩, if_pos h]
  · rw [if_neg (by omega), if_neg (by omega), if_neg (fun z => h z.2), if_neg h]
theorem clr_n {σ : ST} {o f k : Nat} (h : f ≠ 2 ∧ f ≠ 3 ∧ f ≠ 4 ∧ f ≠ 5 ∧ f ≠ 7 ∧ f ≠ 8) : clrS σ o f k = σ f k := by
  unfold clrS
  rw [put_f (by omega), put_f (by omega), put_f (by omega), put_f (by omega), put_f (by omega), put_f (by omega)]
theorem clr_2 {σ : ST} {o k : Nat} : clrS σ o 2 k = if k = o then 4 else σ 2 k := by simp [clrS, put]
theorem clr_3 {σ : ST} {o k : Nat} : clrS σ o 3 k = if k = o then 0 else σ 3 k := by simp [clrS, put]
theorem clr_4 {σ : ST} {o k : Nat} : clrS σ o 4 k = if k = o then 24 else σ 4 k := by simp [clrS, put]
theorem clr_5 {σ : ST} {o k : Nat} : clrS σ o 5 k = if k = o then 24 else σ 5 k := by simp [clrS, put]
theorem clr_7 {σ : ST} {o k : Nat} : clrS σ o 7 k = if k = o then 0 else σ 7 k := by simp [clrS, put]
theorem clr_8 {σ : ST} {o k : Nat} : clrS σ o 8 k = if k = o then 0 else σ 8 k := by simp [clrS, put]
theorem zS_s {i : Nat} (hi : i < 24) : SE (clrS (zS i) i) (zS (i + 1)) := by
  have lt : ∀ k, (k < i + 1 ↔ k = i ∨ k < i) := fun k => by omega
  refine ⟨fun k => ?_, ⟨?_, ?_⟩, fun k => ?_, fun k => ?_, fun k => ?_, fun k => ?_, fun k => ?_, fun k => ?_, fun k => ?_⟩
  · rw [clr_n (by decide), zS_n (by decide), zS_n (by decide)]
  · rw [clr_n (by decide), zS_n (by decide), zS_n (by decide)]
  · rw [clr_n (by decide), zS_n (by decide), zS_n (by decide)]
  · rw [clr_2, zS_2, zS_2]
    by_cases a : k = i
    · rw [if_pos (by omega), if_pos a]
    · rw [if_neg a]
      by_cases b : k < i
      · rw [if_pos (by omega), if_pos b]
      · rw [if_neg (by omega), if_neg b]
  · rw [clr_3, zS_n (by decide), zS_n (by decide)]
    split <;> rfl
  · rw [clr_4, zS_4, zS_4]
    by_cases a : k = i
    · rw [if_pos (by omega), if_pos a]
    · rw [if_neg a]
      by_cases b : k < i
      · rw [if_pos (by omega), if_pos b]
      · rw [if_neg (by omega), if_neg b]
  · rw [clr_5, zS_5, zS_5]
    by_cases a : k = i
    · rw [if_pos (by omega), if_pos a]
    · rw [if_neg a]
      by_cases b : k < i
      · rw [if_pos (by omega), if_pos b]
      · rw [if_neg (by omega), if_neg b]
  · rw [clr_n (by decide), zS_n (by decide), zS_n (by decide)]
  · rw [clr_7, zS_n (by decide), zS_n (by decide)]
    split <;> rfl
  · rw [clr_8, zS_8, zS_8]
    by_cases a : k = i
    · rw [if_neg (by omega), if_pos a]
    · rw [if_neg a]
      by_cases b : k < 24 ∧ ¬ k < i
      · rw [if_pos (by omega), if_pos b]
      · rw [if_neg (by omega), if_neg b]
theorem zT_n {i f k : Nat} (h : f ≠ 0) : zT i f k = zS 24 f k := by
  unfold zT
  rw [if_neg (by omega)]
theorem zT_00 {i k : Nat} : zT i 0 k = if k < i then 24 else 0 := by
  unfold zT
  by_cases h : k < i
  · rw [if_pos ⟨rfl, h⟩, if_pos h]
  · rw [if_neg (by omega), if_neg h, zS_n (by decide)]
theorem zT_0 : SE (zS 24) (zT 0) := by
  refine ⟨fun k => ?_, ⟨?_, ?_⟩, fun k => ?_, fun k => ?_, fun k => ?_, fun k => ?_, fun k => ?_, fun k => ?_, fun k => ?_⟩
  · rw [zT_00, zS_n (by decide), if_neg (by omega)]
  all_goals exact zT_n (by decide)
theorem zT_s {i : Nat} : SE (put (zT i) 0 i 24) (zT (i + 1)) := by
  have n : ∀ f k, f ≠ 0 → zT (i + 1) f k = put (zT i) 0 i 24 f k := fun f k h => by rw [put_f h, zT_n h, zT_n h]
  refine ⟨fun k => ?_, ⟨n _ _ (by decide), n _ _ (by decide)⟩, fun k => n _ _ (by decide), fun k => n _ _ (by decide), fun k => n _ _ (by decide), fun k => n _ _ (by decide), fun k => n _ _ (by decide), fun k => n _ _ (by decide), fun k => n _ _ (by decide)⟩
  by_cases a : k = i
  · rw [a, put_eq, zT_00, if_pos (by omega)]
  · rw [put_k a, zT_00, zT_00]
    by_cases b : k < i
    · rw [if_pos (by omega), if_pos b]
    · rw [if_neg (by omega), if_neg b]
theorem w0_n {f k : Nat} (h : f ≠ 0 ∧ f ≠ 2 ∧ f ≠ 4 ∧ f ≠ 5) : w0 f k = 0 := by
  unfold w0
  rw [if_neg (by omega), if_neg (by omega), if_neg (by omega)]
theorem w0_0 {k : Nat} : w0 0 k = if k < 6 then 24 else 0 := by
  unfold w0
  by_cases h : k < 6
  · rw [if_pos ⟨rfl, h⟩, if_pos h]
  · rw [if_neg (by omega), if_neg (by omega), if_neg (by omega), if_neg h]
theorem w0_2 {k : Nat} : w0 2 k = if k < 24 then 4 else 0 := by
  unfold w0
  by_cases h : k < 24
  · rw [if_neg (by omega), if_pos ⟨rfl, h⟩, if_pos h]
  · rw [if_neg (by omega), if_neg (by omega), if_neg (by omega), if_neg h]
theorem w0_4 {k : Nat} : w0 4 k = if k < 24 then 24 else 0 := by
  unfold w0
  by_cases h : k < 24
  · rw [if_neg (by omega), if_neg (by omega), if_pos ⟨Or.inl rfl, h⟩, if_pos h]
  · rw [if_neg (by omega), if_neg (by omega), if_neg (by omega), if_neg h]
theorem w0_5 {k : Nat} : w0 5 k = if k < 24 then 24 else 0 := by
  unfold w0
  by_cases h : k < 24
  · rw [if_neg (by omega), if_neg (by omega), if_pos ⟨Or.inr rfl, h⟩, if_pos h]
  · rw [if_neg (by omega), if_neg (by omega), if_neg (by omega), if_neg h]
theorem zT_w : SE (zT 6) w0 := by
  refine ⟨fun k => ?_, ⟨?_, ?_⟩, fun k => ?_, fun k => ?_, fun k => ?_, fun k => ?_, fun k => ?_, fun k => ?_, fun k => ?_⟩
  · rw [zT_00, w0_0]
  · rw [zT_n (by decide), w0_n (by decide), zS_n (by decide)]
  · rw [zT_n (by decide), w0_n (by decide), zS_n (by decide)]
  · rw [zT_n (by decide), w0_2, zS_2]
  · rw [zT_n (by decide), w0_n (by decide), zS_n (by decide)]
  · rw [zT_n (by decide), w0_4, zS_4]
  · rw [zT_n (by decide), w0_5, zS_5]
  · rw [zT_n (by decide), w0_n (by decide), zS_n (by decide)]
  · rw [zT_n (by decide), w0_n (by decide), zS_n (by decide)]
  · rw [zT_n (by decide), w0_n (by decide), zS_8, if_neg (by omega)]
section RIN
variable {g : AH} {L : List Value}
theorem y_l172 : ∀ m q i (g : AH) (f : Nat → Int32), i + m = 325 → m < q → g.1 145 = some (.inr (11, L)) → L[0]? = some (.ref 146) → g.1 146 = some (.inl (0, 325, .inl f)) → (∀ j, f j = 0) → ∃ g' f', (∀ K : AH → Nat → Option AH, fX11_init_L172 K q g 145 (J i) = K g' 145) ∧ g'.1 146 = some (.inl (0, 325, .inl f')) ∧ (∀ j, f' j = 0) ∧ On (fun k => k = 146) g g'
  | 0, q + 1, i, g, f, e, _, c0, hL, c, hf => by
    refine ⟨g, f, fun K => ?_, c, hf, On.rf⟩
    rw [fX11_init_L172, if_pos (by rw [show (325 : Int32) = J 325 from rfl, J_le (by decide) (by omega)]; omega)]
  | m + 1, q + 1, i, g, f, e, hq', c0, hL, c, hf => by
    obtain ⟨g1, e1, c1, O1⟩ := wa_s c (show i < 325 by omega) (by decide) 0
    have O1' : On (fun k => k = 146) g g1 := O1.on1 rfl
    obtain ⟨g2, f2, d2, c2, h2, O2⟩ := y_l172 m q (i + 1) g1 _ (by omega) (by omega) ((O1'.2 145 (by decide)).trans c0) hL c1 (fun j => by
      show (if j = i then 0 else f j) = 0
      by_cases z : j = i
      · rw [if_pos z]
      · rw [if_neg z]; exact hf j)
    refine ⟨g2, f2, fun K => ?_, c2, h2, O1'.trans O2⟩
    have ei : J i + 1 = J (i + 1) := by rw [l_1, J_add]
    have r0 : gR g 11 145 0 = some 146 := gR_at c0 hL
    rw [fX11_init_L172, if_neg (fun y => by rw [show (325 : Int32) = J 325 from rfl, J_le (by decide) (by omega)] at y; omega), r0, Option.bind_some, e1, Option.bind_some]
    simp only [letF, ei]
    exact d2 K
theorem y_l194 : ∀ m q i (g : AH), i + m = 24 → m < q → g.1 145 = some (.inr (11, L)) → L[0]? = some (.ref 146) → RA g 146 (zS i) → ∃ g', (∀ K : AH → Nat → Option AH, fX11_init_L194 K q g 145 (J i) = K g' 145) ∧ RA g' 146 (zS 24) ∧ On (fun k => k = 146) g g'
  | 0, q + 1, i, g, e, _, c0, hL, R => by
    have : i = 24 := by omega
    subst this
    refine ⟨g, fun K => ?_, R, On.rf⟩
    rw [fX11_init_L194, if_pos (by rw [l_24, J_le (by decide) (by omega)]; omega)]
  | m + 1, q + 1, i, g, e, hq', c0, hL, R => by
    have h8 : zS i 8 i < 256 := by
      rw [zS_8]
      split <;> omega
    obtain ⟨g1, e1, R1, O1⟩ := m_clear R (show i < 24 by omega) h8
    have O1' : On (fun k => k = 146) g g1 := O1.on1 rfl
    obtain ⟨g2, d2, R2, O2⟩ := y_l194 m q (i + 1) g1 (by omega) (by omega) ((O1'.2 145 (by decide)).trans c0) hL (R1.cg (zS_s (by omega)))
    refine ⟨g2, fun K => ?_, R2, O1'.trans O2⟩
    have ei : J i + 1 = J (i + 1) := by rw [l_1, J_add]
    have r0 : gR g 11 145 0 = some 146 := gR_at c0 hL
    rw [fX11_init_L194, if_neg (fun y => by rw [l_24, J_le (by decide) (by omega)] at y; omega), r0, Option.bind_some, e1, Option.bind_some]
    simp only [letF, ei]
    exact d2 K
theorem y_l216 : ∀ m q i (g : AH), i + m = 6 → m < q → g.1 145 = some (.inr (11, L)) → L[0]? = some (.ref 146) → RA g 146 (zT i) → ∃ g', fX11_init_L216 q g 145 (J i) = some g' ∧ RA g' 146 (zT 6) ∧ On (fun k => k = 146) g g'
  | 0, q + 1, i, g, e, _, c0, hL, R => by
    have : i = 6 := by omega
    subst this
    refine ⟨g, ?_, R, On.rf⟩
    rw [fX11_init_L216, if_pos (by rw [l_6, J_le (by decide) (by omega)]; omega)]
  | m + 1, q + 1, i, g, e, hq', c0, hL, R => by
    obtain ⟨g1, e1, R1, O1⟩ := rw_tp R (show i < 6 by omega) 24
    have O1' : On (fun k => k = 146) g g1 := O1.on1 rfl
    obtain ⟨g2, d2, R2, O2⟩ := y_l216 m q (i + 1) g1 (by omega) (by omega) ((O1'.2 145 (by decide)).trans c0) hL (R1.cg zT_s)
    refine ⟨g2, ?_, R2, O1'.trans O2⟩
    have ei : J i + 1 = J (i + 1) := by rw [l_1, J_add]
    have r0 : gR g 11 145 0 = some 146 := gR_at c0 hL
    have e1' : sI g 0 146 (J (312 + i)) (J 4294967295) = some g1 := e1
    rw [fX11_init_L216, if_neg (fun y => by rw [l_6, J_le (by decide) (by omega)] at y; omega), r0, Option.bind_some, l_312, J_add, m1_J, e1', Option.bind_some]
    simp only [letF, ei]
    exact d2
end RIN
def MNw (g : AH) : Prop := g.1 145 = some (.inr (11, [.ref 146, .ref 147, .int 0, .ref 148, .int 0, .int 0, .null, .int 0, .int 0, .int 0, .int 0, .ref 149, .ref 150, .ref 151, .int 0, .int 0, .ref 152, .ref 153, .int 0, .ref 154, .ref 155, .int 0, .int 0, .ref 156, .ref 157, .ref 158, .int 0, .ref 159, .ref 160, .ref 161, .ref 162, .int 0, .ref 163, .int 0, .ref 164, .ref 165])) ∧ g.1 146 = some (.inl (0, newD 0 325)) ∧ g.1 147 = some (.inl (3, newD 3 80)) ∧ g.1 148 = some (.inl (1, newD 1 24)) ∧ g.1 149 = some (.inl (0, newD 0 8)) ∧ g.1 150 = some (.inl (3, newD 3 40)) ∧ g.1 151 = some (.inl (3, newD 3 40)) ∧ g.1 152 = some (.inl (0, newD 0 7)) ∧ g.1 153 = some (.inl (0, newD 0 2600)) ∧ g.1 154 = some (.inl (0, newD 0 325)) ∧ g.1 155 = some (.inl (0, newD 0 325)) ∧ g.1 156 = some (.inl (0, newD 0 320)) ∧ g.1 157 = some (.inl (0, newD 0 12)) ∧ g.1 158 = some (.inl (0, newD 0 12)) ∧ g.1 159 = some (.inl (4, newD 4 192)) ∧ g.1 160 = some (.inl (0, newD 0 10)) ∧ g.1 161 = some (.inl (0, newD 0 10)) ∧ g.1 162 = some (.inl (0, newD 0 10)) ∧ g.1 163 = some (.inl (0, newD 0 61)) ∧ g.1 164 = some (.inl (0, newD 0 650)) ∧ g.1 165 = some (.inl (4, newD 4 2))
section RIM
variable {h : AH} {tx : Nat → Nat} {us ks : Nat → ST} {ρ : Nat → Nat}
theorem mdl_new (e : h.1 145 = some (.inr (11, [.null, .null, .int 0, .null, .int 0, .int 0, .null, .int 0, .int 0, .int 0, .int 0, .null, .null, .null, .int 0, .int 0, .null, .null, .int 0, .null, .null, .int 0, .int 0, .null, .null, .null, .int 0, .null, .null, .null, .null, .int 0, .null, .int 0, .null, .null]))) (hw : h.2 = 146) : ∃ g, fX11_init h 145 = fX11_init_L172 (fun h51 x50 => fX11_init_L194 (fun h53 x52 => fX11_init_L216 FU h53 x52 0) FU h51 x50 0) FU g 145 0 ∧ MNw g ∧ g.2 = 166 ∧ Of (fun k => k = 145) h g := by

  obtain ⟨g1, e1, f1, c1, n1, O1⟩ := nw_fs e (by rw [hw]; decide) (k := 0) (show 0 < 36 by decide) (.inl (0, newD 0 325))
  rw [hw] at f1 c1 n1
  have F1s : g1.1 145 = some (.inr (11, [.ref 146, .null, .int 0, .null, .int 0, .int 0, .null, .int 0, .int 0, .int 0, .int 0, .null, .null, .null, .int 0, .int 0, .null, .null, .int 0, .null, .null, .int 0, .int 0, .null, .null, .null, .int 0, .null, .null, .null, .null, .int 0, .null, .int 0, .null, .null])) := f1
  obtain ⟨g2, e2, f2, c2, n2, O2⟩ := nw_fs F1s (by rw [n1]; decide) (k := 1) (show 1 < 36 by decide) (.inl (3, newD 3 80))
  rw [n1] at f2 c2 n2
  have F2s : g2.1 145 = some (.inr (11, [.ref 146, .ref 147, .int 0, .null, .int 0, .int 0, .null, .int 0, .int 0, .int 0, .int 0, .null, .null, .null, .int 0, .int 0, .null, .null, .int 0, .null, .null, .int 0, .int 0, .null, .null, .null, .int 0, .null, .null, .null, .null, .int 0, .null, .int 0, .null, .null])) := f2
  obtain ⟨g3, e3, f3, c3, n3, O3⟩ := nw_fs F2s (by rw [n2]; decide) (k := 3) (show 3 < 36 by decide) (.inl (1, newD 1 24))
  rw [n2] at f3 c3 n3
  have F3s : g3.1 145 = some (.inr (11, [.ref 146, .ref 147, .int 0, .ref 148, .int 0, .int 0, .null, .int 0, .int 0, .int 0, .int 0, .null, .null, .null, .int 0, .int 0, .null, .null, .int 0, .null, .null, .int 0, .int 0, .null, .null, .null, .int 0, .null, .null, .null, .null, .int 0, .null, .int 0, .null, .null])) := f3
  obtain ⟨g4, e4, f4, c4, n4, O4⟩ := nw_fs F3s (by rw [n3]; decide) (k := 11) (show 11 < 36 by decide) (.inl (0, newD 0 8))
  rw [n3] at f4 c4 n4
  have F4s : g4.1 145 = some (.inr (11, [.ref 146, .ref 147, .int 0, .ref 148, .int 0, .int 0, .null, .int 0, .int 0, .int 0, .int 0, .ref 149, .null, .null, .int 0, .int 0, .null, .null, .int 0, .null, .null, .int 0, .int 0, .null, .null, .null, .int 0, .null, .null, .null, .null, .int 0, .null, .int 0, .null, .null])) := f4
  obtain ⟨g5, e5, f5, c5, n5, O5⟩ := nw_fs F4s (by rw [n4]; decide) (k := 12) (show 12 < 36 by decide) (.inl (3, newD 3 40))
  rw [n4] at f5 c5 n5
  have F5s : g5.1 145 = some (.inr (11, [.ref 146, .ref 147, .int 0, .ref 148, .int 0, .int 0, .null, .int 0, .int 0, .int 0, .int 0, .ref 149, .ref 150, .null, .int 0, .int 0, .null, .null, .int 0, .null, .null, .int 0, .int 0, .null, .null, .null, .int 0, .null, .null, .null, .null, .int 0, .null, .int 0, .null, .null])) := f5
  obtain ⟨g6, e6, f6, c6, n6, O6⟩ := nw_fs F5s (by rw [n5]; decide) (k := 13) (show 13 < 36 by decide) (.inl (3, newD 3 40))
  rw [n5] at f6 c6 n6
  have F6s : g6.1 145 = some (.inr (11, [.ref 146, .ref 147, .int 0, .ref 148, .int 0, .int 0, .null, .int 0, .int 0, .int 0, .int 0, .ref 149, .ref 150, .ref 151, .int 0, .int 0, .null, .null, .int 0, .null, .null, .int 0, .int 0, .null, .null, .null, .int 0, .null, .null, .null, .null, .int 0, .null, .int 0, .null, .null])) := f6
  obtain ⟨g7, e7, f7, c7, n7, O7⟩ := nw_fs F6s (by rw [n6]; decide) (k := 16) (show 16 < 36 by decide) (.inl (0, newD 0 7))
  rw [n6] at f7 c7 n7
  have F7s : g7.1 145 = some (.inr (11, [.ref 146, .ref 147, .int 0, .ref 148, .int 0, .int 0, .null, .int 0, .int 0, .int 0, .int 0, .ref 149, .ref 150, .ref 151, .int 0, .int 0, .ref 152, .null, .int 0, .null, .null, .int 0, .int 0, .null, .null, .null, .int 0, .null, .null, .null, .null, .int 0, .null, .int 0, .null, .null])) := f7
  obtain ⟨g8, e8, f8, c8, n8, O8⟩ := nw_fs F7s (by rw [n7]; decide) (k := 17) (show 17 < 36 by decide) (.inl (0, newD 0 2600))
  rw [n7] at f8 c8 n8
  have F8s : g8.1 145 = some (.inr (11, [.ref 146, .ref 147, .int 0, .ref 148, .int 0, .int 0, .null, .int 0, .int 0, .int 0, .int 0, .ref 149, .ref 150, .ref 151, .int 0, .int 0, .ref 152, .ref 153, .int 0, .null, .null, .int 0, .int 0, .null, .null, .null, .int 0, .null, .null, .null, .null, .int 0, .null, .int 0, .null, .null])) := f8
  obtain ⟨g9, e9, f9, c9, n9, O9⟩ := nw_fs F8s (by rw [n8]; decide) (k := 19) (show 19 < 36 by decide) (.inl (0, newD 0 325))
  rw [n8] at f9 c9 n9
  have F9s : g9.1 145 = some (.inr (11, [.ref 146, .ref 147, .int 0, .ref 148, .int 0, .int 0, .null, .int 0, .int 0, .int 0, .int 0, .ref 149, .ref 150, .ref 151, .int 0, .int 0, .ref 152, .ref 153, .int 0, .ref 154, .null, .int 0, .int 0, .null, .null, .null, .int 0, .null, .null, .null, .null, .int 0, .null, .int 0, .null, .null])) := f9
  obtain ⟨g10, e10, f10, c10, n10, O10⟩ := nw_fs F9s (by rw [n9]; decide) (k := 20) (show 20 < 36 by decide) (.inl (0, newD 0 325))
  rw [n9] at f10 c10 n10
  have F10s : g10.1 145 = some (.inr (11, [.ref 146, .ref 147, .int 0, .ref 148, .int 0, .int 0, .null, .int 0, .int 0, .int 0, .int 0, .ref 149, .ref 150, .ref 151, .int 0, .int 0, .ref 152, .ref 153, .int 0, .ref 154, .ref 155, .int 0, .int 0, .null, .null, .null, .int 0, .null, .null, .null, .null, .int 0, .null, .int 0, .null, .null])) := f10
  obtain ⟨g11, e11, f11, c11, n11, O11⟩ := nw_fs F10s (by rw [n10]; decide) (k := 23) (show 23 < 36 by decide) (.inl (0, newD 0 320))
  rw [n10] at f11 c11 n11
  have F11s : g11.1 145 = some (.inr (11, [.ref 146, .ref 147, .int 0, .ref 148, .int 0, .int 0, .null, .int 0, .int 0, .int 0, .int 0, .ref 149, .ref 150, .ref 151, .int 0, .int 0, .ref 152, .ref 153, .int 0, .ref 154, .ref 155, .int 0, .int 0, .ref 156, .null, .null, .int 0, .null, .null, .null, .null, .int 0, .null, .int 0, .null, .null])) := f11
  obtain ⟨g12, e12, f12, c12, n12, O12⟩ := nw_fs F11s (by rw [n11]; decide) (k := 24) (show 24 < 36 by decide) (.inl (0, newD 0 12))
  rw [n11] at f12 c12 n12
  have F12s : g12.1 145 = some (.inr (11, [.ref 146, .ref 147, .int 0, .ref 148, .int 0, .int 0, .null, .int 0, .int 0, .int 0, .int 0, .ref 149, .ref 150, .ref 151, .int 0, .int 0, .ref 152, .ref 153, .int 0, .ref 154, .ref 155, .int 0, .int 0, .ref 156, .ref 157, .null, .int 0, .null, .null, .null, .null, .int 0, .null, .int 0, .null, .null])) := f12
  obtain ⟨g13, e13, f13, c13, n13, O13⟩ := nw_fs F12s (by rw [n12]; decide) (k := 25) (show 25 < 36 by decide) (.inl (0, newD 0 12))
  rw [n12] at f13 c13 n13
  have F13s : g13.1 145 = some (.inr (11, [.ref 146, .ref 147, .int 0, .ref 148, .int 0, .int 0, .null, .int 0, .int 0, .int 0, .int 0, .ref 149, .ref 150, .ref 151, .int 0, .int 0, .ref 152, .ref 153, .int 0, .ref 154, .ref 155, .int 0, .int 0, .ref 156, .ref 157, .ref 158, .int 0, .null, .null, .null, .null, .int 0, .null, .int 0, .null, .null])) := f13
  obtain ⟨g14, e14, f14, c14, n14, O14⟩ := nw_fs F13s (by rw [n13]; decide) (k := 27) (show 27 < 36 by decide) (.inl (4, newD 4 192))
  rw [n13] at f14 c14 n14
  have F14s : g14.1 145 = some (.inr (11, [.ref 146, .ref 147, .int 0, .ref 148, .int 0, .int 0, .null, .int 0, .int 0, .int 0, .int 0, .ref 149, .ref 150, .ref 151, .int 0, .int 0, .ref 152, .ref 153, .int 0, .ref 154, .ref 155, .int 0, .int 0, .ref 156, .ref 157, .ref 158, .int 0, .ref 159, .null, .null, .null, .int 0, .null, .int 0, .null, .null])) := f14
  obtain ⟨g15, e15, f15, c15, n15, O15⟩ := nw_fs F14s (by rw [n14]; decide) (k := 28) (show 28 < 36 by decide) (.inl (0, newD 0 10))
  rw [n14] at f15 c15 n15
  have F15s : g15.1 145 = some (.inr (11, [.ref 146, .ref 147, .int 0, .ref 148, .int 0, .int 0, .null, .int 0, .int 0, .int 0, .int 0, .ref 149, .ref 150, .ref 151, .int 0, .int 0, .ref 152, .ref 153, .int 0, .ref 154, .ref 155, .int 0, .int 0, .ref 156, .ref 157, .ref 158, .int 0, .ref 159, .ref 160, .null, .null, .int 0, .null, .int 0, .null, .null])) := f15
  obtain ⟨g16, e16, f16, c16, n16, O16⟩ := nw_fs F15s (by rw [n15]; decide) (k := 29) (show 29 < 36 by decide) (.inl (0, newD 0 10))
  rw [n15] at f16 c16 n16
  have F16s : g16.1 145 = some (.inr (11, [.ref 146, .ref 147, .int 0, .ref 148, .int 0, .int 0, .null, .int 0, .int 0, .int 0, .int 0, .ref 149, .ref 150, .ref 151, .int 0, .int 0, .ref 152, .ref 153, .int 0, .ref 154, .ref 155, .int 0, .int 0, .ref 156, .ref 157, .ref 158, .int 0, .ref 159, .ref 160, .ref 161, .null, .int 0, .null, .int 0, .null, .null])) := f16
  obtain ⟨g17, e17, f17, c17, n17, O17⟩ := nw_fs F16s (by rw [n16]; decide) (k := 30) (show 30 < 36 by decide) (.inl (0, newD 0 10))
  rw [n16] at f17 c17 n17
  have F17s : g17.1 145 = some (.inr (11, [.ref 146, .ref 147, .int 0, .ref 148, .int 0, .int 0, .null, .int 0, .int 0, .int 0, .int 0, .ref 149, .ref 150, .ref 151, .int 0, .int 0, .ref 152, .ref 153, .int 0, .ref 154, .ref 155, .int 0, .int 0, .ref 156, .ref 157, .ref 158, .int 0, .ref 159, .ref 160, .ref 161, .ref 162, .int 0, .null, .int 0, .null, .null])) := f17
  obtain ⟨g18, e18, f18, c18, n18, O18⟩ := nw_fs F17s (by rw [n17]; decide) (k := 32) (show 32 < 36 by decide) (.inl (0, newD 0 61))
  rw [n17] at f18 c18 n18
  have F18s : g18.1 145 = some (.inr (11, [.ref 146, .ref 147, .int 0, .ref 148, .int 0, .int 0, .null, .int 0, .int 0, .int 0, .int 0, .ref 149, .ref 150, .ref 151, .int 0, .int 0, .ref 152, .ref 153, .int 0, .ref 154, .ref 155, .int 0, .int 0, .ref 156, .ref 157, .ref 158, .int 0, .ref 159, .ref 160, .ref 161, .ref 162, .int 0, .ref 163, .int 0, .null, .null])) := f18
  obtain ⟨g19, e19, f19, c19, n19, O19⟩ := nw_fs F18s (by rw [n18]; decide) (k := 34) (show 34 < 36 by decide) (.inl (0, newD 0 650))
  rw [n18] at f19 c19 n19
  have F19s : g19.1 145 = some (.inr (11, [.ref 146, .ref 147, .int 0, .ref 148, .int 0, .int 0, .null, .int 0, .int 0, .int 0, .int 0, .ref 149, .ref 150, .ref 151, .int 0, .int 0, .ref 152, .ref 153, .int 0, .ref 154, .ref 155, .int 0, .int 0, .ref 156, .ref 157, .ref 158, .int 0, .ref 159, .ref 160, .ref 161, .ref 162, .int 0, .ref 163, .int 0, .ref 164, .null])) := f19
  obtain ⟨g20, e20, f20, c20, n20, O20⟩ := nw_fs F19s (by rw [n19]; decide) (k := 35) (show 35 < 36 by decide) (.inl (4, newD 4 2))
  rw [n19] at f20 c20 n20
  have F20s : g20.1 145 = some (.inr (11, [.ref 146, .ref 147, .int 0, .ref 148, .int 0, .int 0, .null, .int 0, .int 0, .int 0, .int 0, .ref 149, .ref 150, .ref 151, .int 0, .int 0, .ref 152, .ref 153, .int 0, .ref 154, .ref 155, .int 0, .int 0, .ref 156, .ref 157, .ref 158, .int 0, .ref 159, .ref 160, .ref 161, .ref 162, .int 0, .ref 163, .int 0, .ref 164, .ref 165])) := f20
  have F : g20.1 145 = some (.inr (11, [.ref 146, .ref 147, .int 0, .ref 148, .int 0, .int 0, .null, .int 0, .int 0, .int 0, .int 0, .ref 149, .ref 150, .ref 151, .int 0, .int 0, .ref 152, .ref 153, .int 0, .ref 154, .ref 155, .int 0, .int 0, .ref 156, .ref 157, .ref 158, .int 0, .ref 159, .ref 160, .ref 161, .ref 162, .int 0, .ref 163, .int 0, .ref 164, .ref 165])) := F20s
  have a1 := (O20.2 146 (by rw [n19]; decide) (by decide)).trans ((O19.2 146 (by rw [n18]; decide) (by decide)).trans ((O18.2 146 (by rw [n17]; decide) (by decide)).trans ((O17.2 146 (by rw [n16]; decide) (by decide)).trans ((O16.2 146 (by rw [n15]; decide) (by decide)).trans ((O15.2 146 (by rw [n14]; decide) (by decide)).trans ((O14.2 146 (by rw [n13]; decide) (by decide)).trans ((O13.2 146 (by rw [n12]; decide) (by decide)).trans ((O12.2 146 (by rw [n11]; decide) (by decide)).trans ((O11.2 146 (by rw [n10]; decide) (by decide)).trans ((O10.2 146 (by rw [n9]; decide) (by decide)).trans ((O9.2 146 (by rw [n8]; decide) (by decide)).trans ((O8.2 146 (by rw [n7]; decide) (by decide)).trans ((O7.2 146 (by rw [n6]; decide) (by decide)).trans ((O6.2 146 (by rw [n5]; decide) (by decide)).trans ((O5.2 146 (by rw [n4]; decide) (by decide)).trans ((O4.2 146 (by rw [n3]; decide) (by decide)).trans ((O3.2 146 (by rw [n2]; decide) (by decide)).trans ((O2.2 146 (by rw [n1]; decide) (by decide)).trans c1))))))))))))))))))
  have a2 := (O20.2 147 (by rw [n19]; decide) (by decide)).trans ((O19.2 147 (by rw [n18]; decide) (by decide)).trans ((O18.2 147 (by rw [n17]; decide) (by decide)).trans ((O17.2 147 (by rw [n16]; decide) (by decide)).trans ((O16.2 147 (by rw [n15]; decide) (by decide)).trans ((O15.2 147 (by rw [n14]; decide) (by decide)).trans ((O14.2 147 (by rw [n13]; decide) (by decide)).trans ((O13.2 147 (by rw [n12]; decide) (by decide)).trans ((O12.2 147 (by rw [n11]; decide) (by decide)).trans ((O11.2 147 (by rw [n10]; decide) (by decide)).trans ((O10.2 147 (by rw [n9]; decide) (by decide)).trans ((O9.2 147 (by rw [n8]; decide) (by decide)).trans ((O8.2 147 (by rw [n7]; decide) (by decide)).trans ((O7.2 147 (by rw [n6]; decide) (by decide)).trans ((O6.2 147 (by rw [n5]; decide) (by decide)).trans ((O5.2 147 (by rw [n4]; decide) (by decide)).trans ((O4.2 147 (by rw [n3]; decide) (by decide)).trans ((O3.2 147 (by rw [n2]; decide) (by decide)).trans c2)))))))))))))))))
  have a3 := (O20.2 148 (by rw [n19]; decide) (by decide)).trans ((O19.2 148 (by rw [n18]; decide) (by decide)).trans ((O18.2 148 (by rw [n17]; decide) (by decide)).trans ((O17.2 148 (by rw [n16]; decide) (by decide)).trans ((O16.2 148 (by rw [n15]; decide) (by decide)).trans ((O15.2 148 (by rw [n14]; decide) (by decide)).trans ((O14.2 148 (by rw [n13]; decide) (by decide)).trans ((O13.2 148 (by rw [n12]; decide) (by decide)).trans ((O12.2 148 (by rw [n11]; decide) (by decide)).trans ((O11.2 148 (by rw [n10]; decide) (by decide)).trans ((O10.2 148 (by rw [n9]; decide) (by decide)).trans ((O9.2 148 (by rw [n8]; decide) (by decide)).trans ((O8.2 148 (by rw [n7]; decide) (by decide)).trans ((O7.2 148 (by rw [n6]; decide) (by decide)).trans ((O6.2 148 (by rw [n5]; decide) (by decide)).trans ((O5.2 148 (by rw [n4]; decide) (by decide)).trans ((O4.2 148 (by rw [n3]; decide) (by decide)).trans c3))))))))))))))))
  have a4 := (O20.2 149 (by rw [n19]; decide) (by decide)).trans ((O19.2 149 (by rw [n18]; decide) (by decide)).trans ((O18.2 149 (by rw [n17]; decide) (by decide)).trans ((O17.2 149 (by rw [n16]; decide) (by decide)).trans ((O16.2 149 (by rw [n15]; decide) (by decide)).trans ((O15.2 149 (by rw [n14]; decide) (by decide)).trans ((O14.2 149 (by rw [n13]; decide) (by decide)).trans ((O13.2 149 (by rw [n12]; decide) (by decide)).trans ((O12.2 149 (by rw [n11]; decide) (by decide)).trans ((O11.2 149 (by rw [n10]; decide) (by decide)).trans ((O10.2 149 (by rw [n9]; decide) (by decide)).trans ((O9.2 149 (by rw [n8]; decide) (by decide)).trans ((O8.2 149 (by rw [n7]; decide) (by decide)).trans ((O7.2 149 (by rw [n6]; decide) (by decide)).trans ((O6.2 149 (by rw [n5]; decide) (by decide)).trans ((O5.2 149 (by rw [n4]; decide) (by decide)).trans c4)))))))))))))))
  have a5 := (O20.2 150 (by rw [n19]; decide) (by decide)).trans ((O19.2 150 (by rw [n18]; decide) (by decide)).trans ((O18.2 150 (by rw [n17]; decide) (by decide)).trans ((O17.2 150 (by rw [n16]; decide) (by decide)).trans ((O16.2 150 (by rw [n15]; decide) (by decide)).trans ((O15.2 150 (by rw [n14]; decide) (by decide)).trans ((O14.2 150 (by rw [n13]; decide) (by decide)).trans ((O13.2 150 (by rw [n12]; decide) (by decide)).trans ((O12.2 150 (by rw [n11]; decide) (by decide)).trans ((O11.2 150 (by rw [n10]; decide) (by decide)).trans ((O10.2 150 (by rw [n9]; decide) (by decide)).trans ((O9.2 150 (by rw [n8]; decide) (by decide)).trans ((O8.2 150 (by rw [n7]; decide) (by decide)).trans ((O7.2 150 (by rw [n6]; decide) (by decide)).trans ((O6.2 150 (by rw [n5]; decide) (by decide)).trans c5))))))))))))))
  have a6 := (O20.2 151 (by rw [n19]; decide) (by decide)).trans ((O19.2 151 (by rw [n18]; decide) (by decide)).trans ((O18.2 151 (by rw [n17]; decide) (by decide)).trans ((O17.2 151 (by rw [n16]; decide) (by decide)).trans ((O16.2 151 (by rw [n15]; decide) (by decide)).trans ((O15.2 151 (by rw [n14]; decide) (by decide)).trans ((O14.2 151 (by rw [n13]; decide) (by decide)).trans ((O13.2 151 (by rw [n12]; decide) (by decide)).trans ((O12.2 151 (by rw [n11]; decide) (by decide)).trans ((O11.2 151 (by rw [n10]; decide) (by decide)).trans ((O10.2 151 (by rw [n9]; decide) (by decide)).trans ((O9.2 151 (by rw [n8]; decide) (by decide)).trans ((O8.2 151 (by rw [n7]; decide) (by decide)).trans ((O7.2 151 (by rw [n6]; decide) (by decide)).trans c6)))))))))))))
  have a7 := (O20.2 152 (by rw [n19]; decide) (by decide)).trans ((O19.2 152 (by rw [n18]; decide) (by decide)).trans ((O18.2 152 (by rw [n17]; decide) (by decide)).trans ((O17.2 152 (by rw [n16]; decide) (by decide)).trans ((O16.2 152 (by rw [n15]; decide) (by decide)).trans ((O15.2 152 (by rw [n14]; decide) (by decide)).trans ((O14.2 152 (by rw [n13]; decide) (by decide)).trans ((O13.2 152 (by rw [n12]; decide) (by decide)).trans ((O12.2 152 (by rw [n11]; decide) (by decide)).trans ((O11.2 152 (by rw [n10]; decide) (by decide)).trans ((O10.2 152 (by rw [n9]; decide) (by decide)).trans ((O9.2 152 (by rw [n8]; decide) (by decide)).trans ((O8.2 152 (by rw [n7]; decide) (by decide)).trans c7))))))))))))
  have a8 := (O20.2 153 (by rw [n19]; decide) (by decide)).trans ((O19.2 153 (by rw [n18]; decide) (by decide)).trans ((O18.2 153 (by rw [n17]; decide) (by decide)).trans ((O17.2 153 (by rw [n16]; decide) (by decide)).trans ((O16.2 153 (by rw [n15]; decide) (by decide)).trans ((O15.2 153 (by rw [n14]; decide) (by decide)).trans ((O14.2 153 (by rw [n13]; decide) (by decide)).trans ((O13.2 153 (by rw [n12]; decide) (by decide)).trans ((O12.2 153 (by rw [n11]; decide) (by decide)).trans ((O11.2 153 (by rw [n10]; decide) (by decide)).trans ((O10.2 153 (by rw [n9]; decide) (by decide)).trans ((O9.2 153 (by rw [n8]; decide) (by decide)).trans c8)))))))))))
  have a9 := (O20.2 154 (by rw [n19]; decide) (by decide)).trans ((O19.2 154 (by rw [n18]; decide) (by decide)).trans ((O18.2 154 (by rw [n17]; decide) (by decide)).trans ((O17.2 154 (by rw [n16]; decide) (by decide)).trans ((O16.2 154 (by rw [n15]; decide) (by decide)).trans ((O15.2 154 (by rw [n14]; decide) (by decide)).trans ((O14.2 154 (by rw [n13]; decide) (by decide)).trans ((O13.2 154 (by rw [n12]; decide) (by decide)).trans ((O12.2 154 (by rw [n11]; decide) (by decide)).trans ((O11.2 154 (by rw [n10]; decide) (by decide)).trans ((O10.2 154 (by rw [n9]; decide) (by decide)).trans c9))))))))))
  have a10 := (O20.2 155 (by rw [n19]; decide) (by decide)).trans ((O19.2 155 (by rw [n18]; decide) (by decide)).trans ((O18.2 155 (by rw [n17]; decide) (by decide)).trans ((O17.2 155 (by rw [n16]; decide) (by decide)).trans ((O16.2 155 (by rw [n15]; decide) (by decide)).trans ((O15.2 155 (by rw [n14]; decide) (by decide)).trans ((O14.2 155 (by rw [n13]; decide) (by decide)).trans ((O13.2 155 (by rw [n12]; decide) (by decide)).trans ((O12.2 155 (by rw [n11]; decide) (by decide)).trans ((O11.2 155 (by rw [n10]; decide) (by decide)).trans c10)))))))))
  have a11 := (O20.2 156 (by rw [n19]; decide) (by decide)).trans ((O19.2 156 (by rw [n18]; decide) (by decide)).trans ((O18.2 156 (by rw [n17]; decide) (by decide)).trans ((O17.2 156 (by rw [n16]; decide) (by decide)).trans ((O16.2 156 (by rw [n15]; decide) (by decide)).trans ((O15.2 156 (by rw [n14]; decide) (by decide)).trans ((O14.2 156 (by rw [n13]; decide) (by decide)).trans ((O13.2 156 (by rw [n12]; decide) (by decide)).trans ((O12.2 156 (by rw [n11]; decide) (by decide)).trans c11))))))))
  have a12 := (O20.2 157 (by rw [n19]; decide) (by decide)).trans ((O19.2 157 (by rw [n18]; decide) (by decide)).trans ((O18.2 157 (by rw [n17]; decide) (by decide)).trans ((O17.2 157 (by rw [n16]; decide) (by decide)).trans ((O16.2 157 (by rw [n15]; decide) (by decide)).trans ((O15.2 157 (by rw [n14]; decide) (by decide)).trans ((O14.2 157 (by rw [n13]; decide) (by decide)).trans ((O13.2 157 (by rw [n12]; decide) (by decide)).trans c12)))))))
  have a13 := (O20.2 158 (by rw [n19]; decide) (by decide)).trans ((O19.2 158 (by rw [n18]; decide) (by decide)).trans ((O18.2 158 (by rw [n17]; decide) (by decide)).trans ((O17.2 158 (by rw [n16]; decide) (by decide)).trans ((O16.2 158 (by rw [n15]; decide) (by decide)).trans ((O15.2 158 (by rw [n14]; decide) (by decide)).trans ((O14.2 158 (by rw [n13]; decide) (by decide)).trans c13))))))
  have a14 := (O20.2 159 (by rw [n19]; decide) (by decide)).trans ((O19.2 159 (by rw [n18]; decide) (by decide)).trans ((O18.2 159 (by rw [n17]; decide) (by decide)).trans ((O17.2 159 (by rw [n16]; decide) (by decide)).trans ((O16.2 159 (by rw [n15]; decide) (by decide)).trans ((O15.2 159 (by rw [n14]; decide) (by decide)).trans c14)))))
  have a15 := (O20.2 160 (by rw [n19]; decide) (by decide)).trans ((O19.2 160 (by rw [n18]; decide) (by decide)).trans ((O18.2 160 (by rw [n17]; decide) (by decide)).trans ((O17.2 160 (by rw [n16]; decide) (by decide)).trans ((O16.2 160 (by rw [n15]; decide) (by decide)).trans c15))))
  have a16 := (O20.2 161 (by rw [n19]; decide) (by decide)).trans ((O19.2 161 (by rw [n18]; decide) (by decide)).trans ((O18.2 161 (by rw [n17]; decide) (by decide)).trans ((O17.2 161 (by rw [n16]; decide) (by decide)).trans c16)))
  have a17 := (O20.2 162 (by rw [n19]; decide) (by decide)).trans ((O19.2 162 (by rw [n18]; decide) (by decide)).trans ((O18.2 162 (by rw [n17]; decide) (by decide)).trans c17))
  have a18 := (O20.2 163 (by rw [n19]; decide) (by decide)).trans ((O19.2 163 (by rw [n18]; decide) (by decide)).trans c18)
  have a19 := (O20.2 164 (by rw [n19]; decide) (by decide)).trans c19
  have a20 := c20
  have OO : Of (fun k => k = 145) h g20 := (((((((((((((((((((O1).trans O2).trans O3).trans O4).trans O5).trans O6).trans O7).trans O8).trans O9).trans O10).trans O11).trans O12).trans O13).trans O14).trans O15).trans O16).trans O17).trans O18).trans O19).trans O20
  refine ⟨g20, (e1 _).trans ((e2 _).trans ((e3 _).trans ((e4 _).trans ((e5 _).trans ((e6 _).trans ((e7 _).trans ((e8 _).trans ((e9 _).trans ((e10 _).trans ((e11 _).trans ((e12 _).trans ((e13 _).trans ((e14 _).trans ((e15 _).trans ((e16 _).trans ((e17 _).trans ((e18 _).trans ((e19 _).trans ((e20 _).trans (rfl)))))))))))))))))))), ⟨F20s, a1, a2, a3, a4, a5, a6, a7, a8, a9, a10, a11, a12, a13, a14, a15, a16, a17, a18, a19, a20⟩, n20, OO⟩
theorem mdl_init (e : h.1 145 = some (.inr (11, [.null, .null, .int 0, .null, .int 0, .int 0, .null, .int 0, .int 0, .int 0, .int 0, .null, .null, .null, .int 0, .int 0, .null, .null, .int 0, .null, .null, .int 0, .int 0, .null, .null, .null, .int 0, .null, .null, .null, .null, .int 0, .null, .int 0, .null, .null]))) (hw : h.2 = 146) : ∃ g, fX11_init h 145 = some g ∧ MIv g tx 0 w0 0 us (fun _ => false) ks ρ 0 [] [] [] ∧ g.2 = 166 ∧ Of (fun k => k = 145) h g := by
  obtain ⟨g0, e0, ⟨F, a1, a2, a3, a4, a5, a6, a7, a8, a9, a10, a11, a12, a13, a14, a15, a16, a17, a18, a19, a20⟩, n0, OO⟩ := mdl_new e hw
  obtain ⟨p1, u1, d1, b1, hu1, Q1⟩ := y_l172 325 FU 0 g0 (fun _ => 0) rfl (FU_gt (by decide)) F rfl a1 (fun j => rfl)
  have R1 : RA p1 146 (zS 0) := ⟨u1, b1, zS_as hu1⟩
  have F1 := (Q1.2 145 (by decide)).trans F
  obtain ⟨p2, d2, R2, Q2⟩ := y_l194 24 FU 0 p1 rfl (FU_gt (by decide)) F1 rfl R1
  have F2 := (Q2.2 145 (by decide)).trans F1
  obtain ⟨p3, d3, R3, Q3⟩ := y_l216 6 FU 0 p2 rfl (FU_gt (by decide)) F2 rfl (R2.cg zT_0)
  have F3 := (Q3.2 145 (by decide)).trans F2
  have Q := (Q1.trans Q2).trans Q3
  have tr : ∀ k, k ≠ 146 → p3.1 k = g0.1 k := fun k hk => Q.2 k hk
  have d1' : ∀ K : AH → Nat → Option AH, fX11_init_L172 K FU g0 145 0 = K p1 145 := fun K => d1 K
  have d2' : ∀ K : AH → Nat → Option AH, fX11_init_L194 K FU p1 145 0 = K p2 145 := fun K => d2 K
  have d3' : fX11_init_L216 FU p2 145 0 = some p3 := d3
  refine ⟨p3, e0.trans ((d1' _).trans ((d2' _).trans d3')), ?_, by rw [Q.1]; exact n0, ⟨by rw [Q.1]; exact OO.1, fun k hk hp => (Q.2 k (fun z => by rw [z, hw] at hk; exact absurd hk (by decide))).trans (OO.2 k hk hp)⟩⟩
  have mo : MO p3 0 0 0 0 0 0 := by
    refine ⟨_, obj_of F3 (N := 36) rfl, ⟨fun k r hk => ?_, rfl, rfl, rfl, rfl, rfl, rfl⟩⟩
    unfold mref at hk
    by_cases z0 : k = 0
    · subst z0
      rw [if_pos rfl] at hk
      cases hk
      rfl
    rw [if_neg z0] at hk
    by_cases z1 : k = 1
    · subst z1
      rw [if_pos rfl] at hk
      cases hk
      rfl
    rw [if_neg z1] at hk
    by_cases z3 : k = 3
    · subst z3
      rw [if_pos rfl] at hk
      cases hk
      rfl
    rw [if_neg z3] at hk
    by_cases z11 : k = 11
    · subst z11
      rw [if_pos rfl] at hk
      cases hk
      rfl
    rw [if_neg z11] at hk
    by_cases z12 : k = 12
    · subst z12
      rw [if_pos rfl] at hk
      cases hk
      rfl
    rw [if_neg z12] at hk
    by_cases z13 : k = 13
    · subst z13
      rw [if_pos rfl] at hk
      cases hk
      rfl
    rw [if_neg z13] at hk
    by_cases z16 : k = 16
    · subst z16
      rw [if_pos rfl] at hk
      cases hk
      rfl
    rw [if_neg z16] at hk
    by_cases z17 : k = 17
    · subst z17
      rw [if_pos rfl] at hk
      cases hk
      rfl
    rw [if_neg z17] at hk
    by_cases z19 : k = 19
    · subst z19
      rw [if_pos rfl] at hk
      cases hk
      rfl
    rw [if_neg z19] at hk
    by_cases z20 : k = 20
    · subst z20
      rw [if_pos rfl] at hk
      cases hk
      rfl
    rw [if_neg z20] at hk
    by_cases z23 : k = 23
    · subst z23
      rw [if_pos rfl] at hk
      cases hk
      rfl
    rw [if_neg z23] at hk
    by_cases z24 : k = 24
    · subst z24
      rw [if_pos rfl] at hk
      cases hk
      rfl
    rw [if_neg z24] at hk
    by_cases z25 : k = 25
    · subst z25
      rw [if_pos rfl] at hk
      cases hk
      rfl
    rw [if_neg z25] at hk
    by_cases z27 : k = 27
    · subst z27
      rw [if_pos rfl] at hk
      cases hk
      rfl
    rw [if_neg z27] at hk
    by_cases z28 : k = 28
    · subst z28
      rw [if_pos rfl] at hk
      cases hk
      rfl
    rw [if_neg z28] at hk
    by_cases z29 : k = 29
    · subst z29
      rw [if_pos rfl] at hk
      cases hk
      rfl
    rw [if_neg z29] at hk
    by_cases z30 : k = 30
    · subst z30
      rw [if_pos rfl] at hk
      cases hk
      rfl
    rw [if_neg z30] at hk
    by_cases z32 : k = 32
    · subst z32
      rw [if_pos rfl] at hk
      cases hk
      rfl
    rw [if_neg z32] at hk
    by_cases z34 : k = 34
    · subst z34
      rw [if_pos rfl] at hk
      cases hk
      rfl
    rw [if_neg z34] at hk
    by_cases z35 : k = 35
    · subst z35
      rw [if_pos rfl] at hk
      cases hk
      rfl
    rw [if_neg z35] at hk
    cases hk
  have ce : MCe p3 := ⟨⟨_, (tr 149 (by decide)).trans a4⟩, ⟨_, (tr 151 (by decide)).trans a6⟩, ⟨_, (tr 152 (by decide)).trans a7⟩, ⟨_, (tr 154 (by decide)).trans a9⟩, ⟨_, (tr 155 (by decide)).trans a10⟩, ⟨_, (tr 156 (by decide)).trans a11⟩, ⟨_, (tr 159 (by decide)).trans a14⟩, ⟨_, (tr 163 (by decide)).trans a18⟩⟩
  refine ⟨mo, ⟨by decide, _, (tr 147 (by decide)).trans a2, fun i hi => absurd hi (Nat.not_lt_zero i)⟩, R3.cg zT_w, ⟨by decide, _, (tr 153 (by decide)).trans a8, fun i hi => absurd hi (Nat.not_lt_zero i)⟩, ⟨⟨_, (tr 164 (by decide)).trans a19, fun j _ z => by cases z⟩, _, (tr 165 (by decide)).trans a20, fun j _ => rfl⟩, ⟨by decide, _, (tr 150 (by decide)).trans a5, fun i hi => absurd hi (Nat.not_lt_zero i)⟩, ⟨by decide, _, (tr 148 (by decide)).trans a3, fun i x hx => by cases hx⟩, ⟨by decide, _, _, (tr 157 (by decide)).trans a12, (tr 158 (by decide)).trans a13, fun i x hx => by cases hx⟩, ⟨by decide, _, _, _, (tr 160 (by decide)).trans a15, (tr 161 (by decide)).trans a16, (tr 162 (by decide)).trans a17, fun i x hx => by cases hx⟩, ce⟩
end RIM
