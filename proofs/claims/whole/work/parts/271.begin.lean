/-! how both begin -/
abbrev W9 : List Value := [.int 0, .int 0, .int 0, .int 0, .null, .null, .null, .null, .null, .null, .null, .null, .int 0, .int 0]
def w0 : ST := fun f k => if f = 0 ∧ k < 6 then 24 else if f = 2 ∧ k < 24 then 4 else if (f = 4 ∨ f = 5) ∧ k < 24 then 24 else 0
theorem Of.trans {P : Nat → Prop} {h g k : AH} (a : Of P h g) (b : Of P g k) : Of P h k := ⟨Nat.le_trans a.1 b.1, fun i hi hp => (b.2 i (Nat.lt_of_lt_of_le hi a.1) hp).trans (a.2 i hi hp)⟩
theorem Of.mono {P Q : Nat → Prop} {h g : AH} (a : Of P h g) (i : ∀ k, k < h.2 → P k → Q k) : Of Q h g := ⟨a.1, fun k hk hq => a.2 k hk (fun z => hq (i k hk z))⟩
theorem Of.on {P : Nat → Prop} {h g : AH} (O : Of P h g) : On (fun k => P k ∨ h.2 ≤ k) h (g.1, h.2) := ⟨rfl, fun k hk => O.2 k (by have := fun z => hk (Or.inr z); omega) (fun z => hk (Or.inl z))⟩
theorem nw_o {h : AH} (x : AE) : (hnew h x).1 h.2 = some x ∧ (hnew h x).2 = h.2 + 1 ∧ Of (fun _ => False) h (hnew h x) := ⟨va_up_self _ _ _, rfl, Nat.le_succ _, fun k hk _ => va_up_ne _ _ (by omega)⟩
theorem nw_fs {h : AH} {c a : Nat} {fs : List Value} (e : h.1 a = some (.inr (c, fs))) (ha : a < h.2) {k : Nat} (hk : k < fs.length) (x : AE) : ∃ g, (∀ {β : Type} (K : AH → Option β), (letF (hnew h x) fun h1 => (pF h1 c a k (.ref h.2)).bind K) = K g) ∧ g.1 a = some (.inr (c, fs.set k (.ref h.2))) ∧ g.1 h.2 = some x ∧ g.2 = h.2 + 1 ∧ Of (fun k => k = a) h g := by
  obtain ⟨q1, q2, q3⟩ := nw_o (h := h) x
  have e1 : (hnew h x).1 a = some (.inr (c, fs)) := (q3.2 a ha id).trans e
  refine ⟨hset (hnew h x) a (.inr (c, fs.set k (.ref h.2))), fun K => ?_, hset_eq, (hset_ne (by omega)).trans q1, rfl, Nat.le_succ _, fun i hi hp => (hset_ne hp).trans (q3.2 i hi id)⟩
  show (pF (hnew h x) c a k (.ref h.2)).bind K = _
  rw [pF_at e1 hk, Option.bind_some]
theorem obj_of {h : AH} {c a N : Nat} {fs : List Value} (e : h.1 a = some (.inr (c, fs))) (hN : fs.length = N) : OBJ c N h a (fun k => (fs[k]?).getD .null) := ⟨fs, e, hN, fun k hk => by
  have hk' : k < fs.length := by omega
  show fs[k]? = some ((fs[k]?).getD .null)
  rw [List.getElem?_eq_getElem hk']
  rfl⟩
section W9S
variable {w : Nat} {g : AH} {f f1 f2 : Nat → Int32}
abbrev W9L (w : Nat) : List Value := [.int 0, .int 0, .int 0, .int 0, .ref (w + 1), .ref (w + 2), .ref (w + 3), .ref (w + 4), .ref (w + 5), .ref (w + 6), .ref (w + 7), .ref (w + 8), .int 0, .int 0]
theorem w_l71 : ∀ m q i (g : AH) (f : Nat → Int32), i + m = 6 → m < q → g.1 w = some (.inr (9, W9L w)) → g.1 (w + 1) = some (.inl (0, 6, .inl f)) → (∀ j, j < i → f j = J 24) → ∃ g' f', (∀ K : AH → Nat → Option AH, fX9_init_L71 K q g w (J i) = K g' w) ∧ g'.1 (w + 1) = some (.inl (0, 6, .inl f')) ∧ (∀ j, j < 6 → f' j = J 24) ∧ On (fun k => k = w + 1) g g'
  | 0, q + 1, i, g, f, e, _, c0, c, hf => by
    refine ⟨g, f, fun K => ?_, c, fun j hj => hf j (by omega), On.rf⟩
    rw [fX9_init_L71, if_pos (by rw [l_6, J_le (by decide) (by omega)]; omega)]
  | m + 1, q + 1, i, g, f, e, hq', c0, c, hf => by
    obtain ⟨g1, e1, c1, O1⟩ := wa_s c (show i < 6 by omega) (by decide) (J 24)
    have O1' : On (fun k => k = w + 1) g g1 := O1.on1 rfl
    obtain ⟨g2, f2, d2, c2, h2, O2⟩ := w_l71 m q (i + 1) g1 _ (by omega) (by omega) ((O1'.2 w (by omega)).trans c0) c1 (fun j hj => by
      show (if j = i then J 24 else f j) = J 24
      by_cases z : j = i
      · rw [if_pos z]
      · rw [if_neg z]; exact hf j (by omega))
    refine ⟨g2, f2, fun K => ?_, c2, h2, O1'.trans O2⟩
    have ei : J i + 1 = J (i + 1) := by rw [l_1, J_add]
    have r4 : gR g 9 w 4 = some (w + 1) := gR_at c0 rfl
    have e1' : sI g 0 (w + 1) (J i) 24 = some g1 := e1
    rw [fX9_init_L71, if_neg (fun y => by rw [l_6, J_le (by decide) (by omega)] at y; omega), r4, Option.bind_some, e1', Option.bind_some]
    simp only [letF, ei]
    exact d2 K
theorem w_l93 : ∀ m q i (g : AH) (f1 f2 : Nat → Int32), i + m = 24 → m < q → g.1 w = some (.inr (9, W9L w)) → g.1 (w + 4) = some (.inl (0, 24, .inl f1)) → g.1 (w + 5) = some (.inl (0, 24, .inl f2)) → (∀ j, j < i → f1 j = J 24 ∧ f2 j = J 24) → ∃ g' f1' f2', fX9_init_L93 q g w (J i) = some g' ∧ g'.1 (w + 4) = some (.inl (0, 24, .inl f1')) ∧ g'.1 (w + 5) = some (.inl (0, 24, .inl f2')) ∧ (∀ j, j < 24 → f1' j = J 24 ∧ f2' j = J 24) ∧ On (fun k => k = w + 4 ∨ k = w + 5) g g'
  | 0, q + 1, i, g, f1, f2, e, _, c0, c1, c2, hf => by
    refine ⟨g, f1, f2, ?_, c1, c2, fun j hj => hf j (by omega), On.rf⟩
    rw [fX9_init_L93, if_pos (by rw [l_24, J_le (by decide) (by omega)]; omega)]
  | m + 1, q + 1, i, g, f1, f2, e, hq', c0, c1, c2, hf => by
    obtain ⟨g1, e1, d1, O1⟩ := wa_s c1 (show i < 24 by omega) (by decide) (J 24)
    have O1' : On (fun k => k = w + 4 ∨ k = w + 5) g g1 := O1.on1 (P := fun k => k = w + 4 ∨ k = w + 5) (Or.inl rfl)
    have O1k : On (fun k => k = w + 4) g g1 := O1.on1 rfl
    have a0 : g1.1 w = some (.inr (9, W9L w)) := (O1k.2 w (by omega)).trans c0
    have a2 : g1.1 (w + 5) = some (.inl (0, 24, .inl f2)) := (O1k.2 _ (by omega)).trans c2
    obtain ⟨g2, e2, d2, O2⟩ := wa_s a2 (show i < 24 by omega) (by decide) (J 24)
    have O2' : On (fun k => k = w + 4 ∨ k = w + 5) g1 g2 := O2.on1 (P := fun k => k = w + 4 ∨ k = w + 5) (Or.inr rfl)
    have O2k : On (fun k => k = w + 5) g1 g2 := O2.on1 rfl
    obtain ⟨g3, p1, p2, d3, q1, q2, hp, O3⟩ := w_l93 m q (i + 1) g2 _ _ (by omega) (by omega) ((O2k.2 w (by omega)).trans a0) ((O2k.2 _ (by omega)).trans d1) d2 (fun j hj => by
      show (if j = i then J 24 else f1 j) = J 24 ∧ (if j = i then J 24 else f2 j) = J 24
      by_cases z : j = i
      · rw [if_pos z, if_pos z]; exact ⟨rfl, rfl⟩
      · rw [if_neg z, if_neg z]; exact hf j (by omega))
    refine ⟨g3, p1, p2, ?_, q1, q2, hp, (O1'.trans O2').trans O3⟩
    have ei : J i + 1 = J (i + 1) := by rw [l_1, J_add]
    have r7 : gR g 9 w 7 = some (w + 4) := gR_at c0 rfl
    have r8 : gR g1 9 w 8 = some (w + 5) := gR_at a0 rfl
    have e1' : sI g 0 (w + 4) (J i) 24 = some g1 := e1
    have e2' : sI g1 0 (w + 5) (J i) 24 = some g2 := e2
    rw [fX9_init_L93, if_neg (fun y => by rw [l_24, J_le (by decide) (by omega)] at y; omega), r7, Option.bind_some, e1', Option.bind_some, r8, Option.bind_some, e2', Option.bind_some]
    simp only [letF, ei]
    exact d3
theorem w_init {h : AH} (e : h.1 w = some (.inr (9, W9))) (hw : h.2 = w + 1) : ∃ g, fX9_init h w = some g ∧ WR g w w0 ∧ g.2 = w + 9 ∧ Of (fun k => k = w) h g := by

  obtain ⟨g1, e1, f1, c1, n1, O1⟩ := nw_fs e (by omega) (k := 4) (show 4 < 14 by decide) (.inl (0, newD 0 6))
  rw [hw] at f1 c1 n1
  obtain ⟨g2, e2, f2, c2, n2, O2⟩ := nw_fs f1 (by omega) (k := 5) (show 5 < 14 by decide) (.inl (0, newD 0 24))
  rw [n1] at f2 c2 n2
  obtain ⟨g3, e3, f3, c3, n3, O3⟩ := nw_fs f2 (by omega) (k := 6) (show 6 < 14 by decide) (.inl (0, newD 0 24))
  rw [n2] at f3 c3 n3
  obtain ⟨g4, e4, f4, c4, n4, O4⟩ := nw_fs f3 (by omega) (k := 7) (show 7 < 14 by decide) (.inl (0, newD 0 24))
  rw [n3] at f4 c4 n4
  obtain ⟨g5, e5, f5, c5, n5, O5⟩ := nw_fs f4 (by omega) (k := 8) (show 8 < 14 by decide) (.inl (0, newD 0 24))
  rw [n4] at f5 c5 n5
  obtain ⟨g6, e6, f6, c6, n6, O6⟩ := nw_fs f5 (by omega) (k := 9) (show 9 < 14 by decide) (.inl (0, newD 0 24))
  rw [n5] at f6 c6 n6
  obtain ⟨g7, e7, f7, c7, n7, O7⟩ := nw_fs f6 (by omega) (k := 10) (show 10 < 14 by decide) (.inl (0, newD 0 24))
  rw [n6] at f7 c7 n7
  obtain ⟨g8, e8, f8, c8, n8, O8⟩ := nw_fs f7 (by omega) (k := 11) (show 11 < 14 by decide) (.inl (0, newD 0 192))
  rw [n7] at f8 c8 n8
  have F8 : g8.1 w = some (.inr (9, W9L w)) := f8
  have a1 : g8.1 (w + 1) = some (.inl (0, 6, .inl (fun _ => 0))) := (O8.2 (w + 1) (by omega) (by omega)).trans ((O7.2 (w + 1) (by omega) (by omega)).trans ((O6.2 (w + 1) (by omega) (by omega)).trans ((O5.2 (w + 1) (by omega) (by omega)).trans ((O4.2 (w + 1) (by omega) (by omega)).trans ((O3.2 (w + 1) (by omega) (by omega)).trans ((O2.2 (w + 1) (by omega) (by omega)).trans (c1)))))))
  have a2 : g8.1 (w + 2) = some (.inl (0, 24, .inl (fun _ => 0))) := (O8.2 (w + 2) (by omega) (by omega)).trans ((O7.2 (w + 2) (by omega) (by omega)).trans ((O6.2 (w + 2) (by omega) (by omega)).trans ((O5.2 (w + 2) (by omega) (by omega)).trans ((O4.2 (w + 2) (by omega) (by omega)).trans ((O3.2 (w + 2) (by omega) (by omega)).trans (c2))))))
  have a3 : g8.1 (w + 3) = some (.inl (0, 24, .inl (fun _ => 0))) := (O8.2 (w + 3) (by omega) (by omega)).trans ((O7.2 (w + 3) (by omega) (by omega)).trans ((O6.2 (w + 3) (by omega) (by omega)).trans ((O5.2 (w + 3) (by omega) (by omega)).trans ((O4.2 (w + 3) (by omega) (by omega)).trans (c3)))))
  have a4 : g8.1 (w + 4) = some (.inl (0, 24, .inl (fun _ => 0))) := (O8.2 (w + 4) (by omega) (by omega)).trans ((O7.2 (w + 4) (by omega) (by omega)).trans ((O6.2 (w + 4) (by omega) (by omega)).trans ((O5.2 (w + 4) (by omega) (by omega)).trans (c4))))
  have a5 : g8.1 (w + 5) = some (.inl (0, 24, .inl (fun _ => 0))) := (O8.2 (w + 5) (by omega) (by omega)).trans ((O7.2 (w + 5) (by omega) (by omega)).trans ((O6.2 (w + 5) (by omega) (by omega)).trans (c5)))
  have a6 : g8.1 (w + 6) = some (.inl (0, 24, .inl (fun _ => 0))) := (O8.2 (w + 6) (by omega) (by omega)).trans ((O7.2 (w + 6) (by omega) (by omega)).trans (c6))
  have a7 : g8.1 (w + 7) = some (.inl (0, 24, .inl (fun _ => 0))) := (O8.2 (w + 7) (by omega) (by omega)).trans (c7)
  have a8 : g8.1 (w + 8) = some (.inl (0, 192, .inl (fun _ => 0))) := c8
  obtain ⟨p1, u1, d1, b1, hu1, Q1⟩ := w_l71 6 FU 0 g8 _ rfl (FU_gt (by decide)) F8 a1 (fun j hj => absurd hj (Nat.not_lt_zero j))
  obtain ⟨p2, u2, u3, d2, b2, b3, hu2, Q2⟩ := w_l93 24 FU 0 p1 _ _ rfl (FU_gt (by decide)) ((Q1.2 w (by omega)).trans F8) ((Q1.2 _ (by omega)).trans a4) ((Q1.2 _ (by omega)).trans a5) (fun j hj => absurd hj (Nat.not_lt_zero j))
  have n9 : p2.2 = w + 9 := by rw [Q2.1, Q1.1]; exact n8
  have d1' : ∀ K : AH → Nat → Option AH, fX9_init_L71 K FU g8 w 0 = K p1 w := fun K => d1 K
  have d2' : fX9_init_L93 FU p1 w 0 = some p2 := d2
  have tr : ∀ k, k ≠ w + 1 → k ≠ w + 4 → k ≠ w + 5 → p2.1 k = g8.1 k := fun k h1 h2 h3 => (Q2.2 k (by omega)).trans (Q1.2 k h1)
  refine ⟨p2, (e1 _).trans ((e2 _).trans ((e3 _).trans ((e4 _).trans ((e5 _).trans ((e6 _).trans ((e7 _).trans ((e8 _).trans ((d1' _).trans d2')))))))), ?_, n9, ⟨by omega, fun k hk hp => ?_⟩⟩
  · refine ⟨fun i => if i = 0 then u1 else if i = 3 then u2 else if i = 4 then u3 else fun _ => 0, fun _ => 0, ⟨(tr w (by omega) (by omega) (by omega)).trans F8, (Q2.2 _ (by omega)).trans b1, (tr _ (by omega) (by omega) (by omega)).trans a2, (tr _ (by omega) (by omega) (by omega)).trans a3, b2, b3, (tr _ (by omega) (by omega) (by omega)).trans a6, (tr _ (by omega) (by omega) (by omega)).trans a7, (tr _ (by omega) (by omega) (by omega)).trans a8⟩, ⟨rfl, rfl, rfl, rfl⟩, fun s hs' => ?_, fun o ho' => rfl, fun o ho' => rfl, fun o ho' => ?_, fun o ho' => ?_, fun o ho' z => ?_, fun o ho' z => ?_, fun o p _ _ z => ?_⟩
    · show u1 s = J (w0 0 s)
      rw [hu1 s hs']
      unfold w0
      rw [if_pos ⟨rfl, hs'⟩]
    · show u2 o = J (w0 4 o)
      rw [(hu2 o ho').1]
      unfold w0
      rw [if_neg (by omega), if_neg (by omega), if_pos ⟨Or.inl rfl, ho'⟩]
    · show u3 o = J (w0 5 o)
      rw [(hu2 o ho').2]
      unfold w0
      rw [if_neg (by omega), if_neg (by omega), if_pos ⟨Or.inr rfl, ho'⟩]
    · have e2 : w0 2 o = 4 := by unfold w0; rw [if_neg (by omega), if_pos ⟨rfl, ho'⟩]
      omega
    · have e2 : w0 2 o = 4 := by unfold w0; rw [if_neg (by omega), if_pos ⟨rfl, ho'⟩]
      omega
    · have e8 : w0 8 o = 0 := rfl
      rw [e8, Nat.zero_testBit] at z
      cases z
  · rw [tr k (by omega) (by omega) (by omega)]
    exact (O8.2 k (by omega) hp).trans ((O7.2 k (by omega) hp).trans ((O6.2 k (by omega) hp).trans ((O5.2 k (by omega) hp).trans ((O4.2 k (by omega) hp).trans ((O3.2 k (by omega) hp).trans ((O2.2 k (by omega) hp).trans (O1.2 k hk hp)))))))
end W9S
