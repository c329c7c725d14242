/-! how the class begins -/
theorem WR.of {h g : AH} {w : Nat} {σ : ST} {P : Nat → Prop} (W : WR h w σ) (O : Of P h g) (hw : w + 9 ≤ h.2) (hP : ∀ k, w ≤ k → k < w + 9 → ¬ P k) : WR g w σ := by
  have := W.on O.on (fun k h1 h2 z => z.elim (hP k h1 h2) (fun y => by omega))
  exact this
theorem WC1.of {h g : AH} {w : Nat} {P : Nat → Prop} (W : WC1 h w) (O : Of P h g) (hw : w + 9 ≤ h.2) (hP : ∀ k, w ≤ k → k < w + 9 → ¬ P k) : WC1 g w := by
  have := W.on O.on (fun k h1 h2 z => z.elim (hP k h1 h2) (fun y => by omega))
  exact this
section CIN
variable {h : AH} {a : Nat}

theorem r6_init (e : h.1 a = some (.inr (6, [.null, .null, .int 0]))) (hw : h.2 = a + 1) : ∃ g, fX6_init h a = some g ∧ RUw g a ∧ g.2 = a + 3 ∧ Of (fun k => k = a) h g := by
  obtain ⟨g1, e1, f1, c1, n1, O1⟩ := nw_fs e (by omega) (k := 0) (show 0 < 3 by decide) (.inl (0, newD 0 40))
  rw [hw] at f1 c1 n1
  obtain ⟨g2, e2, f2, c2, n2, O2⟩ := nw_fs f1 (by omega) (k := 1) (show 1 < 3 by decide) (.inl (0, newD 0 40))
  rw [n1] at f2 c2 n2
  have a1 := (O2.2 (a + 1) (by omega) (by omega)).trans (c1)
  have a2 := c2
  refine ⟨g2, (e1 _).trans ((e2 _).trans (rfl)), ?_, n2, (O1).trans O2⟩
  have F := obj_of f2 (N := 3) rfl
  exact ⟨_, fun _ => 0, fun _ => 0, 0, F, rfl, rfl, rfl, a1, a2⟩
theorem r7_init (e : h.1 a = some (.inr (7, [.null, .null, .int 0, .int 0, .int 0, .int 0]))) (hw : h.2 = a + 1) : ∃ g, fX7_init h a = some g ∧ RD7w g a ∧ g.2 = a + 3 ∧ Of (fun k => k = a) h g := by
  obtain ⟨g1, e1, f1, c1, n1, O1⟩ := nw_fs e (by omega) (k := 0) (show 0 < 6 by decide) (.inl (2, newD 2 40))
  rw [hw] at f1 c1 n1
  obtain ⟨g2, e2, f2, c2, n2, O2⟩ := nw_fs f1 (by omega) (k := 1) (show 1 < 6 by decide) (.inl (4, newD 4 5))
  rw [n1] at f2 c2 n2
  have a1 := (O2.2 (a + 1) (by omega) (by omega)).trans (c1)
  have a2 := c2
  refine ⟨g2, (e1 _).trans ((e2 _).trans (rfl)), ?_, n2, (O1).trans O2⟩
  have F := obj_of f2 (N := 6) rfl
  exact ⟨_, fun _ => 0, fun _ => 0, 0, 0, 0, 0, F, rfl, rfl, rfl, rfl, rfl, rfl, a1, a2⟩
end CIN
section CIM
variable {h : AH}
theorem r5_init (e : h.1 132 = some (.inr (5, [.null, .int 0]))) (hw : h.2 = 133) : ∃ g, fX5_init h 132 = some g ∧ CRow g [] ∧ g.2 = 134 ∧ Of (fun k => k = 132) h g := by
  obtain ⟨g1, e1, f1, c1, n1, O1⟩ := nw_fs e (by omega) (k := 0) (show 0 < 2 by decide) (.inl (1, newD 1 24))
  rw [hw] at f1 c1 n1
  have a1 := c1
  refine ⟨g1, (e1 _).trans (rfl), ?_, n1, O1⟩
  have F := obj_of f1 (N := 2) rfl
  exact ⟨_, fun _ => 0, F, rfl, rfl, a1, by decide, fun i x hx => by cases hx⟩
theorem r1_init (e : h.1 134 = some (.inr (1, [.null, .null, .null, .int 0, .int 0]))) (hw : h.2 = 135) : ∃ g, fX1_init h 134 = some g ∧ CHear g [] ∧ g.2 = 138 ∧ Of (fun k => k = 134) h g := by
  obtain ⟨g1, e1, f1, c1, n1, O1⟩ := nw_fs e (by omega) (k := 0) (show 0 < 5 by decide) (.inl (0, newD 0 12))
  rw [hw] at f1 c1 n1
  obtain ⟨g2, e2, f2, c2, n2, O2⟩ := nw_fs f1 (by omega) (k := 1) (show 1 < 5 by decide) (.inl (0, newD 0 12))
  rw [n1] at f2 c2 n2
  obtain ⟨g3, e3, f3, c3, n3, O3⟩ := nw_fs f2 (by omega) (k := 2) (show 2 < 5 by decide) (.inl (0, newD 0 64))
  rw [n2] at f3 c3 n3
  have a1 := (O3.2 135 (by omega) (by omega)).trans ((O2.2 135 (by omega) (by omega)).trans (c1))
  have a2 := (O3.2 136 (by omega) (by omega)).trans (c2)
  have a3 := c3
  refine ⟨g3, (e1 _).trans ((e2 _).trans ((e3 _).trans (rfl))), ?_, n3, ((O1).trans O2).trans O3⟩
  have F := obj_of f3 (N := 5) rfl
  exact ⟨_, fun _ => 0, fun _ => 0, fun _ => 0, 0, F, rfl, rfl, rfl, rfl, rfl, a1, a2, a3, by decide, fun i x hx => by cases hx⟩
theorem r8_init (e : h.1 138 = some (.inr (8, [.null, .null, .null, .null, .int 0]))) (hw : h.2 = 139) : ∃ g, fX8_init h 138 = some g ∧ CSaw g [] ∧ g.2 = 143 ∧ Of (fun k => k = 138) h g := by
  obtain ⟨g1, e1, f1, c1, n1, O1⟩ := nw_fs e (by omega) (k := 0) (show 0 < 5 by decide) (.inl (0, newD 0 10))
  rw [hw] at f1 c1 n1
  obtain ⟨g2, e2, f2, c2, n2, O2⟩ := nw_fs f1 (by omega) (k := 1) (show 1 < 5 by decide) (.inl (0, newD 0 10))
  rw [n1] at f2 c2 n2
  obtain ⟨g3, e3, f3, c3, n3, O3⟩ := nw_fs f2 (by omega) (k := 2) (show 2 < 5 by decide) (.inl (4, newD 4 10))
  rw [n2] at f3 c3 n3
  obtain ⟨g4, e4, f4, c4, n4, O4⟩ := nw_fs f3 (by omega) (k := 3) (show 3 < 5 by decide) (.inl (4, newD 4 49))
  rw [n3] at f4 c4 n4
  have a1 := (O4.2 139 (by omega) (by omega)).trans ((O3.2 139 (by omega) (by omega)).trans ((O2.2 139 (by omega) (by omega)).trans (c1)))
  have a2 := (O4.2 140 (by omega) (by omega)).trans ((O3.2 140 (by omega) (by omega)).trans (c2))
  have a3 := (O4.2 141 (by omega) (by omega)).trans (c3)
  have a4 := c4
  refine ⟨g4, (e1 _).trans ((e2 _).trans ((e3 _).trans ((e4 _).trans (rfl)))), ?_, n4, (((O1).trans O2).trans O3).trans O4⟩
  have F := obj_of f4 (N := 5) rfl
  exact ⟨_, fun _ => 0, fun _ => 0, fun _ => 0, fun _ => 0, F, rfl, rfl, rfl, rfl, rfl, a1, a2, a3, a4, by decide, fun i x hx => by cases hx⟩
theorem r3_init (e : h.1 143 = some (.inr (3, [.null]))) (hw : h.2 = 144) : ∃ g, fX3_init h 143 = some g ∧ CPg g ∧ g.2 = 145 ∧ Of (fun k => k = 143) h g := by
  obtain ⟨g1, e1, f1, c1, n1, O1⟩ := nw_fs e (by omega) (k := 0) (show 0 < 1 by decide) (.inl (0, newD 0 61))
  rw [hw] at f1 c1 n1
  have a1 := c1
  refine ⟨g1, (e1 _).trans (rfl), ?_, n1, O1⟩
  have F := obj_of f1 (N := 1) rfl
  exact ⟨⟨_, F, rfl⟩, ⟨fun _ => 0, a1⟩⟩
theorem sR_at {a n i x : Nat} {f : Nat → Option Nat} {fs : List Value} (e : h.1 a = some (.inl (5, n, .inr (.inr (.inr (.inr f)))))) (ex : h.1 x = some (.inr (9, fs))) (hi : i < n) (hn : n ≤ 2147483648) : sR h a (J i) x = some (hset h a (.inl (5, n, .inr (.inr (.inr (.inr (va_up f i (some x)))))))) := by
  unfold sR
  rw [e]
  simp only
  rw [ex]
  simp only
  rw [if_pos ⟨trivial, J_in hi hn⟩, J_clamp (by omega)]
/-- the worlds that the class can go back to -/
def HIp (h : AH) (arr n base i : Nat) : Prop := (∃ f, h.1 arr = some (.inl (5, n, .inr (.inr (.inr (.inr f))))) ∧ ∀ j, j < i → f j = some (base + 9 * j)) ∧ (∀ j, j < i → WC1 h (base + 9 * j)) ∧ h.2 = base + 9 * i
theorem hi_step {fld arr n base i : Nat} {fsH : List Value} (e20 : h.1 20 = some (.inr (2, fsH))) (hfld : fsH[fld]? = some (.ref arr)) (H : HIp h arr n base i) (hi : i < n) (hn : n ≤ 100) (harr : arr < base) (ha20 : 20 < base) (hne : arr ≠ 20) : ∃ g, (∀ K : AH → Option AH, ((gR h 2 20 fld).bind fun x7 => letF (hnew h (.inr (9, W9))) fun h8 => (fX9_init h8 h.2).bind fun q9 => (sR q9 x7 (J i) h.2).bind K) = K g) ∧ g.1 20 = some (.inr (2, fsH)) ∧ HIp g arr n base (i + 1) ∧ Of (fun k => k = arr) h g := by
  obtain ⟨⟨f, ca, hf⟩, hW, h2⟩ := H
  obtain ⟨q1, q2, q3⟩ := nw_o (h := h) (.inr (9, W9))
  obtain ⟨g1, e1, W1, n1, O1⟩ := w_init q1 q2
  have lo : ∀ k, k < h.2 → g1.1 k = h.1 k := fun k hk => (O1.2 k (by rw [q2]; omega) (by omega)).trans (q3.2 k hk id)
  have ca1 : g1.1 arr = some (.inl (5, n, .inr (.inr (.inr (.inr f))))) := (lo arr (by omega)).trans ca
  obtain ⟨Aw, Iw, Cw, -⟩ := W1
  have er : sR g1 arr (J i) h.2 = some (hset g1 arr (.inl (5, n, .inr (.inr (.inr (.inr (va_up f i (some h.2)))))))) := sR_at ca1 Cw.1 hi (by omega)
  have On1 : On (fun k => k = arr) g1 (hset g1 arr (.inl (5, n, .inr (.inr (.inr (.inr (va_up f i (some h.2)))))))) := (Ot_hset (lo := arr) (hi := arr + 1) ⟨Nat.le_refl _, by omega⟩).on1 rfl
  have W1' : WC1 g1 h.2 := ⟨Aw, Iw, Cw⟩
  have OO : Of (fun k => k = arr) h (hset g1 arr (.inl (5, n, .inr (.inr (.inr (.inr (va_up f i (some h.2)))))))) := ⟨by show h.2 ≤ g1.2; omega, fun k hk hp => (On1.2 k hp).trans (lo k hk)⟩
  refine ⟨_, fun K => ?_, (OO.2 20 (by omega) (by omega)).trans e20, ⟨⟨_, hset_eq, fun j hj => ?_⟩, fun j hj => ?_, by show g1.2 = _; omega⟩, OO⟩
  · have r : gR h 2 20 fld = some arr := gR_at e20 hfld
    rw [r, Option.bind_some]
    show (fX9_init (hnew h (.inr (9, W9))) h.2).bind (fun q9 => (sR q9 arr (J i) h.2).bind K) = _
    rw [e1, Option.bind_some, er, Option.bind_some]
  · by_cases z : j = i
    · rw [z, va_up_self, h2]
    · rw [va_up_ne _ _ z]
      exact hf j (by omega)
  · by_cases z : j = i
    · rw [z, ← h2]
      exact W1'.on On1 (fun k h1 h2 => by omega)
    · exact (hW j (by omega)).of OO (by omega) (fun k h1 h2 => by omega)

theorem hist_init (e : h.1 20 = some (.inr (2, [.null, .null, .null, .int 0, .int 0]))) (hw : h.2 = 21) {us ks : Nat → ST} : ∃ g, fX2_init h 20 = some g ∧ CHk g 0 0 us (fun _ => false) ks ∧ g.2 = 123 ∧ Of (fun k => k = 20) h g := by
  obtain ⟨g1, e1, f1, c1, n1, O1⟩ := nw_fs e (by omega) (k := 0) (show 0 < 5 by decide) (.inl (5, 9, .inr (.inr (.inr (.inr (fun _ => none))))))
  rw [hw] at f1 c1 n1
  obtain ⟨g2, e2, f2, c2, n2, O2⟩ := nw_fs f1 (by omega) (k := 1) (show 1 < 5 by decide) (.inl (5, 2, .inr (.inr (.inr (.inr (fun _ => none))))))
  rw [n1] at f2 c2 n2
  obtain ⟨g3, e3, f3, c3, n3, O3⟩ := nw_fs f2 (by omega) (k := 2) (show 2 < 5 by decide) (.inl (4, newD 4 2))
  rw [n2] at f3 c3 n3
  have F3 : g3.1 20 = some (.inr (2, [.ref 21, .ref 22, .ref 23, .int 0, .int 0])) := f3
  have b1 := (O3.2 21 (by omega) (by omega)).trans ((O2.2 21 (by omega) (by omega)).trans c1)
  have b2 := (O3.2 22 (by omega) (by omega)).trans c2
  have H0 : HIp g3 21 9 24 0 := ⟨⟨_, b1, fun j hj => absurd hj (Nat.not_lt_zero j)⟩, fun j hj => absurd hj (Nat.not_lt_zero j), n3⟩

  obtain ⟨p0, d0, t0, K0, Q0⟩ := hi_step F3 (fld := 0) (arr := 21) (n := 9) (base := 24) (i := 0) rfl H0 (by decide) (by decide) (by decide) (by decide) (by decide)
  obtain ⟨p1, d1, t1, K1, Q1⟩ := hi_step t0 (fld := 0) (arr := 21) (n := 9) (base := 24) (i := 1) rfl K0 (by decide) (by decide) (by decide) (by decide) (by decide)
  obtain ⟨p2, d2, t2, K2, Q2⟩ := hi_step t1 (fld := 0) (arr := 21) (n := 9) (base := 24) (i := 2) rfl K1 (by decide) (by decide) (by decide) (by decide) (by decide)
  obtain ⟨p3, d3, t3, K3, Q3⟩ := hi_step t2 (fld := 0) (arr := 21) (n := 9) (base := 24) (i := 3) rfl K2 (by decide) (by decide) (by decide) (by decide) (by decide)
  obtain ⟨p4, d4, t4, K4, Q4⟩ := hi_step t3 (fld := 0) (arr := 21) (n := 9) (base := 24) (i := 4) rfl K3 (by decide) (by decide) (by decide) (by decide) (by decide)
  obtain ⟨p5, d5, t5, K5, Q5⟩ := hi_step t4 (fld := 0) (arr := 21) (n := 9) (base := 24) (i := 5) rfl K4 (by decide) (by decide) (by decide) (by decide) (by decide)
  obtain ⟨p6, d6, t6, K6, Q6⟩ := hi_step t5 (fld := 0) (arr := 21) (n := 9) (base := 24) (i := 6) rfl K5 (by decide) (by decide) (by decide) (by decide) (by decide)
  obtain ⟨p7, d7, t7, K7, Q7⟩ := hi_step t6 (fld := 0) (arr := 21) (n := 9) (base := 24) (i := 7) rfl K6 (by decide) (by decide) (by decide) (by decide) (by decide)
  obtain ⟨p8, d8, t8, K8, Q8⟩ := hi_step t7 (fld := 0) (arr := 21) (n := 9) (base := 24) (i := 8) rfl K7 (by decide) (by decide) (by decide) (by decide) (by decide)
  have Qa : Of (fun k => k = 21) g3 p8 := ((((((((Q0).trans Q1).trans Q2).trans Q3).trans Q4).trans Q5).trans Q6).trans Q7).trans Q8
  have np8 : p8.2 = 105 := K8.2.2
  have n3' : g3.2 = 24 := n3
  have b2' := (Qa.2 22 (by omega) (by omega)).trans b2
  have H9 : HIp p8 22 2 105 0 := ⟨⟨_, b2', fun j hj => absurd hj (Nat.not_lt_zero j)⟩, fun j hj => absurd hj (Nat.not_lt_zero j), np8⟩
  obtain ⟨p9, d9, t9, K9, Q9⟩ := hi_step t8 (fld := 1) (arr := 22) (n := 2) (base := 105) (i := 0) rfl H9 (by decide) (by decide) (by decide) (by decide) (by decide)
  obtain ⟨p10, d10, t10, K10, Q10⟩ := hi_step t9 (fld := 1) (arr := 22) (n := 2) (base := 105) (i := 1) rfl K9 (by decide) (by decide) (by decide) (by decide) (by decide)
  have Qb : Of (fun k => k = 22) p8 p10 := Q9.trans Q10
  have np10 : p10.2 = 123 := K10.2.2
  obtain ⟨⟨fm, m1, m2⟩, m3, -⟩ := K8
  obtain ⟨⟨fk, k1, k2⟩, k3, -⟩ := K10
  have c23 : p10.1 23 = some (.inl (4, newD 4 2)) := (Qb.2 23 (by omega) (by omega)).trans ((Qa.2 23 (by omega) (by omega)).trans c3)
  refine ⟨p10, ?_, ⟨_, fm, fk, fun _ => 0, obj_of t10 (N := 5) rfl, rfl, rfl, rfl, rfl, rfl, by decide, by decide, (Qb.2 21 (by omega) (by omega)).trans m1, m2, k1, k2, c23, fun j hj => rfl, fun i hi => (m3 i hi).of Qb (by omega) (fun k h1 h2 => by omega), fun i hi => absurd hi (Nat.not_lt_zero i), k3, fun j _ z => by cases z⟩, np10, ⟨by omega, fun k hk hp => ?_⟩⟩
  · unfold fX2_init
    refine (e1 _).trans ((e2 _).trans ((e3 _).trans ?_))
    rw [if_neg (show ¬ (8 : Int32) < 0 by decide)]
    refine (d0 _).trans ?_
    rw [if_neg (show ¬ (8 : Int32) < 1 by decide)]
    refine (d1 _).trans ?_
    rw [if_neg (show ¬ (8 : Int32) < 2 by decide)]
    refine (d2 _).trans ?_
    rw [if_neg (show ¬ (8 : Int32) < 3 by decide)]
    refine (d3 _).trans ?_
    rw [if_neg (show ¬ (8 : Int32) < 4 by decide)]
    refine (d4 _).trans ?_
    rw [if_neg (show ¬ (8 : Int32) < 5 by decide)]
    refine (d5 _).trans ?_
    rw [if_neg (show ¬ (8 : Int32) < 6 by decide)]
    refine (d6 _).trans ?_
    rw [if_neg (show ¬ (8 : Int32) < 7 by decide)]
    refine (d7 _).trans ?_
    rw [if_neg (show ¬ (8 : Int32) < 8 by decide)]
    refine (d8 _).trans ?_
    rw [if_pos (show (8 : Int32) < 9 by decide), if_neg (show ¬ (2 : Int32) ≤ 0 by decide)]
    refine (d9 _).trans ?_
    rw [if_neg (show ¬ (2 : Int32) ≤ 1 by decide)]
    refine (d10 _).trans ?_
    rw [if_pos (show (2 : Int32) ≤ 2 by decide)]
  · exact (Qb.2 k (by omega) (by omega)).trans ((Qa.2 k (by omega) (by omega)).trans ((O3.2 k (by omega) hp).trans ((O2.2 k (by omega) hp).trans (O1.2 k hk hp))))
end CIM
