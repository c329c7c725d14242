/-! the class begins -/
section CLI
variable {h : AH} {tx : Nat → Nat} {us ks : Nat → ST}
theorem sub_new {fs : List Value} (e : h.1 0 = some (.inr (10, fs))) (h0 : 0 < h.2) {k : Nat} (hk : k < fs.length) {x : AE} {I : AH → Nat → Option AH} {Q : AH → Prop} {m : Nat} (H : ∀ g : AH, g.1 h.2 = some x → g.2 = h.2 + 1 → ∃ g', I g h.2 = some g' ∧ Q g' ∧ g'.2 = m ∧ Of (fun k => k = h.2) g g') : ∃ q g, (∀ K : AH → Option AH, (letF (hnew h x) fun h1 => (I h1 h.2).bind fun q => (pF q 10 0 k (.ref h.2)).bind K) = K g) ∧ Q q ∧ q.2 = m ∧ On (fun k => k = 0) q g ∧ g.1 0 = some (.inr (10, fs.set k (.ref h.2))) ∧ g.2 = m ∧ Of (fun k => k = 0) h g := by
  obtain ⟨q1, q2, q3⟩ := nw_o (h := h) x
  obtain ⟨g1, e1, W1, n1, O1⟩ := H _ q1 q2
  have lo : ∀ k, k < h.2 → g1.1 k = h.1 k := fun k hk => (O1.2 k (by rw [q2]; omega) (by omega)).trans (q3.2 k hk id)
  have e0 : g1.1 0 = some (.inr (10, fs)) := (lo 0 h0).trans e
  have O2 : On (fun k => k = 0) g1 (hset g1 0 (.inr (10, fs.set k (.ref h.2)))) := (Ot_hset (lo := 0) (hi := 0 + 1) ⟨Nat.le_refl _, by omega⟩).on1 rfl
  refine ⟨g1, _, fun K => ?_, W1, n1, O2, hset_eq, n1, ⟨?_, fun i hi hp => (O2.2 i hp).trans (lo i hi)⟩⟩
  · show (I (hnew h x) h.2).bind (fun q => (pF q 10 0 k (.ref h.2)).bind K) = _
    rw [e1, Option.bind_some, pF_at e0 hk, Option.bind_some]
  · show h.2 ≤ g1.2
    have := O1.1
    rw [q2] at this
    omega
theorem cls_init (e : h.1 0 = some (.inr (10, [.null, .int 0, .null, .null, .null, .null, .null, .null, .null, .null, .null, .null]))) (hw : h.2 = 1) : ∃ g, fX10_init h 0 = some g ∧ CIk g 0 tx 0 w0 0 us (fun _ => false) ks [1110, 3, 1062] [] [] [] ∧ g.2 = 145 := by
  obtain ⟨g1, e1, f1, c1, n1, O1⟩ := nw_fs e (by omega) (k := 0) (show 0 < 12 by decide) (.inl (2, newD 2 80))
  rw [hw] at f1 c1 n1

  obtain ⟨q2, g2, e2, W2, m2, U2, f2, n2, O2⟩ := sub_new f1 (by omega) (k := 2) (show 2 < 12 by decide) (x := .inr (9, W9)) (I := fX9_init) (Q := fun g => WR g 2 w0) (m := 11) (fun g q1 q2 => by
    rw [n1] at q1 q2 ⊢
    exact w_init q1 q2)
  rw [n1] at f2
  obtain ⟨q3, g3, e3, W3, m3, U3, f3, n3, O3⟩ := sub_new f2 (by omega) (k := 3) (show 3 < 12 by decide) (x := .inr (9, W9)) (I := fX9_init) (Q := fun g => WR g 11 w0) (m := 20) (fun g q1 q2 => by
    rw [n2] at q1 q2 ⊢
    exact w_init q1 q2)
  rw [n2] at f3
  obtain ⟨q4, g4, e4, W4, m4, U4, f4, n4, O4⟩ := sub_new f3 (by omega) (k := 4) (show 4 < 12 by decide) (x := .inr (2, [.null, .null, .null, .int 0, .int 0])) (I := fX2_init) (Q := fun g => CHk g 0 0 us (fun _ => false) ks) (m := 123) (fun g q1 q2 => by
    rw [n3] at q1 q2 ⊢
    exact hist_init q1 q2)
  rw [n3] at f4
  obtain ⟨q5, g5, e5, W5, m5, U5, f5, n5, O5⟩ := sub_new f4 (by omega) (k := 5) (show 5 < 12 by decide) (x := .inr (6, [.null, .null, .int 0])) (I := fX6_init) (Q := fun g => RUw g 123) (m := 126) (fun g q1 q2 => by
    rw [n4] at q1 q2 ⊢
    exact r6_init q1 q2)
  rw [n4] at f5
  obtain ⟨q6, g6, e6, W6, m6, U6, f6, n6, O6⟩ := sub_new f5 (by omega) (k := 6) (show 6 < 12 by decide) (x := .inr (6, [.null, .null, .int 0])) (I := fX6_init) (Q := fun g => RUw g 126) (m := 129) (fun g q1 q2 => by
    rw [n5] at q1 q2 ⊢
    exact r6_init q1 q2)
  rw [n5] at f6
  obtain ⟨q7, g7, e7, W7, m7, U7, f7, n7, O7⟩ := sub_new f6 (by omega) (k := 7) (show 7 < 12 by decide) (x := .inr (7, [.null, .null, .int 0, .int 0, .int 0, .int 0])) (I := fX7_init) (Q := fun g => RD7w g 129) (m := 132) (fun g q1 q2 => by
    rw [n6] at q1 q2 ⊢
    exact r7_init q1 q2)
  rw [n6] at f7
  obtain ⟨q8, g8, e8, W8, m8, U8, f8, n8, O8⟩ := sub_new f7 (by omega) (k := 8) (show 8 < 12 by decide) (x := .inr (5, [.null, .int 0])) (I := fX5_init) (Q := fun g => CRow g []) (m := 134) (fun g q1 q2 => by
    rw [n7] at q1 q2 ⊢
    exact r5_init q1 q2)
  rw [n7] at f8
  obtain ⟨q9, g9, e9, W9, m9, U9, f9, n9, O9⟩ := sub_new f8 (by omega) (k := 9) (show 9 < 12 by decide) (x := .inr (1, [.null, .null, .null, .int 0, .int 0])) (I := fX1_init) (Q := fun g => CHear g []) (m := 138) (fun g q1 q2 => by
    rw [n8] at q1 q2 ⊢
    exact r1_init q1 q2)
  rw [n8] at f9
  obtain ⟨q10, g10, e10, W10, m10, U10, f10, n10, O10⟩ := sub_new f9 (by omega) (k := 10) (show 10 < 12 by decide) (x := .inr (8, [.null, .null, .null, .null, .int 0])) (I := fX8_init) (Q := fun g => CSaw g []) (m := 143) (fun g q1 q2 => by
    rw [n9] at q1 q2 ⊢
    exact r8_init q1 q2)
  rw [n9] at f10
  obtain ⟨q11, g11, e11, W11, m11, U11, f11, n11, O11⟩ := sub_new f10 (by omega) (k := 11) (show 11 < 12 by decide) (x := .inr (3, [.null])) (I := fX3_init) (Q := fun g => CPg g) (m := 145) (fun g q1 q2 => by
    rw [n10] at q1 q2 ⊢
    exact r3_init q1 q2)
  rw [n10] at f11
  have Z2 : Of (fun k => k = 0) q2 g11 := (((((((((U2.of).trans O3).trans O4).trans O5).trans O6).trans O7).trans O8).trans O9).trans O10).trans O11
  have Z3 : Of (fun k => k = 0) q3 g11 := ((((((((U3.of).trans O4).trans O5).trans O6).trans O7).trans O8).trans O9).trans O10).trans O11
  have Z4 : Of (fun k => k = 0) q4 g11 := (((((((U4.of).trans O5).trans O6).trans O7).trans O8).trans O9).trans O10).trans O11
  have Z5 : Of (fun k => k = 0) q5 g11 := ((((((U5.of).trans O6).trans O7).trans O8).trans O9).trans O10).trans O11
  have Z6 : Of (fun k => k = 0) q6 g11 := (((((U6.of).trans O7).trans O8).trans O9).trans O10).trans O11
  have Z7 : Of (fun k => k = 0) q7 g11 := ((((U7.of).trans O8).trans O9).trans O10).trans O11
  have Z8 : Of (fun k => k = 0) q8 g11 := (((U8.of).trans O9).trans O10).trans O11
  have Z9 : Of (fun k => k = 0) q9 g11 := ((U9.of).trans O10).trans O11
  have Z10 : Of (fun k => k = 0) q10 g11 := (U10.of).trans O11
  have Z11 : Of (fun k => k = 0) q11 g11 := U11.of
  have Z1 : Of (fun k => k = 0) g1 g11 := (((((((((O2).trans O3).trans O4).trans O5).trans O6).trans O7).trans O8).trans O9).trans O10).trans O11
  have V2 : WR g11 2 w0 := by
    have := W2.on Z2.on (fun k h1 h2 => by omega)
    exact this
  have V3 : WR g11 11 w0 := by
    have := W3.on Z3.on (fun k h1 h2 => by omega)
    exact this
  have V4 : CHk g11 0 0 us (fun _ => false) ks := by
    have := W4.on Z4.on (fun k h1 h2 => by omega)
    exact this
  have V5 : RUw g11 123 := by
    have := W5.on Z5.on (by omega) (by omega) (by omega)
    exact this
  have V6 : RUw g11 126 := by
    have := W6.on Z6.on (by omega) (by omega) (by omega)
    exact this
  have V7 : RD7w g11 129 := by
    have := W7.on Z7.on (by omega) (by omega) (by omega)
    exact this
  have V8 : CRow g11 [] := by
    have := W8.on Z8.on (by omega) (by omega)
    exact this
  have V9 : CHear g11 [] := by
    have := W9.on Z9.on (fun k h1 h2 => by omega)
    exact this
  have V10 : CSaw g11 [] := by
    have := W10.on Z10.on (fun k h1 h2 => by omega)
    exact this
  have V11 : CPg g11 := by
    have := W11.on Z11.on (by omega) (by omega)
    exact this
  have c1' : g11.1 1 = some (.inl (2, 80, .inl (fun _ => 0))) := (Z1.2 1 (by omega) (by omega)).trans c1
  have F11 : g11.1 0 = some (.inr (10, [.ref 1, .int 0, .ref 2, .ref 11, .ref 20, .ref 123, .ref 126, .ref 129, .ref 132, .ref 134, .ref 138, .ref 143])) := f11
  obtain ⟨gF, eF, RU, OF'⟩ := c_becomeNone V5
  have OF : On (fun k => 123 ≤ k ∧ k < 126) g11 gF := OF'.on (fun k h1 h2 => ⟨h1, h2⟩)
  have c0 : C0 g11 0 := ⟨_, obj_of F11 (N := 12) rfl, rfl, rfl, rfl, rfl, rfl, rfl, rfl, rfl, rfl, rfl, rfl, rfl⟩
  have tc : TC g11 1 tx 0 := ⟨_, c1', by decide, fun i hi => absurd hi (Nat.not_lt_zero i)⟩
  refine ⟨gF, ?_, ⟨c0.on OF (by omega), tc.on OF (by omega), V2.on OF (fun k h1 h2 => by omega), V3.c1.on OF (fun k h1 h2 => by omega), V4.on OF (fun k h1 h2 => by omega), RU, V6.on OF (by omega) (by omega) (by omega), V7.on OF (by omega) (by omega) (by omega), V8.on OF (by omega) (by omega), V9.on OF (fun k h1 h2 => by omega), V10.on OF (fun k h1 h2 => by omega), V11.on OF (by omega) (by omega)⟩, by rw [OF.1]; exact n11⟩
  unfold fX10_init
  have last : ((gR g11 10 0 5).bind fun x33 => (fX6_becomeNone g11 x33).bind fun q34 => some q34) = some gF := by
    have r : gR g11 10 0 5 = some 123 := gR_at F11 rfl
    rw [r, Option.bind_some, eF, Option.bind_some]

  exact (e1 _).trans ((e2 _).trans ((e3 _).trans ((e4 _).trans ((e5 _).trans ((e6 _).trans ((e7 _).trans ((e8 _).trans ((e9 _).trans ((e10 _).trans ((e11 _).trans (last)))))))))))
end CLI
