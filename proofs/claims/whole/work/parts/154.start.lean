/-! the law's entry: what the start gives; then the law's own walk -/
theorem uin1 {w : Cond} (i : Nat) (h : tables_1_1[i]? = some w) : w ∈ lw_tbl := List.mem_append_right _ (show w ∈ tables_1 from (List.mem_append_left _ (List.mem_of_getElem? h)))
theorem uin2 {w : Cond} (i : Nat) (h : tables_1_2[i]? = some w) : w ∈ lw_tbl := List.mem_append_right _ (show w ∈ tables_1 from (List.mem_append_right _ (List.mem_append_left _ (List.mem_of_getElem? h))))
theorem uin3 {w : Cond} (i : Nat) (h : tables_1_3[i]? = some w) : w ∈ lw_tbl := List.mem_append_right _ (show w ∈ tables_1 from (List.mem_append_right _ (List.mem_append_right _ (List.mem_append_left _ (List.mem_of_getElem? h)))))
theorem uin4 {w : Cond} (i : Nat) (h : tables_1_4[i]? = some w) : w ∈ lw_tbl := List.mem_append_right _ (show w ∈ tables_1 from (List.mem_append_right _ (List.mem_append_right _ (List.mem_append_right _ (List.mem_append_left _ (List.mem_of_getElem? h))))))
theorem uin5 {w : Cond} (i : Nat) (h : tables_1_5[i]? = some w) : w ∈ lw_tbl := List.mem_append_right _ (show w ∈ tables_1 from (List.mem_append_right _ (List.mem_append_right _ (List.mem_append_right _ (List.mem_append_right _ (List.mem_append_left _ (List.mem_of_getElem? h)))))))
theorem uin6 {w : Cond} (i : Nat) (h : tables_1_6[i]? = some w) : w ∈ lw_tbl := List.mem_append_right _ (show w ∈ tables_1 from (List.mem_append_right _ (List.mem_append_right _ (List.mem_append_right _ (List.mem_append_right _ (List.mem_append_right _ (List.mem_append_left _ (List.mem_of_getElem? h))))))))
theorem uin7 {w : Cond} (i : Nat) (h : tables_1_7[i]? = some w) : w ∈ lw_tbl := List.mem_append_right _ (show w ∈ tables_1 from (List.mem_append_right _ (List.mem_append_right _ (List.mem_append_right _ (List.mem_append_right _ (List.mem_append_right _ (List.mem_append_right _ (List.mem_append_left _ (List.mem_of_getElem? h)))))))))
theorem uin8 {w : Cond} (i : Nat) (h : tables_1_8[i]? = some w) : w ∈ lw_tbl := List.mem_append_right _ (show w ∈ tables_1 from (List.mem_append_right _ (List.mem_append_right _ (List.mem_append_right _ (List.mem_append_right _ (List.mem_append_right _ (List.mem_append_right _ (List.mem_append_right _ (List.mem_of_getElem? h)))))))))
theorem arr_K {s : State} {args : Array Value} {ty : FieldType} (h : (Cond.arrayClass ty).before args s = true) (hn : ∀ C, ty ≠ .object C) : ∃ cA, ArrOfT s cA ty ∧ va_RA s cA ty := by
  obtain ⟨c, k, comp, h1, h2, h3⟩ := Cond.arrayClass_spec h
  refine ⟨c, fun n z => ⟨fun k' h => (by cases h), k, h2, comp, h3⟩, ?_⟩
  cases ty with
  | object C => exact absurd rfl (hn C)
  | _ => exact h1
theorem arr_O {s : State} {C : String} (h : va_AO C s) : ∃ cA, ArrOfT s cA (.object C) ∧ va_RA s cA (.object C) := by
  obtain ⟨comp, c, k, h1, h2, h3, h4, h5⟩ := Cond.arrayOver_spec h
  exact ⟨c, fun n z => ⟨fun k' h => (by cases h), k, h3, comp, h4⟩, k, comp, h3, h4, h1, h5⟩
theorem lt5 {P : Nat → Prop} (h0 : P 0) (h1 : P 1) (h2 : P 2) (h3 : P 3) (h4 : P 4) : ∀ i : Nat, i < 5 → P i
  | 0, _ => h0
  | 1, _ => h1
  | 2, _ => h2
  | 3, _ => h3
  | 4, _ => h4
  | n + 5, h => absurd h (by omega)
set_option maxRecDepth 100000 in
theorem st_lits {s : State} {args : Array Value} {A : Nat → Prop} (hgv : (Jvm.Cond.and given_1 narrow_1).before args s = true) (hA : ∀ a : Nat, a < s.heap.size → ¬ A a) : ∃ adK adV : Nat → Nat, vk_S 5 stL stB adK adV A s s.heap ∧ ∀ i : Nat, i < 5 → (Term.string "ShadowSpaces" (stI i)).eval args s none [] s = some (.ref (adK i)) := by
  have hs := flat_of_before _ hgv
  refine vk_Sof (tm := fun i => Term.string "ShadowSpaces" (stI i)) (lt5 (by decide) (by decide) (by decide) (by decide) (by decide)) ?_ ?_ ?_ ?_ ?_ ?_ hA
  · exact lt5 (hs _ (by decide +kernel)) (hs _ (by decide +kernel)) (hs _ (by decide +kernel)) (hs _ (by decide +kernel)) (hs _ (by decide +kernel))
  · exact lt5 (hs _ (by decide +kernel)) (hs _ (by decide +kernel)) (hs _ (by decide +kernel)) (hs _ (by decide +kernel)) (hs _ (by decide +kernel))
  · exact lt5 (hs _ (by decide +kernel)) (hs _ (by decide +kernel)) (hs _ (by decide +kernel)) (hs _ (by decide +kernel)) (hs _ (by decide +kernel))
  · exact lt5 (hs _ (by decide +kernel)) (hs _ (by decide +kernel)) (hs _ (by decide +kernel)) (hs _ (by decide +kernel)) (hs _ (by decide +kernel))
  · exact lt5 (fun j hj => absurd (show j < 0 from hj) (Nat.not_lt_zero j)) (fun j hj => by match j, hj with | 0, _ => exact hs _ (by decide +kernel) | 1, _ => exact hs _ (by decide +kernel) | n + 2, h => exact absurd (show n + 2 < 2 from h) (by omega)) (fun j hj => by match j, hj with | 0, _ => exact hs _ (by decide +kernel) | 1, _ => exact hs _ (by decide +kernel) | 2, _ => exact hs _ (by decide +kernel) | 3, _ => exact hs _ (by decide +kernel) | n + 4, h => exact absurd (show n + 4 < 4 from h) (by omega)) (fun j hj => by match j, hj with | 0, _ => exact hs _ (by decide +kernel) | n + 1, h => exact absurd (show n + 1 < 1 from h) (by omega)) (fun j hj => by match j, hj with | 0, _ => exact hs _ (by decide +kernel) | 1, _ => exact hs _ (by decide +kernel) | 2, _ => exact hs _ (by decide +kernel) | 3, _ => exact hs _ (by decide +kernel) | 4, _ => exact hs _ (by decide +kernel) | n + 5, h => exact absurd (show n + 5 < 5 from h) (by omega))
  · intro i j hi hj hij
    have hi' : i = 0 ∨ i = 1 ∨ i = 2 ∨ i = 3 ∨ i = 4 := by omega
    have hj' : j = 0 ∨ j = 1 ∨ j = 2 ∨ j = 3 ∨ j = 4 := by omega
    rcases hi' with rfl | rfl | rfl | rfl | rfl <;> rcases hj' with rfl | rfl | rfl | rfl | rfl <;> first | exact absurd rfl hij | exact Or.inl (hs _ (by decide +kernel)) | exact Or.inr (hs _ (by decide +kernel))
set_option maxRecDepth 100000 in
set_option maxHeartbeats 4000000 in
theorem st_Y {s : State} {b : Nat} (hts : ∀ w ∈ lw_tbl, w.before #[Value.ref b] s = true) (hgv : (Jvm.Cond.and given_1 narrow_1).before #[Value.ref b] s = true) : ∃ Y : YT, Y.1 = s.heap.size ∧ Y.2.1 11 = b ∧ va_K Y.2.2.2.1 classes (tysA Y) s ∧ SX Y s s.heap ∧ TX Y s s.heap := by
  have hs := flat_of_before _ hgv
  have htb : ∀ w ∈ TBL, w.before #[Value.ref b] s = true := fun w hw => hts w (List.mem_filter.mp hw).1
  have hA : ∀ a : Nat, a < s.heap.size → ¬ (fun q : Nat => s.heap.size ≤ q) a := fun a h => Nat.not_le.mpr h
  obtain ⟨adK, adV, hS, hev⟩ := st_lits (A := fun q : Nat => s.heap.size ≤ q) hgv hA
  have hF0 : va_Zq "jdk/internal/util/Preconditions" "SIOOBE_FORMATTER" "Ljava/util/function/BiFunction;" (fun q : Nat => s.heap.size ≤ q) s s.heap := va_Zqof (hts _ (uin4 19 rfl)) (hts _ (uin1 21 rfl)) (hs _ (by decide +kernel)) hA
  obtain ⟨fm, hF⟩ : ∃ fm : Nat, va_Z "jdk/internal/util/Preconditions" "SIOOBE_FORMATTER" "Ljava/util/function/BiFunction;" .null (fun q : Nat => s.heap.size ≤ q) s s.heap ∨ va_Z "jdk/internal/util/Preconditions" "SIOOBE_FORMATTER" "Ljava/util/function/BiFunction;" (.ref fm) (fun q : Nat => s.heap.size ≤ q) s s.heap := by
    rcases hF0 with h | ⟨t, h⟩
    · exact ⟨0, Or.inl h⟩
    · exact ⟨t, Or.inr h⟩
  obtain ⟨c0, i0, k0⟩ := u_known (C := RX0) (T := TX0) (N := 1) (n := 1) htb in_X0 (hts _ (uin5 84 rfl))
  obtain ⟨c1, i1, k1⟩ := u_known (C := RX1) (T := TX1) (N := 5) (n := 5) htb in_X1 (hts _ (uin1 167 rfl))
  obtain ⟨c2, i2, k2⟩ := u_known (C := RX2) (T := TX2) (N := 5) (n := 5) htb in_X2 (hts _ (uin1 86 rfl))
  obtain ⟨c3, i3, k3⟩ := u_known (C := RX3) (T := TX3) (N := 1) (n := 1) htb in_X3 (hts _ (uin1 211 rfl))
  obtain ⟨c4, i4, k4⟩ := u_known (C := RX5) (T := TX5) (N := 2) (n := 2) htb in_X5 (hts _ (uin1 153 rfl))
  obtain ⟨c5, i5, k5⟩ := u_known (C := RX5) (T := TX5) (N := 2) (n := 2) htb in_X5 (hts _ (uin1 153 rfl))
  obtain ⟨c6, i6, k6⟩ := u_known (C := RX6) (T := TX6) (N := 3) (n := 3) htb in_X6 (hts _ (uin1 112 rfl))
  obtain ⟨c7, i7, k7⟩ := u_known (C := RX7) (T := TX7) (N := 6) (n := 6) htb in_X7 (hts _ (uin1 128 rfl))
  obtain ⟨c8, i8, k8⟩ := u_known (C := RX8) (T := TX8) (N := 5) (n := 5) htb in_X8 (hts _ (uin1 189 rfl))
  obtain ⟨c9, i9, k9⟩ := u_known (C := RX9) (T := TX9) (N := 14) (n := 14) htb in_X9 (hts _ (uin1 35 rfl))
  obtain ⟨c10, i10, k10⟩ := u_known (C := RX10) (T := TX10) (N := 12) (n := 12) htb in_X10 (hts _ (uin1 27 rfl))
  obtain ⟨c11, i11, k11⟩ := u_known (C := RX11) (T := TX11) (N := 36) (n := 36) htb in_X11 (hts _ (uin6 19 rfl))
  obtain ⟨a0, A0, B0⟩ := arr_K (hts _ (uin1 84 rfl)) (fun _ h => by cases h)
  obtain ⟨a1, A1, B1⟩ := arr_K (hts _ (uin1 165 rfl)) (fun _ h => by cases h)
  obtain ⟨a2, A2, B2⟩ := arr_K (hts _ (uin1 83 rfl)) (fun _ h => by cases h)
  obtain ⟨a3, A3, B3⟩ := arr_K (hts _ (uin4 61 rfl)) (fun _ h => by cases h)
  obtain ⟨a4, A4, B4⟩ := arr_K (hts _ (uin1 110 rfl)) (fun _ h => by cases h)
  have hAO : va_AO RX9 s := va_AO.of (hts _ (uin1 92 rfl))
  obtain ⟨a5, A5, B5⟩ := arr_O hAO
  refine ⟨(s.heap.size, fun k => if k < 5 then adK k else if k < 10 then adV (k - 5) else if k = 10 then fm else b, fun _ => 0, (fun k => ([c0, c1, c2, c3, c4, c5, c6, c7, c8, c9, c10, c11] : List ClassId).getD k c0, fun k => ([i0, i1, i2, i3, i4, i5, i6, i7, i8, i9, i10, i11] : List (Nat → Nat)).getD k i0), fun t => ([a0, a1, a2, a3, a4, a5] : List ClassId).getD t a0), rfl, rfl, ⟨?_, ?_⟩, ⟨?_, ⟨?_, ?_⟩, ?_, ?_, hAO, hF⟩, ?_, ?_, ?_, ?_⟩
  · intro k q hq
    match k, hq with
    | 0, hq => cases hq; exact k0
    | 1, hq => cases hq; exact k1
    | 2, hq => cases hq; exact k2
    | 3, hq => cases hq; exact k3
    | 4, hq => cases hq; exact k4
    | 5, hq => cases hq; exact k5
    | 6, hq => cases hq; exact k6
    | 7, hq => cases hq; exact k7
    | 8, hq => cases hq; exact k8
    | 9, hq => cases hq; exact k9
    | 10, hq => cases hq; exact k10
    | 11, hq => cases hq; exact k11
    | k + 12, hq => simp [classes] at hq
  · intro k q hq
    match k, hq with
    | 0, hq => cases hq; exact ⟨A0, B0⟩
    | 1, hq => cases hq; exact ⟨A1, B1⟩
    | 2, hq => cases hq; exact ⟨A2, B2⟩
    | 3, hq => cases hq; exact ⟨A3, B3⟩
    | 4, hq => cases hq; exact ⟨A4, B4⟩
    | 5, hq => cases hq; exact ⟨A5, B5⟩
    | k + 6, hq => simp at hq
  · exact va_Zof (hts _ (uin4 3 rfl)) (hts _ (uin1 19 rfl)) (va_eqt (hs _ (by decide +kernel))) hA
  · intro i hi
    have h9 := hS.1 i hi
    have e1 : (if i < 5 then adK i else if i < 10 then adV (i - 5) else if i = 10 then fm else b) = adK i := if_pos hi
    have e2 : (if 5 + i < 5 then adK (5 + i) else if 5 + i < 10 then adV (5 + i - 5) else if 5 + i = 10 then fm else b) = adV i := by
      rw [if_neg (by omega), if_pos (by omega), Nat.add_sub_cancel_left]
    dsimp only
    rw [e1, e2]
    exact h9
  · intro i j hi hj h9
    dsimp only at h9
    rw [if_pos hi, if_pos hj] at h9
    exact hS.2 i j hi hj h9
  · intro i hi
    have e1 : (if i < 5 then adK i else if i < 10 then adV (i - 5) else if i = 10 then fm else b) = adK i := if_pos hi
    dsimp only
    rw [e1]
    refine vk_R.of ?_ (hev i hi)
    revert i
    intro i hi _
    exact lt5 (P := fun i => (Cond.stringRef "ShadowSpaces" (stI i) (stX i)).before #[Value.ref b] s = true) (hts _ (uin3 233 rfl)) (hts _ (uin4 45 rfl)) (hts _ (uin4 46 rfl)) (hts _ (uin4 47 rfl)) (hts _ (uin4 48 rfl)) i hi
  · exact List.forall_mem_cons.mpr ⟨va_Nw.of rfl (hts _ (uin1 113 rfl)), List.forall_mem_cons.mpr ⟨va_Nw.of rfl (hts _ (uin1 129 rfl)), List.forall_mem_cons.mpr ⟨va_Nw.of rfl (hts _ (uin1 154 rfl)), List.forall_mem_cons.mpr ⟨va_Nw.of rfl (hts _ (uin1 168 rfl)), List.forall_mem_cons.mpr ⟨va_Nw.of rfl (hts _ (uin1 190 rfl)), List.forall_mem_cons.mpr ⟨va_Nw.of rfl (hts _ (uin1 212 rfl)), List.forall_mem_cons.mpr ⟨va_Nw.of rfl (hts _ (uin2 127 rfl)), List.forall_mem_cons.mpr ⟨va_Nw.of rfl (hts _ (uin2 158 rfl)), List.forall_mem_cons.mpr ⟨va_Nw.of rfl (hts _ (uin3 7 rfl)), List.forall_mem_cons.mpr ⟨va_Nw.of rfl (hts _ (uin3 73 rfl)), fun _ h => absurd h List.not_mem_nil⟩⟩⟩⟩⟩⟩⟩⟩⟩⟩
  · exact va_Nw.of rfl (hts _ (uin5 157 rfl))
  · exact List.forall_mem_cons.mpr ⟨va_Nw.of rfl (hts _ (uin5 158 rfl)), List.forall_mem_cons.mpr ⟨va_Nw.of rfl (hts _ (uin5 160 rfl)), List.forall_mem_cons.mpr ⟨va_Nw.of rfl (hts _ (uin5 162 rfl)), fun _ h => absurd h List.not_mem_nil⟩⟩⟩
  · exact vx_Zqof (hts _ (uin5 182 rfl)) (hts _ (uin1 15 rfl)) (hs _ (by decide +kernel)) hA
  · exact vx_Zqof (hts _ (uin5 184 rfl)) (hts _ (uin1 15 rfl)) (hs _ (by decide +kernel)) hA
