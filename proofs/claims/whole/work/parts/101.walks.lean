/-! walks, by program: X5_clear X5_add X5_total X5_has X5_number X6_init X6_clear X6_addNumber X6_addSign X6_becomeNone X6_copyFrom X6_appendDigit X6_signOf X6_push X6_negateTop X7_strength X7_isBinary X6_bind X6_bindTop X9_chainLength J6_bitCount_0f7a4 X9_frameTotal X9_objectTotal X9_writeTotal X9_heldOf X6_measure X6_reckon X7_init X7_start X10_isDigit X7_takesDigit X7_hoard X7_setCompared X7_isMeasure X7_takesThing X7_releaseDownTo X7_isCompared X7_takesBinder X7_takes X7_readRule X8_init -/
theorem dX5_clear_0 : decode cX5_clear 0 = .ok (.aload_n 0, 1) := by decide +kernel
theorem dX5_clear_1 : decode cX5_clear 1 = .ok (.iconst 0, 1) := by decide +kernel
theorem dX5_clear_2 : decode cX5_clear 2 = .ok (.putfield 15, 3) := by decide +kernel
theorem dX5_clear_5 : decode cX5_clear 5 = .ok (.return_, 1) := by decide +kernel
def fX5_clear (h : AH) (a0 : Nat) : Option (AH) :=
  if hasC h 5 a0 = true then (
    (pF h 5 a0 1 (.int 0)).bind fun h1 =>
    some h1
  ) else none
set_option maxHeartbeats 4000000 in
theorem mX5_clear {h : AH} {a0 : Nat} {r : AH} (hr : fX5_clear h a0 = some r) : hasC h 5 a0 = true ∧ MC yX5_clear cX5_clear 1 none 1 0 0 [.ref a0] h none r := by
  unfold fX5_clear at hr
  obtain ⟨hc, hr⟩ := if_some hr
  refine ⟨hc, mc_of (l0 := [(0, .ref a0)]) rfl pn_X5 (Nat.le_of_ble_eq_true rfl) (fun Y X C E O hnm => go_run hr ?_)⟩
  have C : CT Y X RX5 cX5_clear 1 := C
  refine go_aload_n (pc := 0) C 0 dX5_clear_0 rfl ?_
  refine go_iconst (pc := 1) C dX5_clear_1 ki_0 ?_
  refine go_pI (pc := 2) C fpX5_15 dX5_clear_2 (fun h1 => ?_)
  exact go_vret (w := wV) (pc := 5) C E h1 dX5_clear_5 rfl
theorem dX5_add_0 : decode cX5_add 0 = .ok (.aload_n 0, 1) := by decide +kernel
theorem dX5_add_1 : decode cX5_add 1 = .ok (.getfield 15, 3) := by decide +kernel
theorem dX5_add_4 : decode cX5_add 4 = .ok (.ifCond .lt 35, 3) := by decide +kernel
theorem dX5_add_7 : decode cX5_add 7 = .ok (.aload_n 0, 1) := by decide +kernel
theorem dX5_add_8 : decode cX5_add 8 = .ok (.getfield 15, 3) := by decide +kernel
theorem dX5_add_11 : decode cX5_add 11 = .ok (.aload_n 0, 1) := by decide +kernel
theorem dX5_add_12 : decode cX5_add 12 = .ok (.getfield 9, 3) := by decide +kernel
theorem dX5_add_15 : decode cX5_add 15 = .ok (.arraylength, 1) := by decide +kernel
theorem dX5_add_16 : decode cX5_add 16 = .ok (.if_icmp .ge 23, 3) := by decide +kernel
theorem dX5_add_19 : decode cX5_add 19 = .ok (.aload_n 0, 1) := by decide +kernel
theorem dX5_add_20 : decode cX5_add 20 = .ok (.getfield 9, 3) := by decide +kernel
theorem dX5_add_23 : decode cX5_add 23 = .ok (.aload_n 0, 1) := by decide +kernel
theorem dX5_add_24 : decode cX5_add 24 = .ok (.getfield 15, 3) := by decide +kernel
theorem dX5_add_27 : decode cX5_add 27 = .ok (.lload_n 1, 1) := by decide +kernel
theorem dX5_add_28 : decode cX5_add 28 = .ok (.lastore, 1) := by decide +kernel
theorem dX5_add_29 : decode cX5_add 29 = .ok (.aload_n 0, 1) := by decide +kernel
theorem dX5_add_30 : decode cX5_add 30 = .ok (.dup, 1) := by decide +kernel
theorem dX5_add_31 : decode cX5_add 31 = .ok (.getfield 15, 3) := by decide +kernel
theorem dX5_add_34 : decode cX5_add 34 = .ok (.iconst 1, 1) := by decide +kernel
theorem dX5_add_35 : decode cX5_add 35 = .ok (.iadd, 1) := by decide +kernel
theorem dX5_add_36 : decode cX5_add 36 = .ok (.putfield 15, 3) := by decide +kernel
theorem dX5_add_39 : decode cX5_add 39 = .ok (.return_, 1) := by decide +kernel
def fX5_add (h : AH) (a0 : Nat) (a1 : Int64) : Option (AH) :=
  if hasC h 5 a0 = true then (
    (gI h 5 a0 1).bind fun x1 =>
    if x1 < 0 then (
      some h
    ) else (
      (gI h 5 a0 1).bind fun x2 =>
      (gR h 5 a0 0).bind fun x3 =>
      (aL h 1 x3).bind fun x4 =>
      if x4 ≤ x2 then (
        some h
      ) else (
        (gR h 5 a0 0).bind fun x5 =>
        (gI h 5 a0 1).bind fun x6 =>
        (sJ h x5 x6 a1).bind fun h7 =>
        (gI h7 5 a0 1).bind fun x8 =>
        (pF h7 5 a0 1 (.int (x8 + 1))).bind fun h9 =>
        some h9
      )
    )
  ) else none
set_option maxHeartbeats 4000000 in
theorem mX5_add {h : AH} {a0 : Nat} {a1 : Int64} {r : AH} (hr : fX5_add h a0 a1 = some r) : hasC h 5 a0 = true ∧ MC yX5_add cX5_add 3 none 1 0 0 [.ref a0, .long a1] h none r := by
  unfold fX5_add at hr
  obtain ⟨hc, hr⟩ := if_some hr
  refine ⟨hc, mc_of (l0 := [(0, .ref a0), (1, .long a1)]) rfl pn_X5 (Nat.le_of_ble_eq_true rfl) (fun Y X C E O hnm => go_run hr ?_)⟩
  have C : CT Y X RX5 cX5_add 3 := C
  refine go_aload_n (pc := 0) C 0 dX5_add_0 rfl ?_
  refine go_gI (pc := 1) C fdX5_15 dX5_add_1 (fun x1 => ?_)
  refine go_if_lt (pc := 4) C 39 dX5_add_4 (by decide) (fun _ => ?_) (fun _ => ?_)
  · exact go_vret (w := wV) (pc := 39) C E h dX5_add_39 rfl
  · refine go_aload_n (pc := 7) C 0 dX5_add_7 rfl ?_
    refine go_gI (pc := 8) C fdX5_15 dX5_add_8 (fun x2 => ?_)
    refine go_aload_n (pc := 11) C 0 dX5_add_11 rfl ?_
    refine go_gR (pc := 12) C fdX5_9 dX5_add_12 (fun x3 => ?_)
    refine go_alen (pc := 15) C 1 (by decide) dX5_add_15 (fun x4 => ?_)
    refine go_icmp_ge (pc := 16) C 39 dX5_add_16 (by decide) (fun _ => ?_) (fun _ => ?_)
    · exact go_vret (w := wV) (pc := 39) C E h dX5_add_39 rfl
    · refine go_aload_n (pc := 19) C 0 dX5_add_19 rfl ?_
      refine go_gR (pc := 20) C fdX5_9 dX5_add_20 (fun x5 => ?_)
      refine go_aload_n (pc := 23) C 0 dX5_add_23 rfl ?_
      refine go_gI (pc := 24) C fdX5_15 dX5_add_24 (fun x6 => ?_)
      refine go_lload_n (pc := 27) C 1 dX5_add_27 rfl ?_
      refine go_last (pc := 28) C dX5_add_28 (fun h7 => ?_)
      refine go_aload_n (pc := 29) C 0 dX5_add_29 rfl ?_
      refine go_dup (pc := 30) C dX5_add_30 rfl ?_
      refine go_gI (pc := 31) C fdX5_15 dX5_add_31 (fun x8 => ?_)
      refine go_iconst (pc := 34) C dX5_add_34 ki_1 ?_
      refine go_iadd (pc := 35) C dX5_add_35 ?_
      refine go_pI (pc := 36) C fpX5_15 dX5_add_36 (fun h9 => ?_)
      exact go_vret (w := wV) (pc := 39) C E h9 dX5_add_39 rfl
theorem dX5_total_0 : decode cX5_total 0 = .ok (.aload_n 0, 1) := by decide +kernel
theorem dX5_total_1 : decode cX5_total 1 = .ok (.getfield 15, 3) := by decide +kernel
theorem dX5_total_4 : decode cX5_total 4 = .ok (.ireturn, 1) := by decide +kernel
def fX5_total (h : AH) (a0 : Nat) : Option (Int32) :=
  if hasC h 5 a0 = true then (
    (gI h 5 a0 1).bind fun x1 =>
    some x1
  ) else none
set_option maxHeartbeats 4000000 in
theorem mX5_total {h : AH} {a0 : Nat} {r : Int32} (hr : fX5_total h a0 = some r) : hasC h 5 a0 = true ∧ MC yX5_total cX5_total 1 (some .int) 1 0 0 [.ref a0] h (some (.int r)) h := by
  unfold fX5_total at hr
  obtain ⟨hc, hr⟩ := if_some hr
  refine ⟨hc, mc_of (l0 := [(0, .ref a0)]) rfl pn_X5 (Nat.le_of_ble_eq_true rfl) (fun Y X C E O hnm => go_run hr ?_)⟩
  have C : CT Y X RX5 cX5_total 1 := C
  refine go_aload_n (pc := 0) C 0 dX5_total_0 rfl ?_
  refine go_gI (pc := 1) C fdX5_15 dX5_total_1 (fun x1 => ?_)
  exact go_iret (w := (wI h)) (pc := 4) C E x1 x1 dX5_total_4 rfl
theorem dX5_has_0 : decode cX5_has 0 = .ok (.iload_n 1, 1) := by decide +kernel
theorem dX5_has_1 : decode cX5_has 1 = .ok (.ifCond .lt 24, 3) := by decide +kernel
theorem dX5_has_4 : decode cX5_has 4 = .ok (.iload_n 1, 1) := by decide +kernel
theorem dX5_has_5 : decode cX5_has 5 = .ok (.aload_n 0, 1) := by decide +kernel
theorem dX5_has_6 : decode cX5_has 6 = .ok (.getfield 15, 3) := by decide +kernel
theorem dX5_has_9 : decode cX5_has 9 = .ok (.if_icmp .ge 16, 3) := by decide +kernel
theorem dX5_has_12 : decode cX5_has 12 = .ok (.iload_n 1, 1) := by decide +kernel
theorem dX5_has_13 : decode cX5_has 13 = .ok (.aload_n 0, 1) := by decide +kernel
theorem dX5_has_14 : decode cX5_has 14 = .ok (.getfield 9, 3) := by decide +kernel
theorem dX5_has_17 : decode cX5_has 17 = .ok (.arraylength, 1) := by decide +kernel
theorem dX5_has_18 : decode cX5_has 18 = .ok (.if_icmp .ge 7, 3) := by decide +kernel
theorem dX5_has_21 : decode cX5_has 21 = .ok (.iconst 1, 1) := by decide +kernel
theorem dX5_has_22 : decode cX5_has 22 = .ok (.goto 4, 3) := by decide +kernel
theorem dX5_has_25 : decode cX5_has 25 = .ok (.iconst 0, 1) := by decide +kernel
theorem dX5_has_26 : decode cX5_has 26 = .ok (.ireturn, 1) := by decide +kernel
def fX5_has (h : AH) (a0 : Nat) (a1 : Int32) : Option (Bool) :=
  if hasC h 5 a0 = true then (
    if a1 < 0 then (
      some false
    ) else (
      (gI h 5 a0 1).bind fun x1 =>
      if x1 ≤ a1 then (
        some false
      ) else (
        (gR h 5 a0 0).bind fun x2 =>
        (aL h 1 x2).bind fun x3 =>
        if x3 ≤ a1 then (
          some false
        ) else (
          some true
        )
      )
    )
  ) else none
set_option maxHeartbeats 4000000 in
theorem mX5_has {h : AH} {a0 : Nat} {a1 : Int32} {r : Bool} (hr : fX5_has h a0 a1 = some r) : hasC h 5 a0 = true ∧ MC yX5_has cX5_has 2 (some .boolean) 1 0 0 [.ref a0, .int a1] h (some (.int (b2i r))) h := by
  unfold fX5_has at hr
  obtain ⟨hc, hr⟩ := if_some hr
  refine ⟨hc, mc_of (l0 := [(0, .ref a0), (1, .int a1)]) rfl pn_X5 (Nat.le_of_ble_eq_true rfl) (fun Y X C E O hnm => go_run hr ?_)⟩
  have C : CT Y X RX5 cX5_has 2 := C
  refine go_iload_n (pc := 0) C 1 dX5_has_0 rfl ?_
  refine go_if_lt (pc := 1) C 25 dX5_has_1 (by decide) (fun _ => ?_) (fun _ => ?_)
  · refine go_iconst (pc := 25) C dX5_has_25 ki_0 ?_
    exact go_bret (w := (wZ h)) (pc := 26) C E false 0 false rfl dX5_has_26 rfl
  · refine go_iload_n (pc := 4) C 1 dX5_has_4 rfl ?_
    refine go_aload_n (pc := 5) C 0 dX5_has_5 rfl ?_
    refine go_gI (pc := 6) C fdX5_15 dX5_has_6 (fun x1 => ?_)
    refine go_icmp_ge (pc := 9) C 25 dX5_has_9 (by decide) (fun _ => ?_) (fun _ => ?_)
    · refine go_iconst (pc := 25) C dX5_has_25 ki_0 ?_
      exact go_bret (w := (wZ h)) (pc := 26) C E false 0 false rfl dX5_has_26 rfl
    · refine go_iload_n (pc := 12) C 1 dX5_has_12 rfl ?_
      refine go_aload_n (pc := 13) C 0 dX5_has_13 rfl ?_
      refine go_gR (pc := 14) C fdX5_9 dX5_has_14 (fun x2 => ?_)
      refine go_alen (pc := 17) C 1 (by decide) dX5_has_17 (fun x3 => ?_)
      refine go_icmp_ge (pc := 18) C 25 dX5_has_18 (by decide) (fun _ => ?_) (fun _ => ?_)
      · refine go_iconst (pc := 25) C dX5_has_25 ki_0 ?_
        exact go_bret (w := (wZ h)) (pc := 26) C E false 0 false rfl dX5_has_26 rfl
      · refine go_iconst (pc := 21) C dX5_has_21 ki_1 ?_
        refine go_goto (pc := 22) C 26 dX5_has_22 (by decide) ?_
        exact go_bret (w := (wZ h)) (pc := 26) C E true 1 true rfl dX5_has_26 rfl
theorem dX5_number_0 : decode cX5_number 0 = .ok (.aload_n 0, 1) := by decide +kernel
theorem dX5_number_1 : decode cX5_number 1 = .ok (.iload_n 1, 1) := by decide +kernel
theorem dX5_number_2 : decode cX5_number 2 = .ok (.invokevirtual 19, 3) := by decide +kernel
theorem dX5_number_5 : decode cX5_number 5 = .ok (.ifCond .eq 12, 3) := by decide +kernel
theorem dX5_number_8 : decode cX5_number 8 = .ok (.aload_n 0, 1) := by decide +kernel
theorem dX5_number_9 : decode cX5_number 9 = .ok (.getfield 9, 3) := by decide +kernel
theorem dX5_number_12 : decode cX5_number 12 = .ok (.iload_n 1, 1) := by decide +kernel
theorem dX5_number_13 : decode cX5_number 13 = .ok (.laload, 1) := by decide +kernel
theorem dX5_number_14 : decode cX5_number 14 = .ok (.goto 4, 3) := by decide +kernel
theorem dX5_number_17 : decode cX5_number 17 = .ok (.lconst 0, 1) := by decide +kernel
theorem dX5_number_18 : decode cX5_number 18 = .ok (.lreturn, 1) := by decide +kernel
def fX5_number (h : AH) (a0 : Nat) (a1 : Int32) : Option (Int64) :=
  if hasC h 5 a0 = true then (
    (fX5_has h a0 a1).bind fun q1 =>
    if q1 = true then (
      (gR h 5 a0 0).bind fun x2 =>
      (aJ h x2 a1).bind fun x3 =>
      some x3
    ) else (
      some 0
    )
  ) else none
set_option maxHeartbeats 4000000 in
theorem mX5_number {h : AH} {a0 : Nat} {a1 : Int32} {r : Int64} (hr : fX5_number h a0 a1 = some r) : hasC h 5 a0 = true ∧ MC yX5_number cX5_number 2 (some .long) 2 0 0 [.ref a0, .int a1] h (some (.long r)) h := by
  unfold fX5_number at hr
  obtain ⟨hc, hr⟩ := if_some hr
  refine ⟨hc, mc_of (l0 := [(0, .ref a0), (1, .int a1)]) rfl pn_X5 (Nat.le_of_ble_eq_true rfl) (fun Y X C E O hnm => go_run hr ?_)⟩
  have C : CT Y X RX5 cX5_number 2 := C
  refine go_aload_n (pc := 0) C 0 dX5_number_0 rfl ?_
  refine go_iload_n (pc := 1) C 1 dX5_number_1 rfl ?_
  refine go_bind (fun q1 hq1 => ?_)
  refine go_callV (rest := []) (st' := [.int (b2i q1)]) (c' := 0) (s' := 0) (pc := 2) C O miX5_19 mvX5_has [.int a1] rfl (mX5_has hq1).1 (mX5_has hq1).2 dX5_number_2 ⟨by decide, by decide, by decide, by decide⟩ rfl (Nat.le_of_ble_eq_true rfl) rfl ⟨rfl, rfl⟩ ?_
  refine go_ifZ_eq (pc := 5) C 17 dX5_number_5 (by decide) (fun _ => ?_) (fun _ => ?_)
  · refine go_aload_n (pc := 8) C 0 dX5_number_8 rfl ?_
    refine go_gR (pc := 9) C fdX5_9 dX5_number_9 (fun x2 => ?_)
    refine go_iload_n (pc := 12) C 1 dX5_number_12 rfl ?_
    refine go_lald (pc := 13) C dX5_number_13 (fun x3 => ?_)
    refine go_goto (pc := 14) C 18 dX5_number_14 (by decide) ?_
    exact go_lret (w := (wJ h)) (pc := 18) C E x3 x3 dX5_number_18 rfl
  · refine go_lconst (v := 0) (pc := 17) C dX5_number_17 (by decide) ?_
    exact go_lret (w := (wJ h)) (pc := 18) C E 0 0 dX5_number_18 rfl
theorem dX6_init_0 : decode cX6_init 0 = .ok (.aload_n 0, 1) := by decide +kernel
theorem dX6_init_1 : decode cX6_init 1 = .ok (.invokespecial 3, 3) := by decide +kernel
theorem dX6_init_4 : decode cX6_init 4 = .ok (.aload_n 0, 1) := by decide +kernel
theorem dX6_init_5 : decode cX6_init 5 = .ok (.bipush 40, 2) := by decide +kernel
theorem dX6_init_7 : decode cX6_init 7 = .ok (.newarray .int, 2) := by decide +kernel
theorem dX6_init_9 : decode cX6_init 9 = .ok (.putfield 9, 3) := by decide +kernel
theorem dX6_init_12 : decode cX6_init 12 = .ok (.aload_n 0, 1) := by decide +kernel
theorem dX6_init_13 : decode cX6_init 13 = .ok (.bipush 40, 2) := by decide +kernel
theorem dX6_init_15 : decode cX6_init 15 = .ok (.newarray .int, 2) := by decide +kernel
theorem dX6_init_17 : decode cX6_init 17 = .ok (.putfield 15, 3) := by decide +kernel
theorem dX6_init_20 : decode cX6_init 20 = .ok (.return_, 1) := by decide +kernel
def fX6_init (h : AH) (a0 : Nat) : Option (AH) :=
  letF (hnew h (.inl (0, newD 0 40))) fun h1 =>
  (pF h1 6 a0 0 (.ref h.2)).bind fun h2 =>
  letF (hnew h2 (.inl (0, newD 0 40))) fun h3 =>
  (pF h3 6 a0 1 (.ref h2.2)).bind fun h4 =>
  some h4
set_option maxHeartbeats 4000000 in
theorem mX6_init {h : AH} {a0 : Nat} {r : AH} (hr : fX6_init h a0 = some r) : MC yX6_init cX6_init 1 none 1 2 80 [.ref a0] h none r := by
  unfold fX6_init at hr
  refine mc_of (l0 := [(0, .ref a0)]) rfl pn_X6 (Nat.le_of_ble_eq_true rfl) (fun Y X C E O hnm => go_run hr ?_)
  have C : CT Y X RX6 cX6_init 1 := C
  refine go_aload_n (pc := 0) C 0 dX6_init_0 rfl ?_
  refine go_objInit (pc := 1) C O w_204 w_120 w_121 dX6_init_1 (by decide) (Nat.le_of_ble_eq_true rfl) ?_
  refine go_aload_n (pc := 4) C 0 dX6_init_4 rfl ?_
  refine go_bipush (pc := 5) C dX6_init_5 kb_40 ?_
  refine go_newa (atype := .int) (t := 0) (c' := 1) (s' := 40) (pc := 7) 40 C O ⟨rfl, by decide⟩ w_172 (by decide) (by decide) (by decide) dX6_init_7 ⟨by decide, by decide⟩ ⟨rfl, rfl⟩ (fun h1 => ?_)
  refine go_pRF (pc := 9) C hnm fpX6_9 dX6_init_9 (fun _ => rfl) (fun _ => rfl) (fun h2 => ?_)
  refine go_aload_n (pc := 12) C 0 dX6_init_12 rfl ?_
  refine go_bipush (pc := 13) C dX6_init_13 kb_40 ?_
  refine go_newa (atype := .int) (t := 0) (c' := 2) (s' := 80) (pc := 15) 40 C O ⟨rfl, by decide⟩ w_172 (by decide) (by decide) (by decide) dX6_init_15 ⟨by decide, by decide⟩ ⟨rfl, rfl⟩ (fun h3 => ?_)
  refine go_pRF (pc := 17) C hnm fpX6_15 dX6_init_17 (fun _ => rfl) (fun _ => rfl) (fun h4 => ?_)
  exact go_vret (w := wV) (pc := 20) C E h4 dX6_init_20 rfl
theorem dX6_clear_0 : decode cX6_clear 0 = .ok (.aload_n 0, 1) := by decide +kernel
theorem dX6_clear_1 : decode cX6_clear 1 = .ok (.iconst 0, 1) := by decide +kernel
theorem dX6_clear_2 : decode cX6_clear 2 = .ok (.putfield 18, 3) := by decide +kernel
theorem dX6_clear_5 : decode cX6_clear 5 = .ok (.return_, 1) := by decide +kernel
def fX6_clear (h : AH) (a0 : Nat) : Option (AH) :=
  if hasC h 6 a0 = true then (
    (pF h 6 a0 2 (.int 0)).bind fun h1 =>
    some h1
  ) else none
set_option maxHeartbeats 4000000 in
theorem mX6_clear {h : AH} {a0 : Nat} {r : AH} (hr : fX6_clear h a0 = some r) : hasC h 6 a0 = true ∧ MC yX6_clear cX6_clear 1 none 1 0 0 [.ref a0] h none r := by
  unfold fX6_clear at hr
  obtain ⟨hc, hr⟩ := if_some hr
  refine ⟨hc, mc_of (l0 := [(0, .ref a0)]) rfl pn_X6 (Nat.le_of_ble_eq_true rfl) (fun Y X C E O hnm => go_run hr ?_)⟩
  have C : CT Y X RX6 cX6_clear 1 := C
  refine go_aload_n (pc := 0) C 0 dX6_clear_0 rfl ?_
  refine go_iconst (pc := 1) C dX6_clear_1 ki_0 ?_
  refine go_pI (pc := 2) C fpX6_18 dX6_clear_2 (fun h1 => ?_)
  exact go_vret (w := wV) (pc := 5) C E h1 dX6_clear_5 rfl
theorem dX6_addNumber_0 : decode cX6_addNumber 0 = .ok (.aload_n 0, 1) := by decide +kernel
theorem dX6_addNumber_1 : decode cX6_addNumber 1 = .ok (.getfield 18, 3) := by decide +kernel
theorem dX6_addNumber_4 : decode cX6_addNumber 4 = .ok (.ifCond .lt 35, 3) := by decide +kernel
theorem dX6_addNumber_7 : decode cX6_addNumber 7 = .ok (.aload_n 0, 1) := by decide +kernel
theorem dX6_addNumber_8 : decode cX6_addNumber 8 = .ok (.getfield 18, 3) := by decide +kernel
theorem dX6_addNumber_11 : decode cX6_addNumber 11 = .ok (.aload_n 0, 1) := by decide +kernel
theorem dX6_addNumber_12 : decode cX6_addNumber 12 = .ok (.getfield 9, 3) := by decide +kernel
theorem dX6_addNumber_15 : decode cX6_addNumber 15 = .ok (.arraylength, 1) := by decide +kernel
theorem dX6_addNumber_16 : decode cX6_addNumber 16 = .ok (.if_icmp .ge 23, 3) := by decide +kernel
theorem dX6_addNumber_19 : decode cX6_addNumber 19 = .ok (.aload_n 0, 1) := by decide +kernel
theorem dX6_addNumber_20 : decode cX6_addNumber 20 = .ok (.getfield 9, 3) := by decide +kernel
theorem dX6_addNumber_23 : decode cX6_addNumber 23 = .ok (.aload_n 0, 1) := by decide +kernel
theorem dX6_addNumber_24 : decode cX6_addNumber 24 = .ok (.getfield 18, 3) := by decide +kernel
theorem dX6_addNumber_27 : decode cX6_addNumber 27 = .ok (.iload_n 1, 1) := by decide +kernel
theorem dX6_addNumber_28 : decode cX6_addNumber 28 = .ok (.iastore, 1) := by decide +kernel
theorem dX6_addNumber_29 : decode cX6_addNumber 29 = .ok (.aload_n 0, 1) := by decide +kernel
theorem dX6_addNumber_30 : decode cX6_addNumber 30 = .ok (.dup, 1) := by decide +kernel
theorem dX6_addNumber_31 : decode cX6_addNumber 31 = .ok (.getfield 18, 3) := by decide +kernel
theorem dX6_addNumber_34 : decode cX6_addNumber 34 = .ok (.iconst 1, 1) := by decide +kernel
theorem dX6_addNumber_35 : decode cX6_addNumber 35 = .ok (.iadd, 1) := by decide +kernel
theorem dX6_addNumber_36 : decode cX6_addNumber 36 = .ok (.putfield 18, 3) := by decide +kernel
theorem dX6_addNumber_39 : decode cX6_addNumber 39 = .ok (.return_, 1) := by decide +kernel
def fX6_addNumber (h : AH) (a0 : Nat) (a1 : Int32) : Option (AH) :=
  if hasC h 6 a0 = true then (
    (gI h 6 a0 2).bind fun x1 =>
    if x1 < 0 then (
      some h
    ) else (
      (gI h 6 a0 2).bind fun x2 =>
      (gR h 6 a0 0).bind fun x3 =>
      (aL h 0 x3).bind fun x4 =>
      if x4 ≤ x2 then (
        some h
      ) else (
        (gR h 6 a0 0).bind fun x5 =>
        (gI h 6 a0 2).bind fun x6 =>
        (sI h 0 x5 x6 a1).bind fun h7 =>
        (gI h7 6 a0 2).bind fun x8 =>
        (pF h7 6 a0 2 (.int (x8 + 1))).bind fun h9 =>
        some h9
      )
    )
  ) else none
set_option maxHeartbeats 4000000 in
theorem mX6_addNumber {h : AH} {a0 : Nat} {a1 : Int32} {r : AH} (hr : fX6_addNumber h a0 a1 = some r) : hasC h 6 a0 = true ∧ MC yX6_addNumber cX6_addNumber 2 none 1 0 0 [.ref a0, .int a1] h none r := by
  unfold fX6_addNumber at hr
  obtain ⟨hc, hr⟩ := if_some hr
  refine ⟨hc, mc_of (l0 := [(0, .ref a0), (1, .int a1)]) rfl pn_X6 (Nat.le_of_ble_eq_true rfl) (fun Y X C E O hnm => go_run hr ?_)⟩
  have C : CT Y X RX6 cX6_addNumber 2 := C
  refine go_aload_n (pc := 0) C 0 dX6_addNumber_0 rfl ?_
  refine go_gI (pc := 1) C fdX6_18 dX6_addNumber_1 (fun x1 => ?_)
  refine go_if_lt (pc := 4) C 39 dX6_addNumber_4 (by decide) (fun _ => ?_) (fun _ => ?_)
  · exact go_vret (w := wV) (pc := 39) C E h dX6_addNumber_39 rfl
  · refine go_aload_n (pc := 7) C 0 dX6_addNumber_7 rfl ?_
    refine go_gI (pc := 8) C fdX6_18 dX6_addNumber_8 (fun x2 => ?_)
    refine go_aload_n (pc := 11) C 0 dX6_addNumber_11 rfl ?_
    refine go_gR (pc := 12) C fdX6_9 dX6_addNumber_12 (fun x3 => ?_)
    refine go_alen (pc := 15) C 0 (by decide) dX6_addNumber_15 (fun x4 => ?_)
    refine go_icmp_ge (pc := 16) C 39 dX6_addNumber_16 (by decide) (fun _ => ?_) (fun _ => ?_)
    · exact go_vret (w := wV) (pc := 39) C E h dX6_addNumber_39 rfl
    · refine go_aload_n (pc := 19) C 0 dX6_addNumber_19 rfl ?_
      refine go_gR (pc := 20) C fdX6_9 dX6_addNumber_20 (fun x5 => ?_)
      refine go_aload_n (pc := 23) C 0 dX6_addNumber_23 rfl ?_
      refine go_gI (pc := 24) C fdX6_18 dX6_addNumber_24 (fun x6 => ?_)
      refine go_iload_n (pc := 27) C 1 dX6_addNumber_27 rfl ?_
      refine go_iast (pc := 28) C dX6_addNumber_28 (fun h7 => ?_)
      refine go_aload_n (pc := 29) C 0 dX6_addNumber_29 rfl ?_
      refine go_dup (pc := 30) C dX6_addNumber_30 rfl ?_
      refine go_gI (pc := 31) C fdX6_18 dX6_addNumber_31 (fun x8 => ?_)
      refine go_iconst (pc := 34) C dX6_addNumber_34 ki_1 ?_
      refine go_iadd (pc := 35) C dX6_addNumber_35 ?_
      refine go_pI (pc := 36) C fpX6_18 dX6_addNumber_36 (fun h9 => ?_)
      exact go_vret (w := wV) (pc := 39) C E h9 dX6_addNumber_39 rfl
theorem dX6_addSign_0 : decode cX6_addSign 0 = .ok (.aload_n 0, 1) := by decide +kernel
theorem dX6_addSign_1 : decode cX6_addSign 1 = .ok (.sipush 1000, 3) := by decide +kernel
theorem dX6_addSign_4 : decode cX6_addSign 4 = .ok (.iload_n 1, 1) := by decide +kernel
theorem dX6_addSign_5 : decode cX6_addSign 5 = .ok (.iadd, 1) := by decide +kernel
theorem dX6_addSign_6 : decode cX6_addSign 6 = .ok (.invokevirtual 29, 3) := by decide +kernel
theorem dX6_addSign_9 : decode cX6_addSign 9 = .ok (.return_, 1) := by decide +kernel
def fX6_addSign (h : AH) (a0 : Nat) (a1 : Int32) : Option (AH) :=
  if hasC h 6 a0 = true then (
    (fX6_addNumber h a0 (1000 + a1)).bind fun q1 =>
    some q1
  ) else none
set_option maxHeartbeats 4000000 in
theorem mX6_addSign {h : AH} {a0 : Nat} {a1 : Int32} {r : AH} (hr : fX6_addSign h a0 a1 = some r) : hasC h 6 a0 = true ∧ MC yX6_addSign cX6_addSign 2 none 2 0 0 [.ref a0, .int a1] h none r := by
  unfold fX6_addSign at hr
  obtain ⟨hc, hr⟩ := if_some hr
  refine ⟨hc, mc_of (l0 := [(0, .ref a0), (1, .int a1)]) rfl pn_X6 (Nat.le_of_ble_eq_true rfl) (fun Y X C E O hnm => go_run hr ?_)⟩
  have C : CT Y X RX6 cX6_addSign 2 := C
  refine go_aload_n (pc := 0) C 0 dX6_addSign_0 rfl ?_
  refine go_sipush (pc := 1) C dX6_addSign_1 ks_1000 ?_
  refine go_iload_n (pc := 4) C 1 dX6_addSign_4 rfl ?_
  refine go_iadd (pc := 5) C dX6_addSign_5 ?_
  refine go_bind (fun q1 hq1 => ?_)
  refine go_callV (rest := []) (st' := []) (c' := 0) (s' := 0) (pc := 6) C O miX6_29 mvX6_addNumber [.int (1000 + a1)] rfl (mX6_addNumber hq1).1 (mX6_addNumber hq1).2 dX6_addSign_6 ⟨by decide, by decide, by decide, by decide⟩ rfl (Nat.le_of_ble_eq_true rfl) rfl ⟨rfl, rfl⟩ ?_
  exact go_vret (w := wV) (pc := 9) C E q1 dX6_addSign_9 rfl
theorem dX6_becomeNone_0 : decode cX6_becomeNone 0 = .ok (.aload_n 0, 1) := by decide +kernel
theorem dX6_becomeNone_1 : decode cX6_becomeNone 1 = .ok (.invokevirtual 22, 3) := by decide +kernel
theorem dX6_becomeNone_4 : decode cX6_becomeNone 4 = .ok (.aload_n 0, 1) := by decide +kernel
theorem dX6_becomeNone_5 : decode cX6_becomeNone 5 = .ok (.bipush 110, 2) := by decide +kernel
theorem dX6_becomeNone_7 : decode cX6_becomeNone 7 = .ok (.invokevirtual 25, 3) := by decide +kernel
theorem dX6_becomeNone_10 : decode cX6_becomeNone 10 = .ok (.aload_n 0, 1) := by decide +kernel
theorem dX6_becomeNone_11 : decode cX6_becomeNone 11 = .ok (.iconst 3, 1) := by decide +kernel
theorem dX6_becomeNone_12 : decode cX6_becomeNone 12 = .ok (.invokevirtual 29, 3) := by decide +kernel
theorem dX6_becomeNone_15 : decode cX6_becomeNone 15 = .ok (.aload_n 0, 1) := by decide +kernel
theorem dX6_becomeNone_16 : decode cX6_becomeNone 16 = .ok (.bipush 62, 2) := by decide +kernel
theorem dX6_becomeNone_18 : decode cX6_becomeNone 18 = .ok (.invokevirtual 25, 3) := by decide +kernel
theorem dX6_becomeNone_21 : decode cX6_becomeNone 21 = .ok (.return_, 1) := by decide +kernel
def fX6_becomeNone (h : AH) (a0 : Nat) : Option (AH) :=
  if hasC h 6 a0 = true then (
    (fX6_clear h a0).bind fun q1 =>
    (fX6_addSign q1 a0 110).bind fun q2 =>
    (fX6_addNumber q2 a0 3).bind fun q3 =>
    (fX6_addSign q3 a0 62).bind fun q4 =>
    some q4
  ) else none
set_option maxHeartbeats 4000000 in
theorem mX6_becomeNone {h : AH} {a0 : Nat} {r : AH} (hr : fX6_becomeNone h a0 = some r) : hasC h 6 a0 = true ∧ MC yX6_becomeNone cX6_becomeNone 1 none 3 0 0 [.ref a0] h none r := by
  unfold fX6_becomeNone at hr
  obtain ⟨hc, hr⟩ := if_some hr
  refine ⟨hc, mc_of (l0 := [(0, .ref a0)]) rfl pn_X6 (Nat.le_of_ble_eq_true rfl) (fun Y X C E O hnm => go_run hr ?_)⟩
  have C : CT Y X RX6 cX6_becomeNone 1 := C
  refine go_aload_n (pc := 0) C 0 dX6_becomeNone_0 rfl ?_
  refine go_bind (fun q1 hq1 => ?_)
  refine go_callV (rest := []) (st' := []) (c' := 0) (s' := 0) (pc := 1) C O miX6_22 mvX6_clear [] rfl (mX6_clear hq1).1 (mX6_clear hq1).2 dX6_becomeNone_1 ⟨by decide, by decide, by decide, by decide⟩ rfl (Nat.le_of_ble_eq_true rfl) rfl ⟨rfl, rfl⟩ ?_
  refine go_aload_n (pc := 4) C 0 dX6_becomeNone_4 rfl ?_
  refine go_bipush (pc := 5) C dX6_becomeNone_5 kb_110 ?_
  refine go_bind (fun q2 hq2 => ?_)
  refine go_callV (rest := []) (st' := []) (c' := 0) (s' := 0) (pc := 7) C O miX6_25 mvX6_addSign [.int 110] rfl (mX6_addSign hq2).1 (mX6_addSign hq2).2 dX6_becomeNone_7 ⟨by decide, by decide, by decide, by decide⟩ rfl (Nat.le_of_ble_eq_true rfl) rfl ⟨rfl, rfl⟩ ?_
  refine go_aload_n (pc := 10) C 0 dX6_becomeNone_10 rfl ?_
  refine go_iconst (pc := 11) C dX6_becomeNone_11 ki_3 ?_
  refine go_bind (fun q3 hq3 => ?_)
  refine go_callV (rest := []) (st' := []) (c' := 0) (s' := 0) (pc := 12) C O miX6_29 mvX6_addNumber [.int 3] rfl (mX6_addNumber hq3).1 (mX6_addNumber hq3).2 dX6_becomeNone_12 ⟨by decide, by decide, by decide, by decide⟩ rfl (Nat.le_of_ble_eq_true rfl) rfl ⟨rfl, rfl⟩ ?_
  refine go_aload_n (pc := 15) C 0 dX6_becomeNone_15 rfl ?_
  refine go_bipush (pc := 16) C dX6_becomeNone_16 kb_62 ?_
  refine go_bind (fun q4 hq4 => ?_)
  refine go_callV (rest := []) (st' := []) (c' := 0) (s' := 0) (pc := 18) C O miX6_25 mvX6_addSign [.int 62] rfl (mX6_addSign hq4).1 (mX6_addSign hq4).2 dX6_becomeNone_18 ⟨by decide, by decide, by decide, by decide⟩ rfl (Nat.le_of_ble_eq_true rfl) rfl ⟨rfl, rfl⟩ ?_
  exact go_vret (w := wV) (pc := 21) C E q4 dX6_becomeNone_21 rfl
theorem dX6_copyFrom_0 : decode cX6_copyFrom 0 = .ok (.aload_n 1, 1) := by decide +kernel
theorem dX6_copyFrom_1 : decode cX6_copyFrom 1 = .ok (.getfield 9, 3) := by decide +kernel
theorem dX6_copyFrom_4 : decode cX6_copyFrom 4 = .ok (.iconst 0, 1) := by decide +kernel
theorem dX6_copyFrom_5 : decode cX6_copyFrom 5 = .ok (.aload_n 0, 1) := by decide +kernel
theorem dX6_copyFrom_6 : decode cX6_copyFrom 6 = .ok (.getfield 9, 3) := by decide +kernel
theorem dX6_copyFrom_9 : decode cX6_copyFrom 9 = .ok (.iconst 0, 1) := by decide +kernel
theorem dX6_copyFrom_10 : decode cX6_copyFrom 10 = .ok (.bipush 40, 2) := by decide +kernel
theorem dX6_copyFrom_12 : decode cX6_copyFrom 12 = .ok (.invokestatic 33, 3) := by decide +kernel
theorem dX6_copyFrom_15 : decode cX6_copyFrom 15 = .ok (.aload_n 0, 1) := by decide +kernel
theorem dX6_copyFrom_16 : decode cX6_copyFrom 16 = .ok (.aload_n 1, 1) := by decide +kernel
theorem dX6_copyFrom_17 : decode cX6_copyFrom 17 = .ok (.getfield 18, 3) := by decide +kernel
theorem dX6_copyFrom_20 : decode cX6_copyFrom 20 = .ok (.putfield 18, 3) := by decide +kernel
theorem dX6_copyFrom_23 : decode cX6_copyFrom 23 = .ok (.return_, 1) := by decide +kernel
def fX6_copyFrom (h : AH) (a0 : Nat) (a1 : Nat) : Option (AH) :=
  if hasC h 6 a0 = true then (
    (gR h 6 a1 0).bind fun x1 =>
    (gR h 6 a0 0).bind fun x2 =>
    (acI h x1 0 x2 0 40).bind fun h3 =>
    (gI h3 6 a1 2).bind fun x4 =>
    (pF h3 6 a0 2 (.int x4)).bind fun h5 =>
    some h5
  ) else none
set_option maxHeartbeats 4000000 in
theorem mX6_copyFrom {h : AH} {a0 : Nat} {a1 : Nat} {r : AH} (hr : fX6_copyFrom h a0 a1 = some r) : hasC h 6 a0 = true ∧ MC yX6_copyFrom cX6_copyFrom 2 none 1 0 0 [.ref a0, .ref a1] h none r := by
  unfold fX6_copyFrom at hr
  obtain ⟨hc, hr⟩ := if_some hr
  refine ⟨hc, mc_of (l0 := [(0, .ref a0), (1, .ref a1)]) rfl pn_X6 (Nat.le_of_ble_eq_true rfl) (fun Y X C E O hnm => go_run hr ?_)⟩
  have C : CT Y X RX6 cX6_copyFrom 2 := C
  refine go_aload_n (pc := 0) C 1 dX6_copyFrom_0 rfl ?_
  refine go_gR (pc := 1) C fdX6_9 dX6_copyFrom_1 (fun x1 => ?_)
  refine go_iconst (pc := 4) C dX6_copyFrom_4 ki_0 ?_
  refine go_aload_n (pc := 5) C 0 dX6_copyFrom_5 rfl ?_
  refine go_gR (pc := 6) C fdX6_9 dX6_copyFrom_6 (fun x2 => ?_)
  refine go_iconst (pc := 9) C dX6_copyFrom_9 ki_0 ?_
  refine go_bipush (pc := 10) C dX6_copyFrom_10 kb_40 ?_
  refine go_acI (pc := 12) C O w_537 w_424 w_423 w_101 (by decide) (Nat.le_of_ble_eq_true rfl) dX6_copyFrom_12 (fun h3 => ?_)
  refine go_aload_n (pc := 15) C 0 dX6_copyFrom_15 rfl ?_
  refine go_aload_n (pc := 16) C 1 dX6_copyFrom_16 rfl ?_
  refine go_gI (pc := 17) C fdX6_18 dX6_copyFrom_17 (fun x4 => ?_)
  refine go_pI (pc := 20) C fpX6_18 dX6_copyFrom_20 (fun h5 => ?_)
  exact go_vret (w := wV) (pc := 23) C E h5 dX6_copyFrom_23 rfl
theorem dX6_appendDigit_0 : decode cX6_appendDigit 0 = .ok (.aload_n 0, 1) := by decide +kernel
theorem dX6_appendDigit_1 : decode cX6_appendDigit 1 = .ok (.getfield 18, 3) := by decide +kernel
theorem dX6_appendDigit_4 : decode cX6_appendDigit 4 = .ok (.ifCond .le 42, 3) := by decide +kernel
theorem dX6_appendDigit_7 : decode cX6_appendDigit 7 = .ok (.aload_n 0, 1) := by decide +kernel
theorem dX6_appendDigit_8 : decode cX6_appendDigit 8 = .ok (.getfield 18, 3) := by decide +kernel
theorem dX6_appendDigit_11 : decode cX6_appendDigit 11 = .ok (.aload_n 0, 1) := by decide +kernel
theorem dX6_appendDigit_12 : decode cX6_appendDigit 12 = .ok (.getfield 9, 3) := by decide +kernel
theorem dX6_appendDigit_15 : decode cX6_appendDigit 15 = .ok (.arraylength, 1) := by decide +kernel
theorem dX6_appendDigit_16 : decode cX6_appendDigit 16 = .ok (.if_icmp .gt 30, 3) := by decide +kernel
theorem dX6_appendDigit_19 : decode cX6_appendDigit 19 = .ok (.aload_n 0, 1) := by decide +kernel
theorem dX6_appendDigit_20 : decode cX6_appendDigit 20 = .ok (.getfield 9, 3) := by decide +kernel
theorem dX6_appendDigit_23 : decode cX6_appendDigit 23 = .ok (.aload_n 0, 1) := by decide +kernel
theorem dX6_appendDigit_24 : decode cX6_appendDigit 24 = .ok (.getfield 18, 3) := by decide +kernel
theorem dX6_appendDigit_27 : decode cX6_appendDigit 27 = .ok (.iconst 1, 1) := by decide +kernel
theorem dX6_appendDigit_28 : decode cX6_appendDigit 28 = .ok (.isub, 1) := by decide +kernel
theorem dX6_appendDigit_29 : decode cX6_appendDigit 29 = .ok (.bipush 10, 2) := by decide +kernel
theorem dX6_appendDigit_31 : decode cX6_appendDigit 31 = .ok (.aload_n 0, 1) := by decide +kernel
theorem dX6_appendDigit_32 : decode cX6_appendDigit 32 = .ok (.getfield 9, 3) := by decide +kernel
theorem dX6_appendDigit_35 : decode cX6_appendDigit 35 = .ok (.aload_n 0, 1) := by decide +kernel
theorem dX6_appendDigit_36 : decode cX6_appendDigit 36 = .ok (.getfield 18, 3) := by decide +kernel
theorem dX6_appendDigit_39 : decode cX6_appendDigit 39 = .ok (.iconst 1, 1) := by decide +kernel
theorem dX6_appendDigit_40 : decode cX6_appendDigit 40 = .ok (.isub, 1) := by decide +kernel
theorem dX6_appendDigit_41 : decode cX6_appendDigit 41 = .ok (.iaload, 1) := by decide +kernel
theorem dX6_appendDigit_42 : decode cX6_appendDigit 42 = .ok (.imul, 1) := by decide +kernel
theorem dX6_appendDigit_43 : decode cX6_appendDigit 43 = .ok (.iload_n 1, 1) := by decide +kernel
theorem dX6_appendDigit_44 : decode cX6_appendDigit 44 = .ok (.iadd, 1) := by decide +kernel
theorem dX6_appendDigit_45 : decode cX6_appendDigit 45 = .ok (.iastore, 1) := by decide +kernel
theorem dX6_appendDigit_46 : decode cX6_appendDigit 46 = .ok (.return_, 1) := by decide +kernel
def fX6_appendDigit (h : AH) (a0 : Nat) (a1 : Int32) : Option (AH) :=
  if hasC h 6 a0 = true then (
    (gI h 6 a0 2).bind fun x1 =>
    if x1 ≤ 0 then (
      some h
    ) else (
      (gI h 6 a0 2).bind fun x2 =>
      (gR h 6 a0 0).bind fun x3 =>
      (aL h 0 x3).bind fun x4 =>
      if x4 < x2 then (
        some h
      ) else (
        (gR h 6 a0 0).bind fun x5 =>
        (gI h 6 a0 2).bind fun x6 =>
        (gR h 6 a0 0).bind fun x7 =>
        (gI h 6 a0 2).bind fun x8 =>
        (aI h 0 x7 (x8 - 1)).bind fun x9 =>
        (sI h 0 x5 (x6 - 1) ((10 * x9) + a1)).bind fun h10 =>
        some h10
      )
    )
  ) else none
set_option maxHeartbeats 4000000 in
theorem mX6_appendDigit {h : AH} {a0 : Nat} {a1 : Int32} {r : AH} (hr : fX6_appendDigit h a0 a1 = some r) : hasC h 6 a0 = true ∧ MC yX6_appendDigit cX6_appendDigit 2 none 1 0 0 [.ref a0, .int a1] h none r := by
  unfold fX6_appendDigit at hr
  obtain ⟨hc, hr⟩ := if_some hr
  refine ⟨hc, mc_of (l0 := [(0, .ref a0), (1, .int a1)]) rfl pn_X6 (Nat.le_of_ble_eq_true rfl) (fun Y X C E O hnm => go_run hr ?_)⟩
  have C : CT Y X RX6 cX6_appendDigit 2 := C
  refine go_aload_n (pc := 0) C 0 dX6_appendDigit_0 rfl ?_
  refine go_gI (pc := 1) C fdX6_18 dX6_appendDigit_1 (fun x1 => ?_)
  refine go_if_le (pc := 4) C 46 dX6_appendDigit_4 (by decide) (fun _ => ?_) (fun _ => ?_)
  · exact go_vret (w := wV) (pc := 46) C E h dX6_appendDigit_46 rfl
  · refine go_aload_n (pc := 7) C 0 dX6_appendDigit_7 rfl ?_
    refine go_gI (pc := 8) C fdX6_18 dX6_appendDigit_8 (fun x2 => ?_)
    refine go_aload_n (pc := 11) C 0 dX6_appendDigit_11 rfl ?_
    refine go_gR (pc := 12) C fdX6_9 dX6_appendDigit_12 (fun x3 => ?_)
    refine go_alen (pc := 15) C 0 (by decide) dX6_appendDigit_15 (fun x4 => ?_)
    refine go_icmp_gt (pc := 16) C 46 dX6_appendDigit_16 (by decide) (fun _ => ?_) (fun _ => ?_)
    · exact go_vret (w := wV) (pc := 46) C E h dX6_appendDigit_46 rfl
    · refine go_aload_n (pc := 19) C 0 dX6_appendDigit_19 rfl ?_
      refine go_gR (pc := 20) C fdX6_9 dX6_appendDigit_20 (fun x5 => ?_)
      refine go_aload_n (pc := 23) C 0 dX6_appendDigit_23 rfl ?_
      refine go_gI (pc := 24) C fdX6_18 dX6_appendDigit_24 (fun x6 => ?_)
      refine go_iconst (pc := 27) C dX6_appendDigit_27 ki_1 ?_
      refine go_isub (pc := 28) C dX6_appendDigit_28 ?_
      refine go_bipush (pc := 29) C dX6_appendDigit_29 kb_10 ?_
      refine go_aload_n (pc := 31) C 0 dX6_appendDigit_31 rfl ?_
      refine go_gR (pc := 32) C fdX6_9 dX6_appendDigit_32 (fun x7 => ?_)
      refine go_aload_n (pc := 35) C 0 dX6_appendDigit_35 rfl ?_
      refine go_gI (pc := 36) C fdX6_18 dX6_appendDigit_36 (fun x8 => ?_)
      refine go_iconst (pc := 39) C dX6_appendDigit_39 ki_1 ?_
      refine go_isub (pc := 40) C dX6_appendDigit_40 ?_
      refine go_iald (pc := 41) C dX6_appendDigit_41 (fun x9 => ?_)
      refine go_imul (pc := 42) C dX6_appendDigit_42 ?_
      refine go_iload_n (pc := 43) C 1 dX6_appendDigit_43 rfl ?_
      refine go_iadd (pc := 44) C dX6_appendDigit_44 ?_
      refine go_iast (pc := 45) C dX6_appendDigit_45 (fun h10 => ?_)
      exact go_vret (w := wV) (pc := 46) C E h10 dX6_appendDigit_46 rfl
theorem dX6_signOf_0 : decode cX6_signOf 0 = .ok (.iload_n 0, 1) := by decide +kernel
theorem dX6_signOf_1 : decode cX6_signOf 1 = .ok (.sipush 1000, 3) := by decide +kernel
theorem dX6_signOf_4 : decode cX6_signOf 4 = .ok (.if_icmp .lt 12, 3) := by decide +kernel
theorem dX6_signOf_7 : decode cX6_signOf 7 = .ok (.iload_n 0, 1) := by decide +kernel
theorem dX6_signOf_8 : decode cX6_signOf 8 = .ok (.sipush 1000, 3) := by decide +kernel
theorem dX6_signOf_11 : decode cX6_signOf 11 = .ok (.isub, 1) := by decide +kernel
theorem dX6_signOf_12 : decode cX6_signOf 12 = .ok (.i2c, 1) := by decide +kernel
theorem dX6_signOf_13 : decode cX6_signOf 13 = .ok (.goto 4, 3) := by decide +kernel
theorem dX6_signOf_16 : decode cX6_signOf 16 = .ok (.iconst 0, 1) := by decide +kernel
theorem dX6_signOf_17 : decode cX6_signOf 17 = .ok (.ireturn, 1) := by decide +kernel
def fX6_signOf (h : AH) (a0 : Int32) : Option (Int32) :=
  if a0 < 1000 then (
    (i2ch 0).bind fun x1 => some x1
  ) else (
    (i2ch (UInt32.toInt32 (Int32.toUInt32 (a0 - 1000) % 65536))).bind fun x2 => some x2
  )
set_option maxHeartbeats 4000000 in
theorem mX6_signOf {h : AH} {a0 : Int32} {r : Int32} (hr : fX6_signOf h a0 = some r) : MC yX6_signOf cX6_signOf 1 (some .char) 1 0 0 [.int a0] h (some (.int r)) h := by
  unfold fX6_signOf at hr
  refine mc_of (l0 := [(0, .int a0)]) rfl pn_X6 (Nat.le_of_ble_eq_true rfl) (fun Y X C E O hnm => go_run hr ?_)
  have C : CT Y X RX6 cX6_signOf 1 := C
  refine go_iload_n (pc := 0) C 0 dX6_signOf_0 rfl ?_
  refine go_sipush (pc := 1) C dX6_signOf_1 ks_1000 ?_
  refine go_icmp_lt (pc := 4) C 16 dX6_signOf_4 (by decide) (fun _ => ?_) (fun _ => ?_)
  · refine go_iconst (pc := 16) C dX6_signOf_16 ki_0 ?_
    exact go_cret (w := (wI h)) (pc := 17) C E 0 (fun x1 => x1) dX6_signOf_17 (fun _ => rfl)
  · refine go_iload_n (pc := 7) C 0 dX6_signOf_7 rfl ?_
    refine go_sipush (pc := 8) C dX6_signOf_8 ks_1000 ?_
    refine go_isub (pc := 11) C dX6_signOf_11 ?_
    refine go_i2c (pc := 12) C dX6_signOf_12 ?_
    refine go_goto (pc := 13) C 17 dX6_signOf_13 (by decide) ?_
    exact go_cret (w := (wI h)) (pc := 17) C E (UInt32.toInt32 (Int32.toUInt32 (a0 - 1000) % 65536)) (fun x2 => x2) dX6_signOf_17 (fun _ => rfl)
theorem dX6_push_0 : decode cX6_push 0 = .ok (.iload_n 1, 1) := by decide +kernel
theorem dX6_push_1 : decode cX6_push 1 = .ok (.ifCond .lt 12, 3) := by decide +kernel
theorem dX6_push_4 : decode cX6_push 4 = .ok (.iload_n 1, 1) := by decide +kernel
theorem dX6_push_5 : decode cX6_push 5 = .ok (.aload_n 0, 1) := by decide +kernel
theorem dX6_push_6 : decode cX6_push 6 = .ok (.getfield 15, 3) := by decide +kernel
theorem dX6_push_9 : decode cX6_push 9 = .ok (.arraylength, 1) := by decide +kernel
theorem dX6_push_10 : decode cX6_push 10 = .ok (.if_icmp .lt 5, 3) := by decide +kernel
theorem dX6_push_13 : decode cX6_push 13 = .ok (.iload_n 1, 1) := by decide +kernel
theorem dX6_push_14 : decode cX6_push 14 = .ok (.ireturn, 1) := by decide +kernel
theorem dX6_push_15 : decode cX6_push 15 = .ok (.aload_n 0, 1) := by decide +kernel
theorem dX6_push_16 : decode cX6_push 16 = .ok (.getfield 15, 3) := by decide +kernel
theorem dX6_push_19 : decode cX6_push 19 = .ok (.iload_n 1, 1) := by decide +kernel
theorem dX6_push_20 : decode cX6_push 20 = .ok (.iload_n 2, 1) := by decide +kernel
theorem dX6_push_21 : decode cX6_push 21 = .ok (.iastore, 1) := by decide +kernel
theorem dX6_push_22 : decode cX6_push 22 = .ok (.iload_n 1, 1) := by decide +kernel
theorem dX6_push_23 : decode cX6_push 23 = .ok (.iconst 1, 1) := by decide +kernel
theorem dX6_push_24 : decode cX6_push 24 = .ok (.iadd, 1) := by decide +kernel
theorem dX6_push_25 : decode cX6_push 25 = .ok (.ireturn, 1) := by decide +kernel
def fX6_push (h : AH) (a0 : Nat) (a1 : Int32) (a2 : Int32) : Option (Int32 × AH) :=
  if hasC h 6 a0 = true then (
    if a1 < 0 then (
      some ((a1, h))
    ) else (
      (gR h 6 a0 1).bind fun x1 =>
      (aL h 0 x1).bind fun x2 =>
      if a1 < x2 then (
        (gR h 6 a0 1).bind fun x3 =>
        (sI h 0 x3 a1 a2).bind fun h4 =>
        some ((a1 + 1, h4))
      ) else (
        some ((a1, h))
      )
    )
  ) else none
set_option maxHeartbeats 4000000 in
theorem mX6_push {h : AH} {a0 : Nat} {a1 : Int32} {a2 : Int32} {r : Int32 × AH} (hr : fX6_push h a0 a1 a2 = some r) : hasC h 6 a0 = true ∧ MC yX6_push cX6_push 3 (some .int) 1 0 0 [.ref a0, .int a1, .int a2] h (some (.int r.1)) r.2 := by
  unfold fX6_push at hr
  obtain ⟨hc, hr⟩ := if_some hr
  refine ⟨hc, mc_of (l0 := [(0, .ref a0), (1, .int a1), (2, .int a2)]) rfl pn_X6 (Nat.le_of_ble_eq_true rfl) (fun Y X C E O hnm => go_run hr ?_)⟩
  have C : CT Y X RX6 cX6_push 3 := C
  refine go_iload_n (pc := 0) C 1 dX6_push_0 rfl ?_
  refine go_if_lt (pc := 1) C 13 dX6_push_1 (by decide) (fun _ => ?_) (fun _ => ?_)
  · refine go_iload_n (pc := 13) C 1 dX6_push_13 rfl ?_
    exact go_iret (w := wIh) (pc := 14) C E ((a1, h)) a1 dX6_push_14 rfl
  · refine go_iload_n (pc := 4) C 1 dX6_push_4 rfl ?_
    refine go_aload_n (pc := 5) C 0 dX6_push_5 rfl ?_
    refine go_gR (pc := 6) C fdX6_15 dX6_push_6 (fun x1 => ?_)
    refine go_alen (pc := 9) C 0 (by decide) dX6_push_9 (fun x2 => ?_)
    refine go_icmp_lt (pc := 10) C 15 dX6_push_10 (by decide) (fun _ => ?_) (fun _ => ?_)
    · refine go_aload_n (pc := 15) C 0 dX6_push_15 rfl ?_
      refine go_gR (pc := 16) C fdX6_15 dX6_push_16 (fun x3 => ?_)
      refine go_iload_n (pc := 19) C 1 dX6_push_19 rfl ?_
      refine go_iload_n (pc := 20) C 2 dX6_push_20 rfl ?_
      refine go_iast (pc := 21) C dX6_push_21 (fun h4 => ?_)
      refine go_iload_n (pc := 22) C 1 dX6_push_22 rfl ?_
      refine go_iconst (pc := 23) C dX6_push_23 ki_1 ?_
      refine go_iadd (pc := 24) C dX6_push_24 ?_
      exact go_iret (w := wIh) (pc := 25) C E ((a1 + 1, h4)) (a1 + 1) dX6_push_25 rfl
    · refine go_iload_n (pc := 13) C 1 dX6_push_13 rfl ?_
      exact go_iret (w := wIh) (pc := 14) C E ((a1, h)) a1 dX6_push_14 rfl
theorem dX6_negateTop_0 : decode cX6_negateTop 0 = .ok (.iload_n 1, 1) := by decide +kernel
theorem dX6_negateTop_1 : decode cX6_negateTop 1 = .ok (.ifCond .le 29, 3) := by decide +kernel
theorem dX6_negateTop_4 : decode cX6_negateTop 4 = .ok (.iload_n 1, 1) := by decide +kernel
theorem dX6_negateTop_5 : decode cX6_negateTop 5 = .ok (.aload_n 0, 1) := by decide +kernel
theorem dX6_negateTop_6 : decode cX6_negateTop 6 = .ok (.getfield 15, 3) := by decide +kernel
theorem dX6_negateTop_9 : decode cX6_negateTop 9 = .ok (.arraylength, 1) := by decide +kernel
theorem dX6_negateTop_10 : decode cX6_negateTop 10 = .ok (.if_icmp .gt 20, 3) := by decide +kernel
theorem dX6_negateTop_13 : decode cX6_negateTop 13 = .ok (.aload_n 0, 1) := by decide +kernel
theorem dX6_negateTop_14 : decode cX6_negateTop 14 = .ok (.getfield 15, 3) := by decide +kernel
theorem dX6_negateTop_17 : decode cX6_negateTop 17 = .ok (.iload_n 1, 1) := by decide +kernel
theorem dX6_negateTop_18 : decode cX6_negateTop 18 = .ok (.iconst 1, 1) := by decide +kernel
theorem dX6_negateTop_19 : decode cX6_negateTop 19 = .ok (.isub, 1) := by decide +kernel
theorem dX6_negateTop_20 : decode cX6_negateTop 20 = .ok (.aload_n 0, 1) := by decide +kernel
theorem dX6_negateTop_21 : decode cX6_negateTop 21 = .ok (.getfield 15, 3) := by decide +kernel
theorem dX6_negateTop_24 : decode cX6_negateTop 24 = .ok (.iload_n 1, 1) := by decide +kernel
theorem dX6_negateTop_25 : decode cX6_negateTop 25 = .ok (.iconst 1, 1) := by decide +kernel
theorem dX6_negateTop_26 : decode cX6_negateTop 26 = .ok (.isub, 1) := by decide +kernel
theorem dX6_negateTop_27 : decode cX6_negateTop 27 = .ok (.iaload, 1) := by decide +kernel
theorem dX6_negateTop_28 : decode cX6_negateTop 28 = .ok (.ineg, 1) := by decide +kernel
theorem dX6_negateTop_29 : decode cX6_negateTop 29 = .ok (.iastore, 1) := by decide +kernel
theorem dX6_negateTop_30 : decode cX6_negateTop 30 = .ok (.return_, 1) := by decide +kernel
def fX6_negateTop (h : AH) (a0 : Nat) (a1 : Int32) : Option (AH) :=
  if hasC h 6 a0 = true then (
    if a1 ≤ 0 then (
      some h
    ) else (
      (gR h 6 a0 1).bind fun x1 =>
      (aL h 0 x1).bind fun x2 =>
      if x2 < a1 then (
        some h
      ) else (
        (gR h 6 a0 1).bind fun x3 =>
        (gR h 6 a0 1).bind fun x4 =>
        (aI h 0 x4 (a1 - 1)).bind fun x5 =>
        (sI h 0 x3 (a1 - 1) (-x5)).bind fun h6 =>
        some h6
      )
    )
  ) else none
set_option maxHeartbeats 4000000 in
theorem mX6_negateTop {h : AH} {a0 : Nat} {a1 : Int32} {r : AH} (hr : fX6_negateTop h a0 a1 = some r) : hasC h 6 a0 = true ∧ MC yX6_negateTop cX6_negateTop 2 none 1 0 0 [.ref a0, .int a1] h none r := by
  unfold fX6_negateTop at hr
  obtain ⟨hc, hr⟩ := if_some hr
  refine ⟨hc, mc_of (l0 := [(0, .ref a0), (1, .int a1)]) rfl pn_X6 (Nat.le_of_ble_eq_true rfl) (fun Y X C E O hnm => go_run hr ?_)⟩
  have C : CT Y X RX6 cX6_negateTop 2 := C
  refine go_iload_n (pc := 0) C 1 dX6_negateTop_0 rfl ?_
  refine go_if_le (pc := 1) C 30 dX6_negateTop_1 (by decide) (fun _ => ?_) (fun _ => ?_)
  · exact go_vret (w := wV) (pc := 30) C E h dX6_negateTop_30 rfl
  · refine go_iload_n (pc := 4) C 1 dX6_negateTop_4 rfl ?_
    refine go_aload_n (pc := 5) C 0 dX6_negateTop_5 rfl ?_
    refine go_gR (pc := 6) C fdX6_15 dX6_negateTop_6 (fun x1 => ?_)
    refine go_alen (pc := 9) C 0 (by decide) dX6_negateTop_9 (fun x2 => ?_)
    refine go_icmp_gt (pc := 10) C 30 dX6_negateTop_10 (by decide) (fun _ => ?_) (fun _ => ?_)
    · exact go_vret (w := wV) (pc := 30) C E h dX6_negateTop_30 rfl
    · refine go_aload_n (pc := 13) C 0 dX6_negateTop_13 rfl ?_
      refine go_gR (pc := 14) C fdX6_15 dX6_negateTop_14 (fun x3 => ?_)
      refine go_iload_n (pc := 17) C 1 dX6_negateTop_17 rfl ?_
      refine go_iconst (pc := 18) C dX6_negateTop_18 ki_1 ?_
      refine go_isub (pc := 19) C dX6_negateTop_19 ?_
      refine go_aload_n (pc := 20) C 0 dX6_negateTop_20 rfl ?_
      refine go_gR (pc := 21) C fdX6_15 dX6_negateTop_21 (fun x4 => ?_)
      refine go_iload_n (pc := 24) C 1 dX6_negateTop_24 rfl ?_
      refine go_iconst (pc := 25) C dX6_negateTop_25 ki_1 ?_
      refine go_isub (pc := 26) C dX6_negateTop_26 ?_
      refine go_iald (pc := 27) C dX6_negateTop_27 (fun x5 => ?_)
      refine go_ineg (pc := 28) C dX6_negateTop_28 ?_
      refine go_iast (pc := 29) C dX6_negateTop_29 (fun h6 => ?_)
      exact go_vret (w := wV) (pc := 30) C E h6 dX6_negateTop_30 rfl
theorem dX7_strength_0 : decode cX7_strength 0 = .ok (.iload_n 0, 1) := by decide +kernel
theorem dX7_strength_1 : decode cX7_strength 1 = .ok (.lookupswitch 83 #[(42, 79), (43, 77), (45, 77), (47, 79), (60, 75), (61, 75), (62, 75), (126, 81)], 75) := by decide +kernel
theorem dX7_strength_76 : decode cX7_strength 76 = .ok (.iconst 1, 1) := by decide +kernel
theorem dX7_strength_77 : decode cX7_strength 77 = .ok (.ireturn, 1) := by decide +kernel
theorem dX7_strength_78 : decode cX7_strength 78 = .ok (.iconst 2, 1) := by decide +kernel
theorem dX7_strength_79 : decode cX7_strength 79 = .ok (.ireturn, 1) := by decide +kernel
theorem dX7_strength_80 : decode cX7_strength 80 = .ok (.iconst 3, 1) := by decide +kernel
theorem dX7_strength_81 : decode cX7_strength 81 = .ok (.ireturn, 1) := by decide +kernel
theorem dX7_strength_82 : decode cX7_strength 82 = .ok (.iconst 4, 1) := by decide +kernel
theorem dX7_strength_83 : decode cX7_strength 83 = .ok (.ireturn, 1) := by decide +kernel
theorem dX7_strength_84 : decode cX7_strength 84 = .ok (.iconst 0, 1) := by decide +kernel
theorem dX7_strength_85 : decode cX7_strength 85 = .ok (.ireturn, 1) := by decide +kernel
def fX7_strength (h : AH) (a0 : Int32) : Option (Int32) :=
  if a0 = 42 then (
    some 3
  ) else (
    if a0 = 43 then (
      some 2
    ) else (
      if a0 = 45 then (
        some 2
      ) else (
        if a0 = 47 then (
          some 3
        ) else (
          if a0 = 60 then (
            some 1
          ) else (
            if a0 = 61 then (
              some 1
            ) else (
              if a0 = 62 then (
                some 1
              ) else (
                if a0 = 126 then (
                  some 4
                ) else (
                  some 0))))))))
set_option maxHeartbeats 4000000 in
theorem mX7_strength {h : AH} {a0 : Int32} {r : Int32} (hr : fX7_strength h a0 = some r) : MC yX7_strength cX7_strength 1 (some .int) 1 0 0 [.int a0] h (some (.int r)) h := by
  unfold fX7_strength at hr
  refine mc_of (l0 := [(0, .int a0)]) rfl pn_X7 (Nat.le_of_ble_eq_true rfl) (fun Y X C E O hnm => go_run hr ?_)
  have C : CT Y X RX7 cX7_strength 1 := C
  refine go_iload_n (pc := 0) C 0 dX7_strength_0 rfl ?_
  refine go_ite (fun hc1 => ?_) (fun hc1 => ?_)
  · refine go_lsw (pc := 1) C 80 dX7_strength_1 (by decide) (by rw [hc1] <;> decide) (by decide) ?_
    refine go_iconst (pc := 80) C dX7_strength_80 ki_3 ?_
    exact go_iret (w := (wI h)) (pc := 81) C E 3 3 dX7_strength_81 rfl
  · refine go_ite (fun hc2 => ?_) (fun hc2 => ?_)
    · refine go_lsw (pc := 1) C 78 dX7_strength_1 (by decide) (by rw [hc2] <;> decide) (by decide) ?_
      refine go_iconst (pc := 78) C dX7_strength_78 ki_2 ?_
      exact go_iret (w := (wI h)) (pc := 79) C E 2 2 dX7_strength_79 rfl
    · refine go_ite (fun hc3 => ?_) (fun hc3 => ?_)
      · refine go_lsw (pc := 1) C 78 dX7_strength_1 (by decide) (by rw [hc3] <;> decide) (by decide) ?_
        refine go_iconst (pc := 78) C dX7_strength_78 ki_2 ?_
        exact go_iret (w := (wI h)) (pc := 79) C E 2 2 dX7_strength_79 rfl
      · refine go_ite (fun hc4 => ?_) (fun hc4 => ?_)
        · refine go_lsw (pc := 1) C 80 dX7_strength_1 (by decide) (by rw [hc4] <;> decide) (by decide) ?_
          refine go_iconst (pc := 80) C dX7_strength_80 ki_3 ?_
          exact go_iret (w := (wI h)) (pc := 81) C E 3 3 dX7_strength_81 rfl
        · refine go_ite (fun hc5 => ?_) (fun hc5 => ?_)
          · refine go_lsw (pc := 1) C 76 dX7_strength_1 (by decide) (by rw [hc5] <;> decide) (by decide) ?_
            refine go_iconst (pc := 76) C dX7_strength_76 ki_1 ?_
            exact go_iret (w := (wI h)) (pc := 77) C E 1 1 dX7_strength_77 rfl
          · refine go_ite (fun hc6 => ?_) (fun hc6 => ?_)
            · refine go_lsw (pc := 1) C 76 dX7_strength_1 (by decide) (by rw [hc6] <;> decide) (by decide) ?_
              refine go_iconst (pc := 76) C dX7_strength_76 ki_1 ?_
              exact go_iret (w := (wI h)) (pc := 77) C E 1 1 dX7_strength_77 rfl
            · refine go_ite (fun hc7 => ?_) (fun hc7 => ?_)
              · refine go_lsw (pc := 1) C 76 dX7_strength_1 (by decide) (by rw [hc7] <;> decide) (by decide) ?_
                refine go_iconst (pc := 76) C dX7_strength_76 ki_1 ?_
                exact go_iret (w := (wI h)) (pc := 77) C E 1 1 dX7_strength_77 rfl
              · refine go_ite (fun hc8 => ?_) (fun hc8 => ?_)
                · refine go_lsw (pc := 1) C 82 dX7_strength_1 (by decide) (by rw [hc8] <;> decide) (by decide) ?_
                  refine go_iconst (pc := 82) C dX7_strength_82 ki_4 ?_
                  exact go_iret (w := (wI h)) (pc := 83) C E 4 4 dX7_strength_83 rfl
                · refine go_lsw_else (pc := 1) C 84 dX7_strength_1 (by decide) (fun q hq => by simp only [List.mem_cons, List.not_mem_nil, or_false] at hq; rcases hq with rfl | rfl | rfl | rfl | rfl | rfl | rfl | rfl <;> first | exact i32_ne hc1 (by decide) | exact i32_ne hc2 (by decide) | exact i32_ne hc3 (by decide) | exact i32_ne hc4 (by decide) | exact i32_ne hc5 (by decide) | exact i32_ne hc6 (by decide) | exact i32_ne hc7 (by decide) | exact i32_ne hc8 (by decide)) (by decide) ?_
                  refine go_iconst (pc := 84) C dX7_strength_84 ki_0 ?_
                  exact go_iret (w := (wI h)) (pc := 85) C E 0 0 dX7_strength_85 rfl
theorem dX7_isBinary_0 : decode cX7_isBinary 0 = .ok (.iload_n 0, 1) := by decide +kernel
theorem dX7_isBinary_1 : decode cX7_isBinary 1 = .ok (.invokestatic 50, 3) := by decide +kernel
theorem dX7_isBinary_4 : decode cX7_isBinary 4 = .ok (.ifCond .le 13, 3) := by decide +kernel
theorem dX7_isBinary_7 : decode cX7_isBinary 7 = .ok (.iload_n 0, 1) := by decide +kernel
theorem dX7_isBinary_8 : decode cX7_isBinary 8 = .ok (.bipush 126, 2) := by decide +kernel
theorem dX7_isBinary_10 : decode cX7_isBinary 10 = .ok (.if_icmp .eq 7, 3) := by decide +kernel
theorem dX7_isBinary_13 : decode cX7_isBinary 13 = .ok (.iconst 1, 1) := by decide +kernel
theorem dX7_isBinary_14 : decode cX7_isBinary 14 = .ok (.goto 4, 3) := by decide +kernel
theorem dX7_isBinary_17 : decode cX7_isBinary 17 = .ok (.iconst 0, 1) := by decide +kernel
theorem dX7_isBinary_18 : decode cX7_isBinary 18 = .ok (.ireturn, 1) := by decide +kernel
def fX7_isBinary (h : AH) (a0 : Int32) : Option (Bool) :=
  (fX7_strength h a0).bind fun q1 =>
  if q1 ≤ 0 then (
    some false
  ) else (
    if a0 = 126 then (
      some false
    ) else (
      some true
    )
  )
set_option maxHeartbeats 4000000 in
theorem mX7_isBinary {h : AH} {a0 : Int32} {r : Bool} (hr : fX7_isBinary h a0 = some r) : MC yX7_isBinary cX7_isBinary 1 (some .boolean) 2 0 0 [.int a0] h (some (.int (b2i r))) h := by
  unfold fX7_isBinary at hr
  refine mc_of (l0 := [(0, .int a0)]) rfl pn_X7 (Nat.le_of_ble_eq_true rfl) (fun Y X C E O hnm => go_run hr ?_)
  have C : CT Y X RX7 cX7_isBinary 1 := C
  refine go_iload_n (pc := 0) C 0 dX7_isBinary_0 rfl ?_
  refine go_bind (fun q1 hq1 => ?_)
  refine go_callS (rest := []) (st' := [.int q1]) (c' := 0) (s' := 0) (pc := 1) C O miX7_50 w_521 [.int a0] rfl (mX7_strength hq1) dX7_isBinary_1 ⟨by decide, by decide, by decide, by decide⟩ rfl (Nat.le_of_ble_eq_true rfl) rfl ⟨rfl, rfl⟩ ?_
  refine go_if_le (pc := 4) C 17 dX7_isBinary_4 (by decide) (fun _ => ?_) (fun _ => ?_)
  · refine go_iconst (pc := 17) C dX7_isBinary_17 ki_0 ?_
    exact go_bret (w := (wZ h)) (pc := 18) C E false 0 false rfl dX7_isBinary_18 rfl
  · refine go_iload_n (pc := 7) C 0 dX7_isBinary_7 rfl ?_
    refine go_bipush (pc := 8) C dX7_isBinary_8 kb_126 ?_
    refine go_icmp_eq (pc := 10) C 17 dX7_isBinary_10 (by decide) (fun _ => ?_) (fun _ => ?_)
    · refine go_iconst (pc := 17) C dX7_isBinary_17 ki_0 ?_
      exact go_bret (w := (wZ h)) (pc := 18) C E false 0 false rfl dX7_isBinary_18 rfl
    · refine go_iconst (pc := 13) C dX7_isBinary_13 ki_1 ?_
      refine go_goto (pc := 14) C 18 dX7_isBinary_14 (by decide) ?_
      exact go_bret (w := (wZ h)) (pc := 18) C E true 1 true rfl dX7_isBinary_18 rfl
theorem dX6_bind_0 : decode cX6_bind 0 = .ok (.iload_n 0, 1) := by decide +kernel
theorem dX6_bind_1 : decode cX6_bind 1 = .ok (.lookupswitch 104 #[(42, 100), (43, 92), (45, 96), (60, 59), (61, 81), (62, 70)], 59) := by decide +kernel
theorem dX6_bind_60 : decode cX6_bind 60 = .ok (.iload_n 1, 1) := by decide +kernel
theorem dX6_bind_61 : decode cX6_bind 61 = .ok (.iload_n 2, 1) := by decide +kernel
theorem dX6_bind_62 : decode cX6_bind 62 = .ok (.if_icmp .ge 7, 3) := by decide +kernel
theorem dX6_bind_65 : decode cX6_bind 65 = .ok (.iconst 1, 1) := by decide +kernel
theorem dX6_bind_66 : decode cX6_bind 66 = .ok (.goto 4, 3) := by decide +kernel
theorem dX6_bind_69 : decode cX6_bind 69 = .ok (.iconst 0, 1) := by decide +kernel
theorem dX6_bind_70 : decode cX6_bind 70 = .ok (.ireturn, 1) := by decide +kernel
theorem dX6_bind_71 : decode cX6_bind 71 = .ok (.iload_n 1, 1) := by decide +kernel
theorem dX6_bind_72 : decode cX6_bind 72 = .ok (.iload_n 2, 1) := by decide +kernel
theorem dX6_bind_73 : decode cX6_bind 73 = .ok (.if_icmp .le 7, 3) := by decide +kernel
theorem dX6_bind_76 : decode cX6_bind 76 = .ok (.iconst 1, 1) := by decide +kernel
theorem dX6_bind_77 : decode cX6_bind 77 = .ok (.goto 4, 3) := by decide +kernel
theorem dX6_bind_80 : decode cX6_bind 80 = .ok (.iconst 0, 1) := by decide +kernel
theorem dX6_bind_81 : decode cX6_bind 81 = .ok (.ireturn, 1) := by decide +kernel
theorem dX6_bind_82 : decode cX6_bind 82 = .ok (.iload_n 1, 1) := by decide +kernel
theorem dX6_bind_83 : decode cX6_bind 83 = .ok (.iload_n 2, 1) := by decide +kernel
theorem dX6_bind_84 : decode cX6_bind 84 = .ok (.if_icmp .ne 7, 3) := by decide +kernel
theorem dX6_bind_87 : decode cX6_bind 87 = .ok (.iconst 1, 1) := by decide +kernel
theorem dX6_bind_88 : decode cX6_bind 88 = .ok (.goto 4, 3) := by decide +kernel
theorem dX6_bind_91 : decode cX6_bind 91 = .ok (.iconst 0, 1) := by decide +kernel
theorem dX6_bind_92 : decode cX6_bind 92 = .ok (.ireturn, 1) := by decide +kernel
theorem dX6_bind_93 : decode cX6_bind 93 = .ok (.iload_n 1, 1) := by decide +kernel
theorem dX6_bind_94 : decode cX6_bind 94 = .ok (.iload_n 2, 1) := by decide +kernel
theorem dX6_bind_95 : decode cX6_bind 95 = .ok (.iadd, 1) := by decide +kernel
theorem dX6_bind_96 : decode cX6_bind 96 = .ok (.ireturn, 1) := by decide +kernel
theorem dX6_bind_97 : decode cX6_bind 97 = .ok (.iload_n 1, 1) := by decide +kernel
theorem dX6_bind_98 : decode cX6_bind 98 = .ok (.iload_n 2, 1) := by decide +kernel
theorem dX6_bind_99 : decode cX6_bind 99 = .ok (.isub, 1) := by decide +kernel
theorem dX6_bind_100 : decode cX6_bind 100 = .ok (.ireturn, 1) := by decide +kernel
theorem dX6_bind_101 : decode cX6_bind 101 = .ok (.iload_n 1, 1) := by decide +kernel
theorem dX6_bind_102 : decode cX6_bind 102 = .ok (.iload_n 2, 1) := by decide +kernel
theorem dX6_bind_103 : decode cX6_bind 103 = .ok (.imul, 1) := by decide +kernel
theorem dX6_bind_104 : decode cX6_bind 104 = .ok (.ireturn, 1) := by decide +kernel
theorem dX6_bind_105 : decode cX6_bind 105 = .ok (.iload_n 2, 1) := by decide +kernel
theorem dX6_bind_106 : decode cX6_bind 106 = .ok (.ifCond .ne 7, 3) := by decide +kernel
theorem dX6_bind_109 : decode cX6_bind 109 = .ok (.iconst 0, 1) := by decide +kernel
theorem dX6_bind_110 : decode cX6_bind 110 = .ok (.goto 6, 3) := by decide +kernel
theorem dX6_bind_113 : decode cX6_bind 113 = .ok (.iload_n 1, 1) := by decide +kernel
theorem dX6_bind_114 : decode cX6_bind 114 = .ok (.iload_n 2, 1) := by decide +kernel
theorem dX6_bind_115 : decode cX6_bind 115 = .ok (.idiv, 1) := by decide +kernel
theorem dX6_bind_116 : decode cX6_bind 116 = .ok (.ireturn, 1) := by decide +kernel
def fX6_bind (h : AH) (a0 : Int32) (a1 : Int32) (a2 : Int32) : Option (Int32) :=
  if a0 = 42 then (
    some (a1 * a2)
  ) else (
    if a0 = 43 then (
      some (a1 + a2)
    ) else (
      if a0 = 45 then (
        some (a1 - a2)
      ) else (
        if a0 = 60 then (
          if a2 ≤ a1 then (
            some 0
          ) else (
            some 1
          )
        ) else (
          if a0 = 61 then (
            if a1 = a2 then (
              some 1
            ) else (
              some 0
            )
          ) else (
            if a0 = 62 then (
              if a1 ≤ a2 then (
                some 0
              ) else (
                some 1
              )
            ) else (
              if a2 = 0 then (
                some 0
              ) else (
                (jdiv a1 a2).bind fun x7 =>
                some x7
              )))))))
set_option maxHeartbeats 4000000 in
theorem mX6_bind {h : AH} {a0 : Int32} {a1 : Int32} {a2 : Int32} {r : Int32} (hr : fX6_bind h a0 a1 a2 = some r) : MC yX6_bind cX6_bind 3 (some .int) 1 0 0 [.int a0, .int a1, .int a2] h (some (.int r)) h := by
  unfold fX6_bind at hr
  refine mc_of (l0 := [(0, .int a0), (1, .int a1), (2, .int a2)]) rfl pn_X6 (Nat.le_of_ble_eq_true rfl) (fun Y X C E O hnm => go_run hr ?_)
  have C : CT Y X RX6 cX6_bind 3 := C
  refine go_iload_n (pc := 0) C 0 dX6_bind_0 rfl ?_
  refine go_ite (fun hc1 => ?_) (fun hc1 => ?_)
  · refine go_lsw (pc := 1) C 101 dX6_bind_1 (by decide) (by rw [hc1] <;> decide) (by decide) ?_
    refine go_iload_n (pc := 101) C 1 dX6_bind_101 rfl ?_
    refine go_iload_n (pc := 102) C 2 dX6_bind_102 rfl ?_
    refine go_imul (pc := 103) C dX6_bind_103 ?_
    exact go_iret (w := (wI h)) (pc := 104) C E (a1 * a2) (a1 * a2) dX6_bind_104 rfl
  · refine go_ite (fun hc2 => ?_) (fun hc2 => ?_)
    · refine go_lsw (pc := 1) C 93 dX6_bind_1 (by decide) (by rw [hc2] <;> decide) (by decide) ?_
      refine go_iload_n (pc := 93) C 1 dX6_bind_93 rfl ?_
      refine go_iload_n (pc := 94) C 2 dX6_bind_94 rfl ?_
      refine go_iadd (pc := 95) C dX6_bind_95 ?_
      exact go_iret (w := (wI h)) (pc := 96) C E (a1 + a2) (a1 + a2) dX6_bind_96 rfl
    · refine go_ite (fun hc3 => ?_) (fun hc3 => ?_)
      · refine go_lsw (pc := 1) C 97 dX6_bind_1 (by decide) (by rw [hc3] <;> decide) (by decide) ?_
        refine go_iload_n (pc := 97) C 1 dX6_bind_97 rfl ?_
        refine go_iload_n (pc := 98) C 2 dX6_bind_98 rfl ?_
        refine go_isub (pc := 99) C dX6_bind_99 ?_
        exact go_iret (w := (wI h)) (pc := 100) C E (a1 - a2) (a1 - a2) dX6_bind_100 rfl
      · refine go_ite (fun hc4 => ?_) (fun hc4 => ?_)
        · refine go_lsw (pc := 1) C 60 dX6_bind_1 (by decide) (by rw [hc4] <;> decide) (by decide) ?_
          refine go_iload_n (pc := 60) C 1 dX6_bind_60 rfl ?_
          refine go_iload_n (pc := 61) C 2 dX6_bind_61 rfl ?_
          refine go_icmp_ge (pc := 62) C 69 dX6_bind_62 (by decide) (fun _ => ?_) (fun _ => ?_)
          · refine go_iconst (pc := 69) C dX6_bind_69 ki_0 ?_
            exact go_iret (w := (wI h)) (pc := 70) C E 0 0 dX6_bind_70 rfl
          · refine go_iconst (pc := 65) C dX6_bind_65 ki_1 ?_
            refine go_goto (pc := 66) C 70 dX6_bind_66 (by decide) ?_
            exact go_iret (w := (wI h)) (pc := 70) C E 1 1 dX6_bind_70 rfl
        · refine go_ite (fun hc5 => ?_) (fun hc5 => ?_)
          · refine go_lsw (pc := 1) C 82 dX6_bind_1 (by decide) (by rw [hc5] <;> decide) (by decide) ?_
            refine go_iload_n (pc := 82) C 1 dX6_bind_82 rfl ?_
            refine go_iload_n (pc := 83) C 2 dX6_bind_83 rfl ?_
            refine go_icmp_ne (pc := 84) C 91 dX6_bind_84 (by decide) (fun _ => ?_) (fun _ => ?_)
            · refine go_iconst (pc := 87) C dX6_bind_87 ki_1 ?_
              refine go_goto (pc := 88) C 92 dX6_bind_88 (by decide) ?_
              exact go_iret (w := (wI h)) (pc := 92) C E 1 1 dX6_bind_92 rfl
            · refine go_iconst (pc := 91) C dX6_bind_91 ki_0 ?_
              exact go_iret (w := (wI h)) (pc := 92) C E 0 0 dX6_bind_92 rfl
          · refine go_ite (fun hc6 => ?_) (fun hc6 => ?_)
            · refine go_lsw (pc := 1) C 71 dX6_bind_1 (by decide) (by rw [hc6] <;> decide) (by decide) ?_
              refine go_iload_n (pc := 71) C 1 dX6_bind_71 rfl ?_
              refine go_iload_n (pc := 72) C 2 dX6_bind_72 rfl ?_
              refine go_icmp_le (pc := 73) C 80 dX6_bind_73 (by decide) (fun _ => ?_) (fun _ => ?_)
              · refine go_iconst (pc := 80) C dX6_bind_80 ki_0 ?_
                exact go_iret (w := (wI h)) (pc := 81) C E 0 0 dX6_bind_81 rfl
              · refine go_iconst (pc := 76) C dX6_bind_76 ki_1 ?_
                refine go_goto (pc := 77) C 81 dX6_bind_77 (by decide) ?_
                exact go_iret (w := (wI h)) (pc := 81) C E 1 1 dX6_bind_81 rfl
            · refine go_lsw_else (pc := 1) C 105 dX6_bind_1 (by decide) (fun q hq => by simp only [List.mem_cons, List.not_mem_nil, or_false] at hq; rcases hq with rfl | rfl | rfl | rfl | rfl | rfl <;> first | exact i32_ne hc1 (by decide) | exact i32_ne hc2 (by decide) | exact i32_ne hc3 (by decide) | exact i32_ne hc4 (by decide) | exact i32_ne hc5 (by decide) | exact i32_ne hc6 (by decide)) (by decide) ?_
              refine go_iload_n (pc := 105) C 2 dX6_bind_105 rfl ?_
              refine go_if_ne (pc := 106) C 113 dX6_bind_106 (by decide) (fun _ => ?_) (fun _ => ?_)
              · refine go_iconst (pc := 109) C dX6_bind_109 ki_0 ?_
                refine go_goto (pc := 110) C 116 dX6_bind_110 (by decide) ?_
                exact go_iret (w := (wI h)) (pc := 116) C E 0 0 dX6_bind_116 rfl
              · refine go_iload_n (pc := 113) C 1 dX6_bind_113 rfl ?_
                refine go_iload_n (pc := 114) C 2 dX6_bind_114 rfl ?_
                refine go_idiv (pc := 115) C dX6_bind_115 (fun x7 => ?_)
                exact go_iret (w := (wI h)) (pc := 116) C E x7 x7 dX6_bind_116 rfl
theorem dX6_bindTop_0 : decode cX6_bindTop 0 = .ok (.iload_n 1, 1) := by decide +kernel
theorem dX6_bindTop_1 : decode cX6_bindTop 1 = .ok (.iconst 2, 1) := by decide +kernel
theorem dX6_bindTop_2 : decode cX6_bindTop 2 = .ok (.if_icmp .lt 12, 3) := by decide +kernel
theorem dX6_bindTop_5 : decode cX6_bindTop 5 = .ok (.iload_n 1, 1) := by decide +kernel
theorem dX6_bindTop_6 : decode cX6_bindTop 6 = .ok (.aload_n 0, 1) := by decide +kernel
theorem dX6_bindTop_7 : decode cX6_bindTop 7 = .ok (.getfield 15, 3) := by decide +kernel
theorem dX6_bindTop_10 : decode cX6_bindTop 10 = .ok (.arraylength, 1) := by decide +kernel
theorem dX6_bindTop_11 : decode cX6_bindTop 11 = .ok (.if_icmp .le 5, 3) := by decide +kernel
theorem dX6_bindTop_14 : decode cX6_bindTop 14 = .ok (.iload_n 1, 1) := by decide +kernel
theorem dX6_bindTop_15 : decode cX6_bindTop 15 = .ok (.ireturn, 1) := by decide +kernel
theorem dX6_bindTop_16 : decode cX6_bindTop 16 = .ok (.aload_n 0, 1) := by decide +kernel
theorem dX6_bindTop_17 : decode cX6_bindTop 17 = .ok (.getfield 15, 3) := by decide +kernel
theorem dX6_bindTop_20 : decode cX6_bindTop 20 = .ok (.iload_n 1, 1) := by decide +kernel
theorem dX6_bindTop_21 : decode cX6_bindTop 21 = .ok (.iconst 2, 1) := by decide +kernel
theorem dX6_bindTop_22 : decode cX6_bindTop 22 = .ok (.isub, 1) := by decide +kernel
theorem dX6_bindTop_23 : decode cX6_bindTop 23 = .ok (.iload_n 2, 1) := by decide +kernel
theorem dX6_bindTop_24 : decode cX6_bindTop 24 = .ok (.aload_n 0, 1) := by decide +kernel
theorem dX6_bindTop_25 : decode cX6_bindTop 25 = .ok (.getfield 15, 3) := by decide +kernel
theorem dX6_bindTop_28 : decode cX6_bindTop 28 = .ok (.iload_n 1, 1) := by decide +kernel
theorem dX6_bindTop_29 : decode cX6_bindTop 29 = .ok (.iconst 2, 1) := by decide +kernel
theorem dX6_bindTop_30 : decode cX6_bindTop 30 = .ok (.isub, 1) := by decide +kernel
theorem dX6_bindTop_31 : decode cX6_bindTop 31 = .ok (.iaload, 1) := by decide +kernel
theorem dX6_bindTop_32 : decode cX6_bindTop 32 = .ok (.aload_n 0, 1) := by decide +kernel
theorem dX6_bindTop_33 : decode cX6_bindTop 33 = .ok (.getfield 15, 3) := by decide +kernel
theorem dX6_bindTop_36 : decode cX6_bindTop 36 = .ok (.iload_n 1, 1) := by decide +kernel
theorem dX6_bindTop_37 : decode cX6_bindTop 37 = .ok (.iconst 1, 1) := by decide +kernel
theorem dX6_bindTop_38 : decode cX6_bindTop 38 = .ok (.isub, 1) := by decide +kernel
theorem dX6_bindTop_39 : decode cX6_bindTop 39 = .ok (.iaload, 1) := by decide +kernel
theorem dX6_bindTop_40 : decode cX6_bindTop 40 = .ok (.invokestatic 64, 3) := by decide +kernel
theorem dX6_bindTop_43 : decode cX6_bindTop 43 = .ok (.iastore, 1) := by decide +kernel
theorem dX6_bindTop_44 : decode cX6_bindTop 44 = .ok (.iload_n 1, 1) := by decide +kernel
theorem dX6_bindTop_45 : decode cX6_bindTop 45 = .ok (.iconst 1, 1) := by decide +kernel
theorem dX6_bindTop_46 : decode cX6_bindTop 46 = .ok (.isub, 1) := by decide +kernel
theorem dX6_bindTop_47 : decode cX6_bindTop 47 = .ok (.ireturn, 1) := by decide +kernel
def fX6_bindTop (h : AH) (a0 : Nat) (a1 : Int32) (a2 : Int32) : Option (Int32 × AH) :=
  if hasC h 6 a0 = true then (
    if a1 < 2 then (
      some ((a1, h))
    ) else (
      (gR h 6 a0 1).bind fun x1 =>
      (aL h 0 x1).bind fun x2 =>
      if a1 ≤ x2 then (
        (gR h 6 a0 1).bind fun x3 =>
        (gR h 6 a0 1).bind fun x4 =>
        (aI h 0 x4 (a1 - 2)).bind fun x5 =>
        (gR h 6 a0 1).bind fun x6 =>
        (aI h 0 x6 (a1 - 1)).bind fun x7 =>
        (fX6_bind h a2 x5 x7).bind fun q8 =>
        (sI h 0 x3 (a1 - 2) q8).bind fun h9 =>
        some ((a1 - 1, h9))
      ) else (
        some ((a1, h))
      )
    )
  ) else none
set_option maxHeartbeats 4000000 in
theorem mX6_bindTop {h : AH} {a0 : Nat} {a1 : Int32} {a2 : Int32} {r : Int32 × AH} (hr : fX6_bindTop h a0 a1 a2 = some r) : hasC h 6 a0 = true ∧ MC yX6_bindTop cX6_bindTop 3 (some .int) 2 0 0 [.ref a0, .int a1, .int a2] h (some (.int r.1)) r.2 := by
  unfold fX6_bindTop at hr
  obtain ⟨hc, hr⟩ := if_some hr
  refine ⟨hc, mc_of (l0 := [(0, .ref a0), (1, .int a1), (2, .int a2)]) rfl pn_X6 (Nat.le_of_ble_eq_true rfl) (fun Y X C E O hnm => go_run hr ?_)⟩
  have C : CT Y X RX6 cX6_bindTop 3 := C
  refine go_iload_n (pc := 0) C 1 dX6_bindTop_0 rfl ?_
  refine go_iconst (pc := 1) C dX6_bindTop_1 ki_2 ?_
  refine go_icmp_lt (pc := 2) C 14 dX6_bindTop_2 (by decide) (fun _ => ?_) (fun _ => ?_)
  · refine go_iload_n (pc := 14) C 1 dX6_bindTop_14 rfl ?_
    exact go_iret (w := wIh) (pc := 15) C E ((a1, h)) a1 dX6_bindTop_15 rfl
  · refine go_iload_n (pc := 5) C 1 dX6_bindTop_5 rfl ?_
    refine go_aload_n (pc := 6) C 0 dX6_bindTop_6 rfl ?_
    refine go_gR (pc := 7) C fdX6_15 dX6_bindTop_7 (fun x1 => ?_)
    refine go_alen (pc := 10) C 0 (by decide) dX6_bindTop_10 (fun x2 => ?_)
    refine go_icmp_le (pc := 11) C 16 dX6_bindTop_11 (by decide) (fun _ => ?_) (fun _ => ?_)
    · refine go_aload_n (pc := 16) C 0 dX6_bindTop_16 rfl ?_
      refine go_gR (pc := 17) C fdX6_15 dX6_bindTop_17 (fun x3 => ?_)
      refine go_iload_n (pc := 20) C 1 dX6_bindTop_20 rfl ?_
      refine go_iconst (pc := 21) C dX6_bindTop_21 ki_2 ?_
      refine go_isub (pc := 22) C dX6_bindTop_22 ?_
      refine go_iload_n (pc := 23) C 2 dX6_bindTop_23 rfl ?_
      refine go_aload_n (pc := 24) C 0 dX6_bindTop_24 rfl ?_
      refine go_gR (pc := 25) C fdX6_15 dX6_bindTop_25 (fun x4 => ?_)
      refine go_iload_n (pc := 28) C 1 dX6_bindTop_28 rfl ?_
      refine go_iconst (pc := 29) C dX6_bindTop_29 ki_2 ?_
      refine go_isub (pc := 30) C dX6_bindTop_30 ?_
      refine go_iald (pc := 31) C dX6_bindTop_31 (fun x5 => ?_)
      refine go_aload_n (pc := 32) C 0 dX6_bindTop_32 rfl ?_
      refine go_gR (pc := 33) C fdX6_15 dX6_bindTop_33 (fun x6 => ?_)
      refine go_iload_n (pc := 36) C 1 dX6_bindTop_36 rfl ?_
      refine go_iconst (pc := 37) C dX6_bindTop_37 ki_1 ?_
      refine go_isub (pc := 38) C dX6_bindTop_38 ?_
      refine go_iald (pc := 39) C dX6_bindTop_39 (fun x7 => ?_)
      refine go_bind (fun q8 hq8 => ?_)
      refine go_callS (rest := [.int (a1 - 2), .ref x3]) (st' := [.int q8, .int (a1 - 2), .ref x3]) (c' := 0) (s' := 0) (pc := 40) C O miX6_64 w_695 [.int a2, .int x5, .int x7] rfl (mX6_bind hq8) dX6_bindTop_40 ⟨by decide, by decide, by decide, by decide⟩ rfl (Nat.le_of_ble_eq_true rfl) rfl ⟨rfl, rfl⟩ ?_
      refine go_iast (pc := 43) C dX6_bindTop_43 (fun h9 => ?_)
      refine go_iload_n (pc := 44) C 1 dX6_bindTop_44 rfl ?_
      refine go_iconst (pc := 45) C dX6_bindTop_45 ki_1 ?_
      refine go_isub (pc := 46) C dX6_bindTop_46 ?_
      exact go_iret (w := wIh) (pc := 47) C E ((a1 - 1, h9)) (a1 - 1) dX6_bindTop_47 rfl
    · refine go_iload_n (pc := 14) C 1 dX6_bindTop_14 rfl ?_
      exact go_iret (w := wIh) (pc := 15) C E ((a1, h)) a1 dX6_bindTop_15 rfl
theorem dX9_chainLength_0 : decode cX9_chainLength 0 = .ok (.iconst 0, 1) := by decide +kernel
theorem dX9_chainLength_1 : decode cX9_chainLength 1 = .ok (.istore_n 2, 1) := by decide +kernel
theorem dX9_chainLength_2 : decode cX9_chainLength 2 = .ok (.aload_n 0, 1) := by decide +kernel
theorem dX9_chainLength_3 : decode cX9_chainLength 3 = .ok (.iload_n 1, 1) := by decide +kernel
theorem dX9_chainLength_4 : decode cX9_chainLength 4 = .ok (.invokevirtual 84, 3) := by decide +kernel
theorem dX9_chainLength_7 : decode cX9_chainLength 7 = .ok (.istore_n 3, 1) := by decide +kernel
theorem dX9_chainLength_8 : decode cX9_chainLength 8 = .ok (.iload_n 2, 1) := by decide +kernel
theorem dX9_chainLength_9 : decode cX9_chainLength 9 = .ok (.bipush 24, 2) := by decide +kernel
theorem dX9_chainLength_11 : decode cX9_chainLength 11 = .ok (.if_icmp .ge 24, 3) := by decide +kernel
theorem dX9_chainLength_14 : decode cX9_chainLength 14 = .ok (.aload_n 0, 1) := by decide +kernel
theorem dX9_chainLength_15 : decode cX9_chainLength 15 = .ok (.iload_n 3, 1) := by decide +kernel
theorem dX9_chainLength_16 : decode cX9_chainLength 16 = .ok (.invokevirtual 55, 3) := by decide +kernel
theorem dX9_chainLength_19 : decode cX9_chainLength 19 = .ok (.ifCond .eq 16, 3) := by decide +kernel
theorem dX9_chainLength_22 : decode cX9_chainLength 22 = .ok (.aload_n 0, 1) := by decide +kernel
theorem dX9_chainLength_23 : decode cX9_chainLength 23 = .ok (.getfield 21, 3) := by decide +kernel
theorem dX9_chainLength_26 : decode cX9_chainLength 26 = .ok (.iload_n 3, 1) := by decide +kernel
theorem dX9_chainLength_27 : decode cX9_chainLength 27 = .ok (.iaload, 1) := by decide +kernel
theorem dX9_chainLength_28 : decode cX9_chainLength 28 = .ok (.istore_n 3, 1) := by decide +kernel
theorem dX9_chainLength_29 : decode cX9_chainLength 29 = .ok (.iinc 2 1, 3) := by decide +kernel
theorem dX9_chainLength_32 : decode cX9_chainLength 32 = .ok (.goto (-24), 3) := by decide +kernel
theorem dX9_chainLength_35 : decode cX9_chainLength 35 = .ok (.iload_n 2, 1) := by decide +kernel
theorem dX9_chainLength_36 : decode cX9_chainLength 36 = .ok (.ireturn, 1) := by decide +kernel
def fX9_chainLength_L8 (h : AH) : Nat → Nat → Int32 → Int32 → Option (Int32)
  | 0, _, _, _ => none
  | n + 1, v0, v2, v3 =>
    if 24 ≤ v2 then (
      some v2
    ) else (
      (fX9_hasObject h v0 v3).bind fun q1 =>
      if q1 = true then (
        (gR h 9 v0 7).bind fun x2 =>
        (aI h 0 x2 v3).bind fun x3 =>
        letF (v2 + 1 : Int32) fun x4 =>
        fX9_chainLength_L8 h n v0 x4 x3
      ) else (
        some v2
      )
    )
def fX9_chainLength (h : AH) (a0 : Nat) (a1 : Int32) : Option (Int32) :=
  if hasC h 9 a0 = true then (
    (fX9_topOf h a0 a1).bind fun q5 =>
    fX9_chainLength_L8 h FU a0 0 q5
  ) else none
set_option maxHeartbeats 4000000 in
theorem gX9_chainLength_L8 {Y : YT} {X : XT} (C : CT Y X RX9 cX9_chainLength 4) (O : RO X 3 0 0) {h : AH} {r : Int32} (E : RX Y X (some .int) (some (.int r)) h 0 0) : ∀ (n : Nat) (v0 : Nat) (v2 : Int32) (v3 : Int32), GO Y X 4 r h 0 0 8 [(0, .ref v0), (2, .int v2), (3, .int v3)] [] (fX9_chainLength_L8 h n v0 v2 v3) := by
  intro n
  induction n with
  | zero => intros; exact go_none _ _ _
  | succ n ih =>
    intro v0 v2 v3
    rw [fX9_chainLength_L8]
    refine go_iload_n (pc := 8) C 1 dX9_chainLength_8 rfl ?_
    refine go_bipush (pc := 9) C dX9_chainLength_9 kb_24 ?_
    refine go_icmp_ge (pc := 11) C 35 dX9_chainLength_11 (by decide) (fun _ => ?_) (fun _ => ?_)
    · refine go_iload_n (pc := 35) C 1 dX9_chainLength_35 rfl ?_
      exact go_iret (w := (wI h)) (pc := 36) C E v2 v2 dX9_chainLength_36 rfl
    · refine go_aload_n (pc := 14) C 0 dX9_chainLength_14 rfl ?_
      refine go_iload_n (pc := 15) C 2 dX9_chainLength_15 rfl ?_
      refine go_bind (fun q1 hq1 => ?_)
      refine go_callV (rest := []) (st' := [.int (b2i q1)]) (c' := 0) (s' := 0) (pc := 16) C O miX9_55 mvX9_hasObject [.int v3] rfl (mX9_hasObject hq1).1 (mX9_hasObject hq1).2 dX9_chainLength_16 ⟨by decide, by decide, by decide, by decide⟩ rfl (Nat.le_of_ble_eq_true rfl) rfl ⟨rfl, rfl⟩ ?_
      refine go_ifZ_eq (pc := 19) C 35 dX9_chainLength_19 (by decide) (fun _ => ?_) (fun _ => ?_)
      · refine go_aload_n (pc := 22) C 0 dX9_chainLength_22 rfl ?_
        refine go_gR (pc := 23) C fdX9_21 dX9_chainLength_23 (fun x2 => ?_)
        refine go_iload_n (pc := 26) C 2 dX9_chainLength_26 rfl ?_
        refine go_iald (pc := 27) C dX9_chainLength_27 (fun x3 => ?_)
        refine go_istore_n (ls' := [(3, .int x3), (0, .ref v0), (2, .int v2)]) (pc := 28) C dX9_chainLength_28 (by decide) rfl ?_
        refine go_iincL (pc := 29) C 2 dX9_chainLength_29 rfl ki_1 (by decide) (fun x4 => [(2, .int x4), (3, .int x3), (0, .ref v0)]) (fun _ => rfl) (fun x4 => ?_)
        refine go_goto (pc := 32) C 8 dX9_chainLength_32 (by decide) ?_
        refine go_sub (ls' := [(0, .ref v0), (2, .int x4), (3, .int x3)]) [2, 0, 1] rfl ?_
        exact ih v0 x4 x3
      · refine go_iload_n (pc := 35) C 1 dX9_chainLength_35 rfl ?_
        exact go_iret (w := (wI h)) (pc := 36) C E v2 v2 dX9_chainLength_36 rfl
set_option maxHeartbeats 4000000 in
theorem mX9_chainLength {h : AH} {a0 : Nat} {a1 : Int32} {r : Int32} (hr : fX9_chainLength h a0 a1 = some r) : hasC h 9 a0 = true ∧ MC yX9_chainLength cX9_chainLength 4 (some .int) 3 0 0 [.ref a0, .int a1] h (some (.int r)) h := by
  unfold fX9_chainLength at hr
  obtain ⟨hc, hr⟩ := if_some hr
  refine ⟨hc, mc_of (l0 := [(0, .ref a0), (1, .int a1)]) rfl pn_X9 (Nat.le_of_ble_eq_true rfl) (fun Y X C E O hnm => go_run hr ?_)⟩
  have C : CT Y X RX9 cX9_chainLength 4 := C
  refine go_iconst (pc := 0) C dX9_chainLength_0 ki_0 ?_
  refine go_istore_n (ls' := [(2, .int 0), (0, .ref a0), (1, .int a1)]) (pc := 1) C dX9_chainLength_1 (by decide) rfl ?_
  refine go_aload_n (pc := 2) C 1 dX9_chainLength_2 rfl ?_
  refine go_iload_n (pc := 3) C 2 dX9_chainLength_3 rfl ?_
  refine go_bind (fun q5 hq5 => ?_)
  refine go_callV (rest := []) (st' := [.int q5]) (c' := 0) (s' := 0) (pc := 4) C O miX9_84 mvX9_topOf [.int a1] rfl (mX9_topOf hq5).1 (mX9_topOf hq5).2 dX9_chainLength_4 ⟨by decide, by decide, by decide, by decide⟩ rfl (Nat.le_of_ble_eq_true rfl) rfl ⟨rfl, rfl⟩ ?_
  refine go_istore_n (ls' := [(3, .int q5), (2, .int 0), (0, .ref a0), (1, .int a1)]) (pc := 7) C dX9_chainLength_7 (by decide) rfl ?_
  refine go_sub (ls' := [(0, .ref a0), (2, .int 0), (3, .int q5)]) [2, 1, 0] rfl ?_
  refine gX9_chainLength_L8 C O E FU a0 0 q5
theorem dJ6_bitCount_0f7a4_0 : decode cJ6_bitCount_0f7a4 0 = .ok (.iload_n 0, 1) := by decide +kernel
theorem dJ6_bitCount_0f7a4_1 : decode cJ6_bitCount_0f7a4 1 = .ok (.iload_n 0, 1) := by decide +kernel
theorem dJ6_bitCount_0f7a4_2 : decode cJ6_bitCount_0f7a4 2 = .ok (.iconst 1, 1) := by decide +kernel
theorem dJ6_bitCount_0f7a4_3 : decode cJ6_bitCount_0f7a4 3 = .ok (.iushr, 1) := by decide +kernel
theorem dJ6_bitCount_0f7a4_4 : decode cJ6_bitCount_0f7a4 4 = .ok (.ldc_w 265, 3) := by decide +kernel
theorem dJ6_bitCount_0f7a4_7 : decode cJ6_bitCount_0f7a4 7 = .ok (.iand, 1) := by decide +kernel
theorem dJ6_bitCount_0f7a4_8 : decode cJ6_bitCount_0f7a4 8 = .ok (.isub, 1) := by decide +kernel
theorem dJ6_bitCount_0f7a4_9 : decode cJ6_bitCount_0f7a4 9 = .ok (.istore_n 0, 1) := by decide +kernel
theorem dJ6_bitCount_0f7a4_10 : decode cJ6_bitCount_0f7a4 10 = .ok (.iload_n 0, 1) := by decide +kernel
theorem dJ6_bitCount_0f7a4_11 : decode cJ6_bitCount_0f7a4 11 = .ok (.ldc_w 266, 3) := by decide +kernel
theorem dJ6_bitCount_0f7a4_14 : decode cJ6_bitCount_0f7a4 14 = .ok (.iand, 1) := by decide +kernel
theorem dJ6_bitCount_0f7a4_15 : decode cJ6_bitCount_0f7a4 15 = .ok (.iload_n 0, 1) := by decide +kernel
theorem dJ6_bitCount_0f7a4_16 : decode cJ6_bitCount_0f7a4 16 = .ok (.iconst 2, 1) := by decide +kernel
theorem dJ6_bitCount_0f7a4_17 : decode cJ6_bitCount_0f7a4 17 = .ok (.iushr, 1) := by decide +kernel
theorem dJ6_bitCount_0f7a4_18 : decode cJ6_bitCount_0f7a4 18 = .ok (.ldc_w 266, 3) := by decide +kernel
theorem dJ6_bitCount_0f7a4_21 : decode cJ6_bitCount_0f7a4 21 = .ok (.iand, 1) := by decide +kernel
theorem dJ6_bitCount_0f7a4_22 : decode cJ6_bitCount_0f7a4 22 = .ok (.iadd, 1) := by decide +kernel
theorem dJ6_bitCount_0f7a4_23 : decode cJ6_bitCount_0f7a4 23 = .ok (.istore_n 0, 1) := by decide +kernel
theorem dJ6_bitCount_0f7a4_24 : decode cJ6_bitCount_0f7a4 24 = .ok (.iload_n 0, 1) := by decide +kernel
theorem dJ6_bitCount_0f7a4_25 : decode cJ6_bitCount_0f7a4 25 = .ok (.iload_n 0, 1) := by decide +kernel
theorem dJ6_bitCount_0f7a4_26 : decode cJ6_bitCount_0f7a4 26 = .ok (.iconst 4, 1) := by decide +kernel
theorem dJ6_bitCount_0f7a4_27 : decode cJ6_bitCount_0f7a4 27 = .ok (.iushr, 1) := by decide +kernel
theorem dJ6_bitCount_0f7a4_28 : decode cJ6_bitCount_0f7a4 28 = .ok (.iadd, 1) := by decide +kernel
theorem dJ6_bitCount_0f7a4_29 : decode cJ6_bitCount_0f7a4 29 = .ok (.ldc_w 267, 3) := by decide +kernel
theorem dJ6_bitCount_0f7a4_32 : decode cJ6_bitCount_0f7a4 32 = .ok (.iand, 1) := by decide +kernel
theorem dJ6_bitCount_0f7a4_33 : decode cJ6_bitCount_0f7a4 33 = .ok (.istore_n 0, 1) := by decide +kernel
theorem dJ6_bitCount_0f7a4_34 : decode cJ6_bitCount_0f7a4 34 = .ok (.iload_n 0, 1) := by decide +kernel
theorem dJ6_bitCount_0f7a4_35 : decode cJ6_bitCount_0f7a4 35 = .ok (.iload_n 0, 1) := by decide +kernel
theorem dJ6_bitCount_0f7a4_36 : decode cJ6_bitCount_0f7a4 36 = .ok (.bipush 8, 2) := by decide +kernel
theorem dJ6_bitCount_0f7a4_38 : decode cJ6_bitCount_0f7a4 38 = .ok (.iushr, 1) := by decide +kernel
theorem dJ6_bitCount_0f7a4_39 : decode cJ6_bitCount_0f7a4 39 = .ok (.iadd, 1) := by decide +kernel
theorem dJ6_bitCount_0f7a4_40 : decode cJ6_bitCount_0f7a4 40 = .ok (.istore_n 0, 1) := by decide +kernel
theorem dJ6_bitCount_0f7a4_41 : decode cJ6_bitCount_0f7a4 41 = .ok (.iload_n 0, 1) := by decide +kernel
theorem dJ6_bitCount_0f7a4_42 : decode cJ6_bitCount_0f7a4 42 = .ok (.iload_n 0, 1) := by decide +kernel
theorem dJ6_bitCount_0f7a4_43 : decode cJ6_bitCount_0f7a4 43 = .ok (.bipush 16, 2) := by decide +kernel
theorem dJ6_bitCount_0f7a4_45 : decode cJ6_bitCount_0f7a4 45 = .ok (.iushr, 1) := by decide +kernel
theorem dJ6_bitCount_0f7a4_46 : decode cJ6_bitCount_0f7a4 46 = .ok (.iadd, 1) := by decide +kernel
theorem dJ6_bitCount_0f7a4_47 : decode cJ6_bitCount_0f7a4 47 = .ok (.istore_n 0, 1) := by decide +kernel
theorem dJ6_bitCount_0f7a4_48 : decode cJ6_bitCount_0f7a4 48 = .ok (.iload_n 0, 1) := by decide +kernel
theorem dJ6_bitCount_0f7a4_49 : decode cJ6_bitCount_0f7a4 49 = .ok (.bipush 63, 2) := by decide +kernel
theorem dJ6_bitCount_0f7a4_51 : decode cJ6_bitCount_0f7a4 51 = .ok (.iand, 1) := by decide +kernel
theorem dJ6_bitCount_0f7a4_52 : decode cJ6_bitCount_0f7a4 52 = .ok (.ireturn, 1) := by decide +kernel
def fJ6_bitCount_0f7a4 (h : AH) (a0 : Int32) : Option (Int32) :=
  letF (a0 - ((jush a0 1) &&& 1431655765) : Int32) fun x1 =>
  letF ((x1 &&& 858993459) + ((jush x1 2) &&& 858993459) : Int32) fun x2 =>
  letF ((x2 + (jush x2 4)) &&& 252645135 : Int32) fun x3 =>
  letF (x3 + (jush x3 8) : Int32) fun x4 =>
  letF (x4 + (jush x4 16) : Int32) fun x5 =>
  some (x5 &&& 63)
set_option maxHeartbeats 4000000 in
theorem mJ6_bitCount_0f7a4 {h : AH} {a0 : Int32} {r : Int32} (hr : fJ6_bitCount_0f7a4 h a0 = some r) : MC yJ6_bitCount_0f7a4 cJ6_bitCount_0f7a4 1 (some .int) 1 0 0 [.int a0] h (some (.int r)) h := by
  unfold fJ6_bitCount_0f7a4 at hr
  refine mc_of (l0 := [(0, .int a0)]) rfl pn_J6 (Nat.le_of_ble_eq_true rfl) (fun Y X C E O hnm => go_run hr ?_)
  have C : CT Y X RJ6 cJ6_bitCount_0f7a4 1 := C
  refine go_iload_n (pc := 0) C 0 dJ6_bitCount_0f7a4_0 rfl ?_
  refine go_iload_n (pc := 1) C 0 dJ6_bitCount_0f7a4_1 rfl ?_
  refine go_iconst (pc := 2) C dJ6_bitCount_0f7a4_2 ki_1 ?_
  refine go_iushr (pc := 3) C dJ6_bitCount_0f7a4_3 ?_
  refine go_ldcw (pc := 4) C w_399 dJ6_bitCount_0f7a4_4 ?_
  refine go_iand (pc := 7) C dJ6_bitCount_0f7a4_7 ?_
  refine go_isub (pc := 8) C dJ6_bitCount_0f7a4_8 ?_
  refine go_istore_nL (pc := 9) C dJ6_bitCount_0f7a4_9 (by decide) (fun x1 => [(0, .int x1)]) (fun _ => rfl) (fun x1 => ?_)
  refine go_iload_n (pc := 10) C 0 dJ6_bitCount_0f7a4_10 rfl ?_
  refine go_ldcw (pc := 11) C w_400 dJ6_bitCount_0f7a4_11 ?_
  refine go_iand (pc := 14) C dJ6_bitCount_0f7a4_14 ?_
  refine go_iload_n (pc := 15) C 0 dJ6_bitCount_0f7a4_15 rfl ?_
  refine go_iconst (pc := 16) C dJ6_bitCount_0f7a4_16 ki_2 ?_
  refine go_iushr (pc := 17) C dJ6_bitCount_0f7a4_17 ?_
  refine go_ldcw (pc := 18) C w_400 dJ6_bitCount_0f7a4_18 ?_
  refine go_iand (pc := 21) C dJ6_bitCount_0f7a4_21 ?_
  refine go_iadd (pc := 22) C dJ6_bitCount_0f7a4_22 ?_
  refine go_istore_nL (pc := 23) C dJ6_bitCount_0f7a4_23 (by decide) (fun x2 => [(0, .int x2)]) (fun _ => rfl) (fun x2 => ?_)
  refine go_iload_n (pc := 24) C 0 dJ6_bitCount_0f7a4_24 rfl ?_
  refine go_iload_n (pc := 25) C 0 dJ6_bitCount_0f7a4_25 rfl ?_
  refine go_iconst (pc := 26) C dJ6_bitCount_0f7a4_26 ki_4 ?_
  refine go_iushr (pc := 27) C dJ6_bitCount_0f7a4_27 ?_
  refine go_iadd (pc := 28) C dJ6_bitCount_0f7a4_28 ?_
  refine go_ldcw (pc := 29) C w_401 dJ6_bitCount_0f7a4_29 ?_
  refine go_iand (pc := 32) C dJ6_bitCount_0f7a4_32 ?_
  refine go_istore_nL (pc := 33) C dJ6_bitCount_0f7a4_33 (by decide) (fun x3 => [(0, .int x3)]) (fun _ => rfl) (fun x3 => ?_)
  refine go_iload_n (pc := 34) C 0 dJ6_bitCount_0f7a4_34 rfl ?_
  refine go_iload_n (pc := 35) C 0 dJ6_bitCount_0f7a4_35 rfl ?_
  refine go_bipush (pc := 36) C dJ6_bitCount_0f7a4_36 kb_8 ?_
  refine go_iushr (pc := 38) C dJ6_bitCount_0f7a4_38 ?_
  refine go_iadd (pc := 39) C dJ6_bitCount_0f7a4_39 ?_
  refine go_istore_nL (pc := 40) C dJ6_bitCount_0f7a4_40 (by decide) (fun x4 => [(0, .int x4)]) (fun _ => rfl) (fun x4 => ?_)
  refine go_iload_n (pc := 41) C 0 dJ6_bitCount_0f7a4_41 rfl ?_
  refine go_iload_n (pc := 42) C 0 dJ6_bitCount_0f7a4_42 rfl ?_
  refine go_bipush (pc := 43) C dJ6_bitCount_0f7a4_43 kb_16 ?_
  refine go_iushr (pc := 45) C dJ6_bitCount_0f7a4_45 ?_
  refine go_iadd (pc := 46) C dJ6_bitCount_0f7a4_46 ?_
  refine go_istore_nL (pc := 47) C dJ6_bitCount_0f7a4_47 (by decide) (fun x5 => [(0, .int x5)]) (fun _ => rfl) (fun x5 => ?_)
  refine go_iload_n (pc := 48) C 0 dJ6_bitCount_0f7a4_48 rfl ?_
  refine go_bipush (pc := 49) C dJ6_bitCount_0f7a4_49 kb_63 ?_
  refine go_iand (pc := 51) C dJ6_bitCount_0f7a4_51 ?_
  exact go_iret (w := (wI h)) (pc := 52) C E (x5 &&& 63) (x5 &&& 63) dJ6_bitCount_0f7a4_52 rfl
theorem dX9_frameTotal_0 : decode cX9_frameTotal 0 = .ok (.iconst 0, 1) := by decide +kernel
theorem dX9_frameTotal_1 : decode cX9_frameTotal 1 = .ok (.istore_n 1, 1) := by decide +kernel
theorem dX9_frameTotal_2 : decode cX9_frameTotal 2 = .ok (.iconst 0, 1) := by decide +kernel
theorem dX9_frameTotal_3 : decode cX9_frameTotal 3 = .ok (.istore_n 2, 1) := by decide +kernel
theorem dX9_frameTotal_4 : decode cX9_frameTotal 4 = .ok (.iload_n 2, 1) := by decide +kernel
theorem dX9_frameTotal_5 : decode cX9_frameTotal 5 = .ok (.bipush 24, 2) := by decide +kernel
theorem dX9_frameTotal_7 : decode cX9_frameTotal 7 = .ok (.if_icmp .ge 21, 3) := by decide +kernel
theorem dX9_frameTotal_10 : decode cX9_frameTotal 10 = .ok (.iload_n 1, 1) := by decide +kernel
theorem dX9_frameTotal_11 : decode cX9_frameTotal 11 = .ok (.aload_n 0, 1) := by decide +kernel
theorem dX9_frameTotal_12 : decode cX9_frameTotal 12 = .ok (.getfield 15, 3) := by decide +kernel
theorem dX9_frameTotal_15 : decode cX9_frameTotal 15 = .ok (.iload_n 2, 1) := by decide +kernel
theorem dX9_frameTotal_16 : decode cX9_frameTotal 16 = .ok (.iaload, 1) := by decide +kernel
theorem dX9_frameTotal_17 : decode cX9_frameTotal 17 = .ok (.invokestatic 66, 3) := by decide +kernel
theorem dX9_frameTotal_20 : decode cX9_frameTotal 20 = .ok (.iadd, 1) := by decide +kernel
theorem dX9_frameTotal_21 : decode cX9_frameTotal 21 = .ok (.istore_n 1, 1) := by decide +kernel
theorem dX9_frameTotal_22 : decode cX9_frameTotal 22 = .ok (.iinc 2 1, 3) := by decide +kernel
theorem dX9_frameTotal_25 : decode cX9_frameTotal 25 = .ok (.goto (-21), 3) := by decide +kernel
theorem dX9_frameTotal_28 : decode cX9_frameTotal 28 = .ok (.iload_n 1, 1) := by decide +kernel
theorem dX9_frameTotal_29 : decode cX9_frameTotal 29 = .ok (.ireturn, 1) := by decide +kernel
def fX9_frameTotal_L4 (h : AH) : Nat → Nat → Int32 → Int32 → Option (Int32)
  | 0, _, _, _ => none
  | n + 1, v0, v1, v2 =>
    if 24 ≤ v2 then (
      some v1
    ) else (
      (gR h 9 v0 5).bind fun x1 =>
      (aI h 0 x1 v2).bind fun x2 =>
      (fJ6_bitCount_0f7a4 h x2).bind fun q3 =>
      letF (v1 + q3 : Int32) fun x4 =>
      letF (v2 + 1 : Int32) fun x5 =>
      fX9_frameTotal_L4 h n v0 x4 x5
    )
def fX9_frameTotal (h : AH) (a0 : Nat) : Option (Int32) :=
  if hasC h 9 a0 = true then (
    fX9_frameTotal_L4 h FU a0 0 0
  ) else none
set_option maxHeartbeats 4000000 in
theorem gX9_frameTotal_L4 {Y : YT} {X : XT} (C : CT Y X RX9 cX9_frameTotal 3) (O : RO X 2 0 0) {h : AH} {r : Int32} (E : RX Y X (some .int) (some (.int r)) h 0 0) : ∀ (n : Nat) (v0 : Nat) (v1 : Int32) (v2 : Int32), GO Y X 3 r h 0 0 4 [(0, .ref v0), (1, .int v1), (2, .int v2)] [] (fX9_frameTotal_L4 h n v0 v1 v2) := by
  intro n
  induction n with
  | zero => intros; exact go_none _ _ _
  | succ n ih =>
    intro v0 v1 v2
    rw [fX9_frameTotal_L4]
    refine go_iload_n (pc := 4) C 2 dX9_frameTotal_4 rfl ?_
    refine go_bipush (pc := 5) C dX9_frameTotal_5 kb_24 ?_
    refine go_icmp_ge (pc := 7) C 28 dX9_frameTotal_7 (by decide) (fun _ => ?_) (fun _ => ?_)
    · refine go_iload_n (pc := 28) C 1 dX9_frameTotal_28 rfl ?_
      exact go_iret (w := (wI h)) (pc := 29) C E v1 v1 dX9_frameTotal_29 rfl
    · refine go_iload_n (pc := 10) C 1 dX9_frameTotal_10 rfl ?_
      refine go_aload_n (pc := 11) C 0 dX9_frameTotal_11 rfl ?_
      refine go_gR (pc := 12) C fdX9_15 dX9_frameTotal_12 (fun x1 => ?_)
      refine go_iload_n (pc := 15) C 2 dX9_frameTotal_15 rfl ?_
      refine go_iald (pc := 16) C dX9_frameTotal_16 (fun x2 => ?_)
      refine go_bind (fun q3 hq3 => ?_)
      refine go_callS (rest := [.int v1]) (st' := [.int q3, .int v1]) (c' := 0) (s' := 0) (pc := 17) C O miX9_66 w_397 [.int x2] rfl (mJ6_bitCount_0f7a4 hq3) dX9_frameTotal_17 ⟨by decide, by decide, by decide, by decide⟩ rfl (Nat.le_of_ble_eq_true rfl) rfl ⟨rfl, rfl⟩ ?_
      refine go_iadd (pc := 20) C dX9_frameTotal_20 ?_
      refine go_istore_nL (pc := 21) C dX9_frameTotal_21 (by decide) (fun x4 => [(1, .int x4), (0, .ref v0), (2, .int v2)]) (fun _ => rfl) (fun x4 => ?_)
      refine go_iincL (pc := 22) C 2 dX9_frameTotal_22 rfl ki_1 (by decide) (fun x5 => [(2, .int x5), (1, .int x4), (0, .ref v0)]) (fun _ => rfl) (fun x5 => ?_)
      refine go_goto (pc := 25) C 4 dX9_frameTotal_25 (by decide) ?_
      refine go_sub (ls' := [(0, .ref v0), (1, .int x4), (2, .int x5)]) [2, 1, 0] rfl ?_
      exact ih v0 x4 x5
set_option maxHeartbeats 4000000 in
theorem mX9_frameTotal {h : AH} {a0 : Nat} {r : Int32} (hr : fX9_frameTotal h a0 = some r) : hasC h 9 a0 = true ∧ MC yX9_frameTotal cX9_frameTotal 3 (some .int) 2 0 0 [.ref a0] h (some (.int r)) h := by
  unfold fX9_frameTotal at hr
  obtain ⟨hc, hr⟩ := if_some hr
  refine ⟨hc, mc_of (l0 := [(0, .ref a0)]) rfl pn_X9 (Nat.le_of_ble_eq_true rfl) (fun Y X C E O hnm => go_run hr ?_)⟩
  have C : CT Y X RX9 cX9_frameTotal 3 := C
  refine go_iconst (pc := 0) C dX9_frameTotal_0 ki_0 ?_
  refine go_istore_n (ls' := [(1, .int 0), (0, .ref a0)]) (pc := 1) C dX9_frameTotal_1 (by decide) rfl ?_
  refine go_iconst (pc := 2) C dX9_frameTotal_2 ki_0 ?_
  refine go_istore_n (ls' := [(2, .int 0), (1, .int 0), (0, .ref a0)]) (pc := 3) C dX9_frameTotal_3 (by decide) rfl ?_
  refine go_sub (ls' := [(0, .ref a0), (1, .int 0), (2, .int 0)]) [2, 1, 0] rfl ?_
  refine gX9_frameTotal_L4 C O E FU a0 0 0
theorem dX9_objectTotal_0 : decode cX9_objectTotal 0 = .ok (.aload_n 0, 1) := by decide +kernel
theorem dX9_objectTotal_1 : decode cX9_objectTotal 1 = .ok (.getfield 43, 3) := by decide +kernel
theorem dX9_objectTotal_4 : decode cX9_objectTotal 4 = .ok (.invokestatic 66, 3) := by decide +kernel
theorem dX9_objectTotal_7 : decode cX9_objectTotal 7 = .ok (.ireturn, 1) := by decide +kernel
def fX9_objectTotal (h : AH) (a0 : Nat) : Option (Int32) :=
  if hasC h 9 a0 = true then (
    (gI h 9 a0 2).bind fun x1 =>
    (fJ6_bitCount_0f7a4 h x1).bind fun q2 =>
    some q2
  ) else none
set_option maxHeartbeats 4000000 in
theorem mX9_objectTotal {h : AH} {a0 : Nat} {r : Int32} (hr : fX9_objectTotal h a0 = some r) : hasC h 9 a0 = true ∧ MC yX9_objectTotal cX9_objectTotal 1 (some .int) 2 0 0 [.ref a0] h (some (.int r)) h := by
  unfold fX9_objectTotal at hr
  obtain ⟨hc, hr⟩ := if_some hr
  refine ⟨hc, mc_of (l0 := [(0, .ref a0)]) rfl pn_X9 (Nat.le_of_ble_eq_true rfl) (fun Y X C E O hnm => go_run hr ?_)⟩
  have C : CT Y X RX9 cX9_objectTotal 1 := C
  refine go_aload_n (pc := 0) C 0 dX9_objectTotal_0 rfl ?_
  refine go_gI (pc := 1) C fdX9_43 dX9_objectTotal_1 (fun x1 => ?_)
  refine go_bind (fun q2 hq2 => ?_)
  refine go_callS (rest := []) (st' := [.int q2]) (c' := 0) (s' := 0) (pc := 4) C O miX9_66 w_397 [.int x1] rfl (mJ6_bitCount_0f7a4 hq2) dX9_objectTotal_4 ⟨by decide, by decide, by decide, by decide⟩ rfl (Nat.le_of_ble_eq_true rfl) rfl ⟨rfl, rfl⟩ ?_
  exact go_iret (w := (wI h)) (pc := 7) C E q2 q2 dX9_objectTotal_7 rfl
theorem dX9_writeTotal_0 : decode cX9_writeTotal 0 = .ok (.aload_n 0, 1) := by decide +kernel
theorem dX9_writeTotal_1 : decode cX9_writeTotal 1 = .ok (.getfield 46, 3) := by decide +kernel
theorem dX9_writeTotal_4 : decode cX9_writeTotal 4 = .ok (.ireturn, 1) := by decide +kernel
def fX9_writeTotal (h : AH) (a0 : Nat) : Option (Int32) :=
  if hasC h 9 a0 = true then (
    (gI h 9 a0 3).bind fun x1 =>
    some x1
  ) else none
set_option maxHeartbeats 4000000 in
theorem mX9_writeTotal {h : AH} {a0 : Nat} {r : Int32} (hr : fX9_writeTotal h a0 = some r) : hasC h 9 a0 = true ∧ MC yX9_writeTotal cX9_writeTotal 1 (some .int) 1 0 0 [.ref a0] h (some (.int r)) h := by
  unfold fX9_writeTotal at hr
  obtain ⟨hc, hr⟩ := if_some hr
  refine ⟨hc, mc_of (l0 := [(0, .ref a0)]) rfl pn_X9 (Nat.le_of_ble_eq_true rfl) (fun Y X C E O hnm => go_run hr ?_)⟩
  have C : CT Y X RX9 cX9_writeTotal 1 := C
  refine go_aload_n (pc := 0) C 0 dX9_writeTotal_0 rfl ?_
  refine go_gI (pc := 1) C fdX9_46 dX9_writeTotal_1 (fun x1 => ?_)
  exact go_iret (w := (wI h)) (pc := 4) C E x1 x1 dX9_writeTotal_4 rfl
theorem dX9_heldOf_0 : decode cX9_heldOf 0 = .ok (.aload_n 0, 1) := by decide +kernel
theorem dX9_heldOf_1 : decode cX9_heldOf 1 = .ok (.iload_n 1, 1) := by decide +kernel
theorem dX9_heldOf_2 : decode cX9_heldOf 2 = .ok (.invokevirtual 55, 3) := by decide +kernel
theorem dX9_heldOf_5 : decode cX9_heldOf 5 = .ok (.ifCond .eq 12, 3) := by decide +kernel
theorem dX9_heldOf_8 : decode cX9_heldOf 8 = .ok (.aload_n 0, 1) := by decide +kernel
theorem dX9_heldOf_9 : decode cX9_heldOf 9 = .ok (.getfield 15, 3) := by decide +kernel
theorem dX9_heldOf_12 : decode cX9_heldOf 12 = .ok (.iload_n 1, 1) := by decide +kernel
theorem dX9_heldOf_13 : decode cX9_heldOf 13 = .ok (.iaload, 1) := by decide +kernel
theorem dX9_heldOf_14 : decode cX9_heldOf 14 = .ok (.goto 4, 3) := by decide +kernel
theorem dX9_heldOf_17 : decode cX9_heldOf 17 = .ok (.iconst 0, 1) := by decide +kernel
theorem dX9_heldOf_18 : decode cX9_heldOf 18 = .ok (.ireturn, 1) := by decide +kernel
def fX9_heldOf (h : AH) (a0 : Nat) (a1 : Int32) : Option (Int32) :=
  if hasC h 9 a0 = true then (
    (fX9_hasObject h a0 a1).bind fun q1 =>
    if q1 = true then (
      (gR h 9 a0 5).bind fun x2 =>
      (aI h 0 x2 a1).bind fun x3 =>
      some x3
    ) else (
      some 0
    )
  ) else none
set_option maxHeartbeats 4000000 in
theorem mX9_heldOf {h : AH} {a0 : Nat} {a1 : Int32} {r : Int32} (hr : fX9_heldOf h a0 a1 = some r) : hasC h 9 a0 = true ∧ MC yX9_heldOf cX9_heldOf 2 (some .int) 2 0 0 [.ref a0, .int a1] h (some (.int r)) h := by
  unfold fX9_heldOf at hr
  obtain ⟨hc, hr⟩ := if_some hr
  refine ⟨hc, mc_of (l0 := [(0, .ref a0), (1, .int a1)]) rfl pn_X9 (Nat.le_of_ble_eq_true rfl) (fun Y X C E O hnm => go_run hr ?_)⟩
  have C : CT Y X RX9 cX9_heldOf 2 := C
  refine go_aload_n (pc := 0) C 0 dX9_heldOf_0 rfl ?_
  refine go_iload_n (pc := 1) C 1 dX9_heldOf_1 rfl ?_
  refine go_bind (fun q1 hq1 => ?_)
  refine go_callV (rest := []) (st' := [.int (b2i q1)]) (c' := 0) (s' := 0) (pc := 2) C O miX9_55 mvX9_hasObject [.int a1] rfl (mX9_hasObject hq1).1 (mX9_hasObject hq1).2 dX9_heldOf_2 ⟨by decide, by decide, by decide, by decide⟩ rfl (Nat.le_of_ble_eq_true rfl) rfl ⟨rfl, rfl⟩ ?_
  refine go_ifZ_eq (pc := 5) C 17 dX9_heldOf_5 (by decide) (fun _ => ?_) (fun _ => ?_)
  · refine go_aload_n (pc := 8) C 0 dX9_heldOf_8 rfl ?_
    refine go_gR (pc := 9) C fdX9_15 dX9_heldOf_9 (fun x2 => ?_)
    refine go_iload_n (pc := 12) C 1 dX9_heldOf_12 rfl ?_
    refine go_iald (pc := 13) C dX9_heldOf_13 (fun x3 => ?_)
    refine go_goto (pc := 14) C 18 dX9_heldOf_14 (by decide) ?_
    exact go_iret (w := (wI h)) (pc := 18) C E x3 x3 dX9_heldOf_18 rfl
  · refine go_iconst (pc := 17) C dX9_heldOf_17 ki_0 ?_
    exact go_iret (w := (wI h)) (pc := 18) C E 0 0 dX9_heldOf_18 rfl
theorem dX6_measure_0 : decode cX6_measure 0 = .ok (.iload_n 0, 1) := by decide +kernel
theorem dX6_measure_1 : decode cX6_measure 1 = .ok (.tableswitch 115 102 119 #[93, 115, 115, 115, 115, 115, 115, 115, 87, 98, 105, 115, 115, 103, 115, 115, 115, 107], 87) := by decide +kernel
theorem dX6_measure_88 : decode cX6_measure 88 = .ok (.aload_n 1, 1) := by decide +kernel
theorem dX6_measure_89 : decode cX6_measure 89 = .ok (.iload_n 2, 1) := by decide +kernel
theorem dX6_measure_90 : decode cX6_measure 90 = .ok (.invokevirtual 68, 3) := by decide +kernel
theorem dX6_measure_93 : decode cX6_measure 93 = .ok (.ireturn, 1) := by decide +kernel
theorem dX6_measure_94 : decode cX6_measure 94 = .ok (.aload_n 1, 1) := by decide +kernel
theorem dX6_measure_95 : decode cX6_measure 95 = .ok (.invokevirtual 74, 3) := by decide +kernel
theorem dX6_measure_98 : decode cX6_measure 98 = .ok (.ireturn, 1) := by decide +kernel
theorem dX6_measure_99 : decode cX6_measure 99 = .ok (.aload_n 1, 1) := by decide +kernel
theorem dX6_measure_100 : decode cX6_measure 100 = .ok (.invokevirtual 78, 3) := by decide +kernel
theorem dX6_measure_103 : decode cX6_measure 103 = .ok (.ireturn, 1) := by decide +kernel
theorem dX6_measure_104 : decode cX6_measure 104 = .ok (.iload_n 2, 1) := by decide +kernel
theorem dX6_measure_105 : decode cX6_measure 105 = .ok (.ireturn, 1) := by decide +kernel
theorem dX6_measure_106 : decode cX6_measure 106 = .ok (.iload_n 3, 1) := by decide +kernel
theorem dX6_measure_107 : decode cX6_measure 107 = .ok (.ireturn, 1) := by decide +kernel
theorem dX6_measure_108 : decode cX6_measure 108 = .ok (.aload_n 1, 1) := by decide +kernel
theorem dX6_measure_109 : decode cX6_measure 109 = .ok (.invokevirtual 81, 3) := by decide +kernel
theorem dX6_measure_112 : decode cX6_measure 112 = .ok (.bipush 7, 2) := by decide +kernel
theorem dX6_measure_114 : decode cX6_measure 114 = .ok (.irem, 1) := by decide +kernel
theorem dX6_measure_115 : decode cX6_measure 115 = .ok (.ireturn, 1) := by decide +kernel
theorem dX6_measure_116 : decode cX6_measure 116 = .ok (.aload_n 1, 1) := by decide +kernel
theorem dX6_measure_117 : decode cX6_measure 117 = .ok (.aload_n 1, 1) := by decide +kernel
theorem dX6_measure_118 : decode cX6_measure 118 = .ok (.iload_n 2, 1) := by decide +kernel
theorem dX6_measure_119 : decode cX6_measure 119 = .ok (.invokevirtual 84, 3) := by decide +kernel
theorem dX6_measure_122 : decode cX6_measure 122 = .ok (.invokevirtual 87, 3) := by decide +kernel
theorem dX6_measure_125 : decode cX6_measure 125 = .ok (.invokestatic 90, 3) := by decide +kernel
theorem dX6_measure_128 : decode cX6_measure 128 = .ok (.ireturn, 1) := by decide +kernel
def fX6_measure (h : AH) (a0 : Int32) (a1 : Nat) (a2 : Int32) (a3 : Int32) : Option (Int32) :=
  if a0 = 102 then (
    (fX9_frameTotal h a1).bind fun q2 =>
    some q2
  ) else (
    if a0 = 110 then (
      (fX9_chainLength h a1 a2).bind fun q4 =>
      some q4
    ) else (
      if a0 = 111 then (
        (fX9_objectTotal h a1).bind fun q6 =>
        some q6
      ) else (
        if a0 = 112 then (
          some a3
        ) else (
          if a0 = 115 then (
            some a2
          ) else (
            if a0 = 119 then (
              (fX9_writeTotal h a1).bind fun q10 =>
              (jrem q10 7).bind fun x11 =>
              some x11
            ) else (
              (fX9_topOf h a1 a2).bind fun q12 =>
              (fX9_heldOf h a1 q12).bind fun q13 =>
              (fJ6_bitCount_0f7a4 h q13).bind fun q14 =>
              some q14))))))
set_option maxHeartbeats 4000000 in
theorem mX6_measure {h : AH} {a0 : Int32} {a1 : Nat} {a2 : Int32} {a3 : Int32} {r : Int32} (hr : fX6_measure h a0 a1 a2 a3 = some r) : MC yX6_measure cX6_measure 4 (some .int) 4 0 0 [.int a0, .ref a1, .int a2, .int a3] h (some (.int r)) h := by
  unfold fX6_measure at hr
  refine mc_of (l0 := [(0, .int a0), (1, .ref a1), (2, .int a2), (3, .int a3)]) rfl pn_X6 (Nat.le_of_ble_eq_true rfl) (fun Y X C E O hnm => go_run hr ?_)
  have C : CT Y X RX6 cX6_measure 4 := C
  refine go_iload_n (pc := 0) C 0 dX6_measure_0 rfl ?_
  refine go_ite (fun hc1 => ?_) (fun hc1 => ?_)
  · refine go_tsw (pc := 1) C 94 102 hc1 dX6_measure_1 (by decide) (by decide) rfl (by decide) ?_
    refine go_aload_n (pc := 94) C 1 dX6_measure_94 rfl ?_
    refine go_bind (fun q2 hq2 => ?_)
    refine go_callV (rest := []) (st' := [.int q2]) (c' := 0) (s' := 0) (pc := 95) C O miX6_74 mvX9_frameTotal [] rfl (mX9_frameTotal hq2).1 (mX9_frameTotal hq2).2 dX6_measure_95 ⟨by decide, by decide, by decide, by decide⟩ rfl (Nat.le_of_ble_eq_true rfl) rfl ⟨rfl, rfl⟩ ?_
    exact go_iret (w := (wI h)) (pc := 98) C E q2 q2 dX6_measure_98 rfl
  · refine go_ite (fun hc3 => ?_) (fun hc3 => ?_)
    · refine go_tsw (pc := 1) C 88 110 hc3 dX6_measure_1 (by decide) (by decide) rfl (by decide) ?_
      refine go_aload_n (pc := 88) C 1 dX6_measure_88 rfl ?_
      refine go_iload_n (pc := 89) C 2 dX6_measure_89 rfl ?_
      refine go_bind (fun q4 hq4 => ?_)
      refine go_callV (rest := []) (st' := [.int q4]) (c' := 0) (s' := 0) (pc := 90) C O miX6_68 mvX9_chainLength [.int a2] rfl (mX9_chainLength hq4).1 (mX9_chainLength hq4).2 dX6_measure_90 ⟨by decide, by decide, by decide, by decide⟩ rfl (Nat.le_of_ble_eq_true rfl) rfl ⟨rfl, rfl⟩ ?_
      exact go_iret (w := (wI h)) (pc := 93) C E q4 q4 dX6_measure_93 rfl
    · refine go_ite (fun hc5 => ?_) (fun hc5 => ?_)
      · refine go_tsw (pc := 1) C 99 111 hc5 dX6_measure_1 (by decide) (by decide) rfl (by decide) ?_
        refine go_aload_n (pc := 99) C 1 dX6_measure_99 rfl ?_
        refine go_bind (fun q6 hq6 => ?_)
        refine go_callV (rest := []) (st' := [.int q6]) (c' := 0) (s' := 0) (pc := 100) C O miX6_78 mvX9_objectTotal [] rfl (mX9_objectTotal hq6).1 (mX9_objectTotal hq6).2 dX6_measure_100 ⟨by decide, by decide, by decide, by decide⟩ rfl (Nat.le_of_ble_eq_true rfl) rfl ⟨rfl, rfl⟩ ?_
        exact go_iret (w := (wI h)) (pc := 103) C E q6 q6 dX6_measure_103 rfl
      · refine go_ite (fun hc7 => ?_) (fun hc7 => ?_)
        · refine go_tsw (pc := 1) C 106 112 hc7 dX6_measure_1 (by decide) (by decide) rfl (by decide) ?_
          refine go_iload_n (pc := 106) C 3 dX6_measure_106 rfl ?_
          exact go_iret (w := (wI h)) (pc := 107) C E a3 a3 dX6_measure_107 rfl
        · refine go_ite (fun hc8 => ?_) (fun hc8 => ?_)
          · refine go_tsw (pc := 1) C 104 115 hc8 dX6_measure_1 (by decide) (by decide) rfl (by decide) ?_
            refine go_iload_n (pc := 104) C 2 dX6_measure_104 rfl ?_
            exact go_iret (w := (wI h)) (pc := 105) C E a2 a2 dX6_measure_105 rfl
          · refine go_ite (fun hc9 => ?_) (fun hc9 => ?_)
            · refine go_tsw (pc := 1) C 108 119 hc9 dX6_measure_1 (by decide) (by decide) rfl (by decide) ?_
              refine go_aload_n (pc := 108) C 1 dX6_measure_108 rfl ?_
              refine go_bind (fun q10 hq10 => ?_)
              refine go_callV (rest := []) (st' := [.int q10]) (c' := 0) (s' := 0) (pc := 109) C O miX6_81 mvX9_writeTotal [] rfl (mX9_writeTotal hq10).1 (mX9_writeTotal hq10).2 dX6_measure_109 ⟨by decide, by decide, by decide, by decide⟩ rfl (Nat.le_of_ble_eq_true rfl) rfl ⟨rfl, rfl⟩ ?_
              refine go_bipush (pc := 112) C dX6_measure_112 kb_7 ?_
              refine go_irem (pc := 114) C dX6_measure_114 (fun x11 => ?_)
              exact go_iret (w := (wI h)) (pc := 115) C E x11 x11 dX6_measure_115 rfl
            · refine go_tsw_else (pc := 1) C 116 [102, 110, 111, 112, 115, 119] dX6_measure_1 (fun v hv => by simp only [List.mem_cons, List.not_mem_nil, or_false] at hv; rcases hv with rfl | rfl | rfl | rfl | rfl | rfl <;> first | exact i32_ne hc1 (by decide) | exact i32_ne hc3 (by decide) | exact i32_ne hc5 (by decide) | exact i32_ne hc7 (by decide) | exact i32_ne hc8 (by decide) | exact i32_ne hc9 (by decide)) (by decide) (by decide) (by decide) ?_
              refine go_aload_n (pc := 116) C 1 dX6_measure_116 rfl ?_
              refine go_aload_n (pc := 117) C 1 dX6_measure_117 rfl ?_
              refine go_iload_n (pc := 118) C 2 dX6_measure_118 rfl ?_
              refine go_bind (fun q12 hq12 => ?_)
              refine go_callV (rest := [.ref a1]) (st' := [.int q12, .ref a1]) (c' := 0) (s' := 0) (pc := 119) C O miX6_84 mvX9_topOf [.int a2] rfl (mX9_topOf hq12).1 (mX9_topOf hq12).2 dX6_measure_119 ⟨by decide, by decide, by decide, by decide⟩ rfl (Nat.le_of_ble_eq_true rfl) rfl ⟨rfl, rfl⟩ ?_
              refine go_bind (fun q13 hq13 => ?_)
              refine go_callV (rest := []) (st' := [.int q13]) (c' := 0) (s' := 0) (pc := 122) C O miX6_87 mvX9_heldOf [.int q12] rfl (mX9_heldOf hq13).1 (mX9_heldOf hq13).2 dX6_measure_122 ⟨by decide, by decide, by decide, by decide⟩ rfl (Nat.le_of_ble_eq_true rfl) rfl ⟨rfl, rfl⟩ ?_
              refine go_bind (fun q14 hq14 => ?_)
              refine go_callS (rest := []) (st' := [.int q14]) (c' := 0) (s' := 0) (pc := 125) C O miX6_90 w_397 [.int q13] rfl (mJ6_bitCount_0f7a4 hq14) dX6_measure_125 ⟨by decide, by decide, by decide, by decide⟩ rfl (Nat.le_of_ble_eq_true rfl) rfl ⟨rfl, rfl⟩ ?_
              exact go_iret (w := (wI h)) (pc := 128) C E q14 q14 dX6_measure_128 rfl
theorem dX6_reckon_0 : decode cX6_reckon 0 = .ok (.iconst 0, 1) := by decide +kernel
theorem dX6_reckon_1 : decode cX6_reckon 1 = .ok (.istore 4, 2) := by decide +kernel
theorem dX6_reckon_3 : decode cX6_reckon 3 = .ok (.iconst 0, 1) := by decide +kernel
theorem dX6_reckon_4 : decode cX6_reckon 4 = .ok (.istore 5, 2) := by decide +kernel
theorem dX6_reckon_6 : decode cX6_reckon 6 = .ok (.iload 5, 2) := by decide +kernel
theorem dX6_reckon_8 : decode cX6_reckon 8 = .ok (.aload_n 0, 1) := by decide +kernel
theorem dX6_reckon_9 : decode cX6_reckon 9 = .ok (.getfield 18, 3) := by decide +kernel
theorem dX6_reckon_12 : decode cX6_reckon 12 = .ok (.if_icmp .ge 107, 3) := by decide +kernel
theorem dX6_reckon_15 : decode cX6_reckon 15 = .ok (.iload 5, 2) := by decide +kernel
theorem dX6_reckon_17 : decode cX6_reckon 17 = .ok (.aload_n 0, 1) := by decide +kernel
theorem dX6_reckon_18 : decode cX6_reckon 18 = .ok (.getfield 9, 3) := by decide +kernel
theorem dX6_reckon_21 : decode cX6_reckon 21 = .ok (.arraylength, 1) := by decide +kernel
theorem dX6_reckon_22 : decode cX6_reckon 22 = .ok (.if_icmp .ge 97, 3) := by decide +kernel
theorem dX6_reckon_25 : decode cX6_reckon 25 = .ok (.aload_n 0, 1) := by decide +kernel
theorem dX6_reckon_26 : decode cX6_reckon 26 = .ok (.getfield 9, 3) := by decide +kernel
theorem dX6_reckon_29 : decode cX6_reckon 29 = .ok (.iload 5, 2) := by decide +kernel
theorem dX6_reckon_31 : decode cX6_reckon 31 = .ok (.iaload, 1) := by decide +kernel
theorem dX6_reckon_32 : decode cX6_reckon 32 = .ok (.invokestatic 39, 3) := by decide +kernel
theorem dX6_reckon_35 : decode cX6_reckon 35 = .ok (.istore 6, 2) := by decide +kernel
theorem dX6_reckon_37 : decode cX6_reckon 37 = .ok (.iload 6, 2) := by decide +kernel
theorem dX6_reckon_39 : decode cX6_reckon 39 = .ok (.ifCond .ne 21, 3) := by decide +kernel
theorem dX6_reckon_42 : decode cX6_reckon 42 = .ok (.aload_n 0, 1) := by decide +kernel
theorem dX6_reckon_43 : decode cX6_reckon 43 = .ok (.iload 4, 2) := by decide +kernel
theorem dX6_reckon_45 : decode cX6_reckon 45 = .ok (.aload_n 0, 1) := by decide +kernel
theorem dX6_reckon_46 : decode cX6_reckon 46 = .ok (.getfield 9, 3) := by decide +kernel
theorem dX6_reckon_49 : decode cX6_reckon 49 = .ok (.iload 5, 2) := by decide +kernel
theorem dX6_reckon_51 : decode cX6_reckon 51 = .ok (.iaload, 1) := by decide +kernel
theorem dX6_reckon_52 : decode cX6_reckon 52 = .ok (.invokevirtual 43, 3) := by decide +kernel
theorem dX6_reckon_55 : decode cX6_reckon 55 = .ok (.istore 4, 2) := by decide +kernel
theorem dX6_reckon_57 : decode cX6_reckon 57 = .ok (.goto 56, 3) := by decide +kernel
theorem dX6_reckon_60 : decode cX6_reckon 60 = .ok (.iload 6, 2) := by decide +kernel
theorem dX6_reckon_62 : decode cX6_reckon 62 = .ok (.bipush 126, 2) := by decide +kernel
theorem dX6_reckon_64 : decode cX6_reckon 64 = .ok (.if_icmp .ne 12, 3) := by decide +kernel
theorem dX6_reckon_67 : decode cX6_reckon 67 = .ok (.aload_n 0, 1) := by decide +kernel
theorem dX6_reckon_68 : decode cX6_reckon 68 = .ok (.iload 4, 2) := by decide +kernel
theorem dX6_reckon_70 : decode cX6_reckon 70 = .ok (.invokevirtual 47, 3) := by decide +kernel
theorem dX6_reckon_73 : decode cX6_reckon 73 = .ok (.goto 40, 3) := by decide +kernel
theorem dX6_reckon_76 : decode cX6_reckon 76 = .ok (.iload 6, 2) := by decide +kernel
theorem dX6_reckon_78 : decode cX6_reckon 78 = .ok (.invokestatic 50, 3) := by decide +kernel
theorem dX6_reckon_81 : decode cX6_reckon 81 = .ok (.ifCond .eq 16, 3) := by decide +kernel
theorem dX6_reckon_84 : decode cX6_reckon 84 = .ok (.aload_n 0, 1) := by decide +kernel
theorem dX6_reckon_85 : decode cX6_reckon 85 = .ok (.iload 4, 2) := by decide +kernel
theorem dX6_reckon_87 : decode cX6_reckon 87 = .ok (.iload 6, 2) := by decide +kernel
theorem dX6_reckon_89 : decode cX6_reckon 89 = .ok (.invokevirtual 56, 3) := by decide +kernel
theorem dX6_reckon_92 : decode cX6_reckon 92 = .ok (.istore 4, 2) := by decide +kernel
theorem dX6_reckon_94 : decode cX6_reckon 94 = .ok (.goto 19, 3) := by decide +kernel
theorem dX6_reckon_97 : decode cX6_reckon 97 = .ok (.aload_n 0, 1) := by decide +kernel
theorem dX6_reckon_98 : decode cX6_reckon 98 = .ok (.iload 4, 2) := by decide +kernel
theorem dX6_reckon_100 : decode cX6_reckon 100 = .ok (.iload 6, 2) := by decide +kernel
theorem dX6_reckon_102 : decode cX6_reckon 102 = .ok (.aload_n 1, 1) := by decide +kernel
theorem dX6_reckon_103 : decode cX6_reckon 103 = .ok (.iload_n 2, 1) := by decide +kernel
theorem dX6_reckon_104 : decode cX6_reckon 104 = .ok (.iload_n 3, 1) := by decide +kernel
theorem dX6_reckon_105 : decode cX6_reckon 105 = .ok (.invokestatic 60, 3) := by decide +kernel
theorem dX6_reckon_108 : decode cX6_reckon 108 = .ok (.invokevirtual 43, 3) := by decide +kernel
theorem dX6_reckon_111 : decode cX6_reckon 111 = .ok (.istore 4, 2) := by decide +kernel
theorem dX6_reckon_113 : decode cX6_reckon 113 = .ok (.iinc 5 1, 3) := by decide +kernel
theorem dX6_reckon_116 : decode cX6_reckon 116 = .ok (.goto (-110), 3) := by decide +kernel
theorem dX6_reckon_119 : decode cX6_reckon 119 = .ok (.aload_n 0, 1) := by decide +kernel
theorem dX6_reckon_120 : decode cX6_reckon 120 = .ok (.getfield 15, 3) := by decide +kernel
theorem dX6_reckon_123 : decode cX6_reckon 123 = .ok (.iconst 0, 1) := by decide +kernel
theorem dX6_reckon_124 : decode cX6_reckon 124 = .ok (.iaload, 1) := by decide +kernel
theorem dX6_reckon_125 : decode cX6_reckon 125 = .ok (.ireturn, 1) := by decide +kernel
def fX6_reckon_L6 : Nat → AH → Nat → Nat → Int32 → Int32 → Int32 → Int32 → Option (Int32 × AH)
  | 0, _, _, _, _, _, _, _ => none
  | n + 1, h, v0, v1, v2, v3, v4, v5 =>
    (gI h 6 v0 2).bind fun x1 =>
    if x1 ≤ v5 then (
      (gR h 6 v0 1).bind fun x2 =>
      (aI h 0 x2 0).bind fun x3 =>
      some ((x3, h))
    ) else (
      (gR h 6 v0 0).bind fun x4 =>
      (aL h 0 x4).bind fun x5 =>
      if x5 ≤ v5 then (
        (gR h 6 v0 1).bind fun x6 =>
        (aI h 0 x6 0).bind fun x7 =>
        some ((x7, h))
      ) else (
        (gR h 6 v0 0).bind fun x8 =>
        (aI h 0 x8 v5).bind fun x9 =>
        (fX6_signOf h x9).bind fun q10 =>
        if q10 = 0 then (
          (gR h 6 v0 0).bind fun x11 =>
          (aI h 0 x11 v5).bind fun x12 =>
          (fX6_push h v0 v4 x12).bind fun q13 =>
          letF (v5 + 1 : Int32) fun x14 =>
          fX6_reckon_L6 n q13.2 v0 v1 v2 v3 q13.1 x14
        ) else (
          if q10 = 126 then (
            (fX6_negateTop h v0 v4).bind fun q15 =>
            letF (v5 + 1 : Int32) fun x16 =>
            fX6_reckon_L6 n q15 v0 v1 v2 v3 v4 x16
          ) else (
            (fX7_isBinary h q10).bind fun q17 =>
            if q17 = true then (
              (fX6_bindTop h v0 v4 q10).bind fun q18 =>
              letF (v5 + 1 : Int32) fun x19 =>
              fX6_reckon_L6 n q18.2 v0 v1 v2 v3 q18.1 x19
            ) else (
              (fX6_measure h q10 v1 v2 v3).bind fun q20 =>
              (fX6_push h v0 v4 q20).bind fun q21 =>
              letF (v5 + 1 : Int32) fun x22 =>
              fX6_reckon_L6 n q21.2 v0 v1 v2 v3 q21.1 x22
            )
          )
        )
      )
    )
def fX6_reckon (h : AH) (a0 : Nat) (a1 : Nat) (a2 : Int32) (a3 : Int32) : Option (Int32 × AH) :=
  if hasC h 6 a0 = true then (
    fX6_reckon_L6 FU h a0 a1 a2 a3 0 0
  ) else none
set_option maxHeartbeats 4000000 in
theorem gX6_reckon_L6 {Y : YT} {X : XT} (C : CT Y X RX6 cX6_reckon 7) (O : RO X 5 0 0) {r : Int32 × AH} (E : RX Y X (some .int) (some (.int r.1)) r.2 0 0) : ∀ (n : Nat) (h : AH) (v0 : Nat) (v1 : Nat) (v2 : Int32) (v3 : Int32) (v4 : Int32) (v5 : Int32), GO Y X 7 r h 0 0 6 [(0, .ref v0), (1, .ref v1), (2, .int v2), (3, .int v3), (4, .int v4), (5, .int v5)] [] (fX6_reckon_L6 n h v0 v1 v2 v3 v4 v5) := by
  intro n
  induction n with
  | zero => intros; exact go_none _ _ _
  | succ n ih =>
    intro h v0 v1 v2 v3 v4 v5
    rw [fX6_reckon_L6]
    refine go_iload (pc := 6) C 5 dX6_reckon_6 rfl ?_
    refine go_aload_n (pc := 8) C 0 dX6_reckon_8 rfl ?_
    refine go_gI (pc := 9) C fdX6_18 dX6_reckon_9 (fun x1 => ?_)
    refine go_icmp_ge (pc := 12) C 119 dX6_reckon_12 (by decide) (fun _ => ?_) (fun _ => ?_)
    · refine go_aload_n (pc := 119) C 0 dX6_reckon_119 rfl ?_
      refine go_gR (pc := 120) C fdX6_15 dX6_reckon_120 (fun x2 => ?_)
      refine go_iconst (pc := 123) C dX6_reckon_123 ki_0 ?_
      refine go_iald (pc := 124) C dX6_reckon_124 (fun x3 => ?_)
      exact go_iret (w := wIh) (pc := 125) C E ((x3, h)) x3 dX6_reckon_125 rfl
    · refine go_iload (pc := 15) C 5 dX6_reckon_15 rfl ?_
      refine go_aload_n (pc := 17) C 0 dX6_reckon_17 rfl ?_
      refine go_gR (pc := 18) C fdX6_9 dX6_reckon_18 (fun x4 => ?_)
      refine go_alen (pc := 21) C 0 (by decide) dX6_reckon_21 (fun x5 => ?_)
      refine go_icmp_ge (pc := 22) C 119 dX6_reckon_22 (by decide) (fun _ => ?_) (fun _ => ?_)
      · refine go_aload_n (pc := 119) C 0 dX6_reckon_119 rfl ?_
        refine go_gR (pc := 120) C fdX6_15 dX6_reckon_120 (fun x6 => ?_)
        refine go_iconst (pc := 123) C dX6_reckon_123 ki_0 ?_
        refine go_iald (pc := 124) C dX6_reckon_124 (fun x7 => ?_)
        exact go_iret (w := wIh) (pc := 125) C E ((x7, h)) x7 dX6_reckon_125 rfl
      · refine go_aload_n (pc := 25) C 0 dX6_reckon_25 rfl ?_
        refine go_gR (pc := 26) C fdX6_9 dX6_reckon_26 (fun x8 => ?_)
        refine go_iload (pc := 29) C 5 dX6_reckon_29 rfl ?_
        refine go_iald (pc := 31) C dX6_reckon_31 (fun x9 => ?_)
        refine go_bind (fun q10 hq10 => ?_)
        refine go_callS (rest := []) (st' := [.int q10]) (c' := 0) (s' := 0) (pc := 32) C O miX6_39 w_679 [.int x9] rfl (mX6_signOf hq10) dX6_reckon_32 ⟨by decide, by decide, by decide, by decide⟩ rfl (Nat.le_of_ble_eq_true rfl) rfl ⟨rfl, rfl⟩ ?_
        refine go_istore (ls' := [(6, .int q10), (0, .ref v0), (1, .ref v1), (2, .int v2), (3, .int v3), (4, .int v4), (5, .int v5)]) (pc := 35) C dX6_reckon_35 (by decide) rfl ?_
        refine go_iload (pc := 37) C 0 dX6_reckon_37 rfl ?_
        refine go_if_ne (pc := 39) C 60 dX6_reckon_39 (by decide) (fun _ => ?_) (fun _ => ?_)
        · refine go_aload_n (pc := 42) C 1 dX6_reckon_42 rfl ?_
          refine go_iload (pc := 43) C 5 dX6_reckon_43 rfl ?_
          refine go_aload_n (pc := 45) C 1 dX6_reckon_45 rfl ?_
          refine go_gR (pc := 46) C fdX6_9 dX6_reckon_46 (fun x11 => ?_)
          refine go_iload (pc := 49) C 6 dX6_reckon_49 rfl ?_
          refine go_iald (pc := 51) C dX6_reckon_51 (fun x12 => ?_)
          refine go_bind (fun q13 hq13 => ?_)
          refine go_callV (rest := []) (st' := [.int q13.1]) (c' := 0) (s' := 0) (pc := 52) C O miX6_43 mvX6_push [.int v4, .int x12] rfl (mX6_push hq13).1 (mX6_push hq13).2 dX6_reckon_52 ⟨by decide, by decide, by decide, by decide⟩ rfl (Nat.le_of_ble_eq_true rfl) rfl ⟨rfl, rfl⟩ ?_
          refine go_istore (ls' := [(4, .int q13.1), (6, .int q10), (0, .ref v0), (1, .ref v1), (2, .int v2), (3, .int v3), (5, .int v5)]) (pc := 55) C dX6_reckon_55 (by decide) rfl ?_
          refine go_goto (pc := 57) C 113 dX6_reckon_57 (by decide) ?_
          refine go_iincL (pc := 113) C 6 dX6_reckon_113 rfl ki_1 (by decide) (fun x14 => [(5, .int x14), (4, .int q13.1), (6, .int q10), (0, .ref v0), (1, .ref v1), (2, .int v2), (3, .int v3)]) (fun _ => rfl) (fun x14 => ?_)
          refine go_goto (pc := 116) C 6 dX6_reckon_116 (by decide) ?_
          refine go_sub (ls' := [(0, .ref v0), (1, .ref v1), (2, .int v2), (3, .int v3), (4, .int q13.1), (5, .int x14)]) [3, 4, 5, 6, 1, 0] rfl ?_
          exact ih q13.2 v0 v1 v2 v3 q13.1 x14
        · refine go_iload (pc := 60) C 0 dX6_reckon_60 rfl ?_
          refine go_bipush (pc := 62) C dX6_reckon_62 kb_126 ?_
          refine go_icmp_ne (pc := 64) C 76 dX6_reckon_64 (by decide) (fun _ => ?_) (fun _ => ?_)
          · refine go_aload_n (pc := 67) C 1 dX6_reckon_67 rfl ?_
            refine go_iload (pc := 68) C 5 dX6_reckon_68 rfl ?_
            refine go_bind (fun q15 hq15 => ?_)
            refine go_callV (rest := []) (st' := []) (c' := 0) (s' := 0) (pc := 70) C O miX6_47 mvX6_negateTop [.int v4] rfl (mX6_negateTop hq15).1 (mX6_negateTop hq15).2 dX6_reckon_70 ⟨by decide, by decide, by decide, by decide⟩ rfl (Nat.le_of_ble_eq_true rfl) rfl ⟨rfl, rfl⟩ ?_
            refine go_goto (pc := 73) C 113 dX6_reckon_73 (by decide) ?_
            refine go_iincL (pc := 113) C 6 dX6_reckon_113 rfl ki_1 (by decide) (fun x16 => [(5, .int x16), (6, .int q10), (0, .ref v0), (1, .ref v1), (2, .int v2), (3, .int v3), (4, .int v4)]) (fun _ => rfl) (fun x16 => ?_)
            refine go_goto (pc := 116) C 6 dX6_reckon_116 (by decide) ?_
            refine go_sub (ls' := [(0, .ref v0), (1, .ref v1), (2, .int v2), (3, .int v3), (4, .int v4), (5, .int x16)]) [2, 3, 4, 5, 6, 0] rfl ?_
            exact ih q15 v0 v1 v2 v3 v4 x16
          · refine go_iload (pc := 76) C 0 dX6_reckon_76 rfl ?_
            refine go_bind (fun q17 hq17 => ?_)
            refine go_callS (rest := []) (st' := [.int (b2i q17)]) (c' := 0) (s' := 0) (pc := 78) C O miX6_50 w_527 [.int q10] rfl (mX7_isBinary hq17) dX6_reckon_78 ⟨by decide, by decide, by decide, by decide⟩ rfl (Nat.le_of_ble_eq_true rfl) rfl ⟨rfl, rfl⟩ ?_
            refine go_ifZ_eq (pc := 81) C 97 dX6_reckon_81 (by decide) (fun _ => ?_) (fun _ => ?_)
            · refine go_aload_n (pc := 84) C 1 dX6_reckon_84 rfl ?_
              refine go_iload (pc := 85) C 5 dX6_reckon_85 rfl ?_
              refine go_iload (pc := 87) C 0 dX6_reckon_87 rfl ?_
              refine go_bind (fun q18 hq18 => ?_)
              refine go_callV (rest := []) (st' := [.int q18.1]) (c' := 0) (s' := 0) (pc := 89) C O miX6_56 mvX6_bindTop [.int v4, .int q10] rfl (mX6_bindTop hq18).1 (mX6_bindTop hq18).2 dX6_reckon_89 ⟨by decide, by decide, by decide, by decide⟩ rfl (Nat.le_of_ble_eq_true rfl) rfl ⟨rfl, rfl⟩ ?_
              refine go_istore (ls' := [(4, .int q18.1), (6, .int q10), (0, .ref v0), (1, .ref v1), (2, .int v2), (3, .int v3), (5, .int v5)]) (pc := 92) C dX6_reckon_92 (by decide) rfl ?_
              refine go_goto (pc := 94) C 113 dX6_reckon_94 (by decide) ?_
              refine go_iincL (pc := 113) C 6 dX6_reckon_113 rfl ki_1 (by decide) (fun x19 => [(5, .int x19), (4, .int q18.1), (6, .int q10), (0, .ref v0), (1, .ref v1), (2, .int v2), (3, .int v3)]) (fun _ => rfl) (fun x19 => ?_)
              refine go_goto (pc := 116) C 6 dX6_reckon_116 (by decide) ?_
              refine go_sub (ls' := [(0, .ref v0), (1, .ref v1), (2, .int v2), (3, .int v3), (4, .int q18.1), (5, .int x19)]) [3, 4, 5, 6, 1, 0] rfl ?_
              exact ih q18.2 v0 v1 v2 v3 q18.1 x19
            · refine go_aload_n (pc := 97) C 1 dX6_reckon_97 rfl ?_
              refine go_iload (pc := 98) C 5 dX6_reckon_98 rfl ?_
              refine go_iload (pc := 100) C 0 dX6_reckon_100 rfl ?_
              refine go_aload_n (pc := 102) C 2 dX6_reckon_102 rfl ?_
              refine go_iload_n (pc := 103) C 3 dX6_reckon_103 rfl ?_
              refine go_iload_n (pc := 104) C 4 dX6_reckon_104 rfl ?_
              refine go_bind (fun q20 hq20 => ?_)
              refine go_callS (rest := [.int v4, .ref v0]) (st' := [.int q20, .int v4, .ref v0]) (c' := 0) (s' := 0) (pc := 105) C O miX6_60 w_698 [.int q10, .ref v1, .int v2, .int v3] rfl (mX6_measure hq20) dX6_reckon_105 ⟨by decide, by decide, by decide, by decide⟩ rfl (Nat.le_of_ble_eq_true rfl) rfl ⟨rfl, rfl⟩ ?_
              refine go_bind (fun q21 hq21 => ?_)
              refine go_callV (rest := []) (st' := [.int q21.1]) (c' := 0) (s' := 0) (pc := 108) C O miX6_43 mvX6_push [.int v4, .int q20] rfl (mX6_push hq21).1 (mX6_push hq21).2 dX6_reckon_108 ⟨by decide, by decide, by decide, by decide⟩ rfl (Nat.le_of_ble_eq_true rfl) rfl ⟨rfl, rfl⟩ ?_
              refine go_istore (ls' := [(4, .int q21.1), (6, .int q10), (0, .ref v0), (1, .ref v1), (2, .int v2), (3, .int v3), (5, .int v5)]) (pc := 111) C dX6_reckon_111 (by decide) rfl ?_
              refine go_iincL (pc := 113) C 6 dX6_reckon_113 rfl ki_1 (by decide) (fun x22 => [(5, .int x22), (4, .int q21.1), (6, .int q10), (0, .ref v0), (1, .ref v1), (2, .int v2), (3, .int v3)]) (fun _ => rfl) (fun x22 => ?_)
              refine go_goto (pc := 116) C 6 dX6_reckon_116 (by decide) ?_
              refine go_sub (ls' := [(0, .ref v0), (1, .ref v1), (2, .int v2), (3, .int v3), (4, .int q21.1), (5, .int x22)]) [3, 4, 5, 6, 1, 0] rfl ?_
              exact ih q21.2 v0 v1 v2 v3 q21.1 x22
set_option maxHeartbeats 4000000 in
theorem mX6_reckon {h : AH} {a0 : Nat} {a1 : Nat} {a2 : Int32} {a3 : Int32} {r : Int32 × AH} (hr : fX6_reckon h a0 a1 a2 a3 = some r) : hasC h 6 a0 = true ∧ MC yX6_reckon cX6_reckon 7 (some .int) 5 0 0 [.ref a0, .ref a1, .int a2, .int a3] h (some (.int r.1)) r.2 := by
  unfold fX6_reckon at hr
  obtain ⟨hc, hr⟩ := if_some hr
  refine ⟨hc, mc_of (l0 := [(0, .ref a0), (1, .ref a1), (2, .int a2), (3, .int a3)]) rfl pn_X6 (Nat.le_of_ble_eq_true rfl) (fun Y X C E O hnm => go_run hr ?_)⟩
  have C : CT Y X RX6 cX6_reckon 7 := C
  refine go_iconst (pc := 0) C dX6_reckon_0 ki_0 ?_
  refine go_istore (ls' := [(4, .int 0), (0, .ref a0), (1, .ref a1), (2, .int a2), (3, .int a3)]) (pc := 1) C dX6_reckon_1 (by decide) rfl ?_
  refine go_iconst (pc := 3) C dX6_reckon_3 ki_0 ?_
  refine go_istore (ls' := [(5, .int 0), (4, .int 0), (0, .ref a0), (1, .ref a1), (2, .int a2), (3, .int a3)]) (pc := 4) C dX6_reckon_4 (by decide) rfl ?_
  refine go_sub (ls' := [(0, .ref a0), (1, .ref a1), (2, .int a2), (3, .int a3), (4, .int 0), (5, .int 0)]) [2, 3, 4, 5, 1, 0] rfl ?_
  refine gX6_reckon_L6 C O E FU h a0 a1 a2 a3 0 0
theorem dX7_init_0 : decode cX7_init 0 = .ok (.aload_n 0, 1) := by decide +kernel
theorem dX7_init_1 : decode cX7_init 1 = .ok (.invokespecial 3, 3) := by decide +kernel
theorem dX7_init_4 : decode cX7_init 4 = .ok (.aload_n 0, 1) := by decide +kernel
theorem dX7_init_5 : decode cX7_init 5 = .ok (.bipush 40, 2) := by decide +kernel
theorem dX7_init_7 : decode cX7_init 7 = .ok (.newarray .char, 2) := by decide +kernel
theorem dX7_init_9 : decode cX7_init 9 = .ok (.putfield 9, 3) := by decide +kernel
theorem dX7_init_12 : decode cX7_init 12 = .ok (.aload_n 0, 1) := by decide +kernel
theorem dX7_init_13 : decode cX7_init 13 = .ok (.iconst 5, 1) := by decide +kernel
theorem dX7_init_14 : decode cX7_init 14 = .ok (.newarray .boolean, 2) := by decide +kernel
theorem dX7_init_16 : decode cX7_init 16 = .ok (.putfield 15, 3) := by decide +kernel
theorem dX7_init_19 : decode cX7_init 19 = .ok (.return_, 1) := by decide +kernel
def fX7_init (h : AH) (a0 : Nat) : Option (AH) :=
  letF (hnew h (.inl (2, newD 2 40))) fun h1 =>
  (pF h1 7 a0 0 (.ref h.2)).bind fun h2 =>
  letF (hnew h2 (.inl (4, newD 4 5))) fun h3 =>
  (pF h3 7 a0 1 (.ref h2.2)).bind fun h4 =>
  some h4
set_option maxHeartbeats 4000000 in
theorem mX7_init {h : AH} {a0 : Nat} {r : AH} (hr : fX7_init h a0 = some r) : MC yX7_init cX7_init 1 none 1 2 45 [.ref a0] h none r := by
  unfold fX7_init at hr
  refine mc_of (l0 := [(0, .ref a0)]) rfl pn_X7 (Nat.le_of_ble_eq_true rfl) (fun Y X C E O hnm => go_run hr ?_)
  have C : CT Y X RX7 cX7_init 1 := C
  refine go_aload_n (pc := 0) C 0 dX7_init_0 rfl ?_
  refine go_objInit (pc := 1) C O w_220 w_120 w_121 dX7_init_1 (by decide) (Nat.le_of_ble_eq_true rfl) ?_
  refine go_aload_n (pc := 4) C 0 dX7_init_4 rfl ?_
  refine go_bipush (pc := 5) C dX7_init_5 kb_40 ?_
  refine go_newa (atype := .char) (t := 2) (c' := 1) (s' := 40) (pc := 7) 40 C O ⟨rfl, by decide⟩ w_171 (by decide) (by decide) (by decide) dX7_init_7 ⟨by decide, by decide⟩ ⟨rfl, rfl⟩ (fun h1 => ?_)
  refine go_pRF (pc := 9) C hnm fpX7_9 dX7_init_9 (fun _ => rfl) (fun _ => rfl) (fun h2 => ?_)
  refine go_aload_n (pc := 12) C 0 dX7_init_12 rfl ?_
  refine go_iconst (pc := 13) C dX7_init_13 ki_5 ?_
  refine go_newa (atype := .boolean) (t := 4) (c' := 2) (s' := 45) (pc := 14) 5 C O ⟨rfl, by decide⟩ w_198 (by decide) (by decide) (by decide) dX7_init_14 ⟨by decide, by decide⟩ ⟨rfl, rfl⟩ (fun h3 => ?_)
  refine go_pRF (pc := 16) C hnm fpX7_15 dX7_init_16 (fun _ => rfl) (fun _ => rfl) (fun h4 => ?_)
  exact go_vret (w := wV) (pc := 19) C E h4 dX7_init_19 rfl
theorem dX7_start_0 : decode cX7_start 0 = .ok (.aload_n 1, 1) := by decide +kernel
theorem dX7_start_1 : decode cX7_start 1 = .ok (.invokevirtual 54, 3) := by decide +kernel
theorem dX7_start_4 : decode cX7_start 4 = .ok (.aload_n 0, 1) := by decide +kernel
theorem dX7_start_5 : decode cX7_start 5 = .ok (.iconst 0, 1) := by decide +kernel
theorem dX7_start_6 : decode cX7_start 6 = .ok (.putfield 57, 3) := by decide +kernel
theorem dX7_start_9 : decode cX7_start 9 = .ok (.aload_n 0, 1) := by decide +kernel
theorem dX7_start_10 : decode cX7_start 10 = .ok (.iconst 0, 1) := by decide +kernel
theorem dX7_start_11 : decode cX7_start 11 = .ok (.putfield 42, 3) := by decide +kernel
theorem dX7_start_14 : decode cX7_start 14 = .ok (.aload_n 0, 1) := by decide +kernel
theorem dX7_start_15 : decode cX7_start 15 = .ok (.iconst 0, 1) := by decide +kernel
theorem dX7_start_16 : decode cX7_start 16 = .ok (.putfield 60, 3) := by decide +kernel
theorem dX7_start_19 : decode cX7_start 19 = .ok (.aload_n 0, 1) := by decide +kernel
theorem dX7_start_20 : decode cX7_start 20 = .ok (.iconst 1, 1) := by decide +kernel
theorem dX7_start_21 : decode cX7_start 21 = .ok (.putfield 38, 3) := by decide +kernel
theorem dX7_start_24 : decode cX7_start 24 = .ok (.aload_n 0, 1) := by decide +kernel
theorem dX7_start_25 : decode cX7_start 25 = .ok (.getfield 15, 3) := by decide +kernel
theorem dX7_start_28 : decode cX7_start 28 = .ok (.iconst 0, 1) := by decide +kernel
theorem dX7_start_29 : decode cX7_start 29 = .ok (.iconst 0, 1) := by decide +kernel
theorem dX7_start_30 : decode cX7_start 30 = .ok (.bastore, 1) := by decide +kernel
theorem dX7_start_31 : decode cX7_start 31 = .ok (.return_, 1) := by decide +kernel
def fX7_start (h : AH) (a0 : Nat) (a1 : Nat) : Option (AH) :=
  if hasC h 7 a0 = true then (
    (fX6_clear h a1).bind fun q1 =>
    (pF q1 7 a0 2 (.int 0)).bind fun h2 =>
    (pF h2 7 a0 3 (.int 0)).bind fun h3 =>
    (pF h3 7 a0 4 (.int 0)).bind fun h4 =>
    (pF h4 7 a0 5 (.int (b2i true))).bind fun h5 =>
    (gR h5 7 a0 1).bind fun x6 =>
    (sI h5 4 x6 0 0).bind fun h7 =>
    some h7
  ) else none
set_option maxHeartbeats 4000000 in
theorem mX7_start {h : AH} {a0 : Nat} {a1 : Nat} {r : AH} (hr : fX7_start h a0 a1 = some r) : hasC h 7 a0 = true ∧ MC yX7_start cX7_start 2 none 2 0 0 [.ref a0, .ref a1] h none r := by
  unfold fX7_start at hr
  obtain ⟨hc, hr⟩ := if_some hr
  refine ⟨hc, mc_of (l0 := [(0, .ref a0), (1, .ref a1)]) rfl pn_X7 (Nat.le_of_ble_eq_true rfl) (fun Y X C E O hnm => go_run hr ?_)⟩
  have C : CT Y X RX7 cX7_start 2 := C
  refine go_aload_n (pc := 0) C 1 dX7_start_0 rfl ?_
  refine go_bind (fun q1 hq1 => ?_)
  refine go_callV (rest := []) (st' := []) (c' := 0) (s' := 0) (pc := 1) C O miX7_54 mvX6_clear [] rfl (mX6_clear hq1).1 (mX6_clear hq1).2 dX7_start_1 ⟨by decide, by decide, by decide, by decide⟩ rfl (Nat.le_of_ble_eq_true rfl) rfl ⟨rfl, rfl⟩ ?_
  refine go_aload_n (pc := 4) C 0 dX7_start_4 rfl ?_
  refine go_iconst (pc := 5) C dX7_start_5 ki_0 ?_
  refine go_pI (pc := 6) C fpX7_57 dX7_start_6 (fun h2 => ?_)
  refine go_aload_n (pc := 9) C 0 dX7_start_9 rfl ?_
  refine go_iconst (pc := 10) C dX7_start_10 ki_0 ?_
  refine go_pI (pc := 11) C fpX7_42 dX7_start_11 (fun h3 => ?_)
  refine go_aload_n (pc := 14) C 0 dX7_start_14 rfl ?_
  refine go_iconst (pc := 15) C dX7_start_15 ki_0 ?_
  refine go_pI (pc := 16) C fpX7_60 dX7_start_16 (fun h4 => ?_)
  refine go_aload_n (pc := 19) C 0 dX7_start_19 rfl ?_
  refine go_iconst (pc := 20) C dX7_start_20 ki_1 ?_
  refine go_pZ (pc := 21) C true rfl fpX7_38 dX7_start_21 (fun h5 => ?_)
  refine go_aload_n (pc := 24) C 0 dX7_start_24 rfl ?_
  refine go_gR (pc := 25) C fdX7_15 dX7_start_25 (fun x6 => ?_)
  refine go_iconst (pc := 28) C dX7_start_28 ki_0 ?_
  refine go_iconst (pc := 29) C dX7_start_29 ki_0 ?_
  refine go_zast (pc := 30) C dX7_start_30 (fun h7 => ?_)
  exact go_vret (w := wV) (pc := 31) C E h7 dX7_start_31 rfl
theorem dX10_isDigit_0 : decode cX10_isDigit 0 = .ok (.iload_n 0, 1) := by decide +kernel
theorem dX10_isDigit_1 : decode cX10_isDigit 1 = .ok (.bipush 48, 2) := by decide +kernel
theorem dX10_isDigit_3 : decode cX10_isDigit 3 = .ok (.if_icmp .lt 13, 3) := by decide +kernel
theorem dX10_isDigit_6 : decode cX10_isDigit 6 = .ok (.iload_n 0, 1) := by decide +kernel
theorem dX10_isDigit_7 : decode cX10_isDigit 7 = .ok (.bipush 57, 2) := by decide +kernel
theorem dX10_isDigit_9 : decode cX10_isDigit 9 = .ok (.if_icmp .gt 7, 3) := by decide +kernel
theorem dX10_isDigit_12 : decode cX10_isDigit 12 = .ok (.iconst 1, 1) := by decide +kernel
theorem dX10_isDigit_13 : decode cX10_isDigit 13 = .ok (.goto 4, 3) := by decide +kernel
theorem dX10_isDigit_16 : decode cX10_isDigit 16 = .ok (.iconst 0, 1) := by decide +kernel
theorem dX10_isDigit_17 : decode cX10_isDigit 17 = .ok (.ireturn, 1) := by decide +kernel
def fX10_isDigit (h : AH) (a0 : Int32) : Option (Bool) :=
  if a0 < 48 then (
    some false
  ) else (
    if 57 < a0 then (
      some false
    ) else (
      some true
    )
  )
set_option maxHeartbeats 4000000 in
theorem mX10_isDigit {h : AH} {a0 : Int32} {r : Bool} (hr : fX10_isDigit h a0 = some r) : MC yX10_isDigit cX10_isDigit 1 (some .boolean) 1 0 0 [.int a0] h (some (.int (b2i r))) h := by
  unfold fX10_isDigit at hr
  refine mc_of (l0 := [(0, .int a0)]) rfl pn_X10 (Nat.le_of_ble_eq_true rfl) (fun Y X C E O hnm => go_run hr ?_)
  have C : CT Y X RX10 cX10_isDigit 1 := C
  refine go_iload_n (pc := 0) C 0 dX10_isDigit_0 rfl ?_
  refine go_bipush (pc := 1) C dX10_isDigit_1 kb_48 ?_
  refine go_icmp_lt (pc := 3) C 16 dX10_isDigit_3 (by decide) (fun _ => ?_) (fun _ => ?_)
  · refine go_iconst (pc := 16) C dX10_isDigit_16 ki_0 ?_
    exact go_bret (w := (wZ h)) (pc := 17) C E false 0 false rfl dX10_isDigit_17 rfl
  · refine go_iload_n (pc := 6) C 0 dX10_isDigit_6 rfl ?_
    refine go_bipush (pc := 7) C dX10_isDigit_7 kb_57 ?_
    refine go_icmp_gt (pc := 9) C 16 dX10_isDigit_9 (by decide) (fun _ => ?_) (fun _ => ?_)
    · refine go_iconst (pc := 16) C dX10_isDigit_16 ki_0 ?_
      exact go_bret (w := (wZ h)) (pc := 17) C E false 0 false rfl dX10_isDigit_17 rfl
    · refine go_iconst (pc := 12) C dX10_isDigit_12 ki_1 ?_
      refine go_goto (pc := 13) C 17 dX10_isDigit_13 (by decide) ?_
      exact go_bret (w := (wZ h)) (pc := 17) C E true 1 true rfl dX10_isDigit_17 rfl
theorem dX7_takesDigit_0 : decode cX7_takesDigit 0 = .ok (.aload_n 0, 1) := by decide +kernel
theorem dX7_takesDigit_1 : decode cX7_takesDigit 1 = .ok (.getfield 38, 3) := by decide +kernel
theorem dX7_takesDigit_4 : decode cX7_takesDigit 4 = .ok (.ifCond .eq 20, 3) := by decide +kernel
theorem dX7_takesDigit_7 : decode cX7_takesDigit 7 = .ok (.aload_n 2, 1) := by decide +kernel
theorem dX7_takesDigit_8 : decode cX7_takesDigit 8 = .ok (.iload_n 1, 1) := by decide +kernel
theorem dX7_takesDigit_9 : decode cX7_takesDigit 9 = .ok (.invokevirtual 77, 3) := by decide +kernel
theorem dX7_takesDigit_12 : decode cX7_takesDigit 12 = .ok (.aload_n 0, 1) := by decide +kernel
theorem dX7_takesDigit_13 : decode cX7_takesDigit 13 = .ok (.iconst 1, 1) := by decide +kernel
theorem dX7_takesDigit_14 : decode cX7_takesDigit 14 = .ok (.putfield 60, 3) := by decide +kernel
theorem dX7_takesDigit_17 : decode cX7_takesDigit 17 = .ok (.aload_n 0, 1) := by decide +kernel
theorem dX7_takesDigit_18 : decode cX7_takesDigit 18 = .ok (.iconst 0, 1) := by decide +kernel
theorem dX7_takesDigit_19 : decode cX7_takesDigit 19 = .ok (.putfield 38, 3) := by decide +kernel
theorem dX7_takesDigit_22 : decode cX7_takesDigit 22 = .ok (.iconst 1, 1) := by decide +kernel
theorem dX7_takesDigit_23 : decode cX7_takesDigit 23 = .ok (.ireturn, 1) := by decide +kernel
theorem dX7_takesDigit_24 : decode cX7_takesDigit 24 = .ok (.aload_n 0, 1) := by decide +kernel
theorem dX7_takesDigit_25 : decode cX7_takesDigit 25 = .ok (.getfield 60, 3) := by decide +kernel
theorem dX7_takesDigit_28 : decode cX7_takesDigit 28 = .ok (.ifCond .eq 11, 3) := by decide +kernel
theorem dX7_takesDigit_31 : decode cX7_takesDigit 31 = .ok (.aload_n 0, 1) := by decide +kernel
theorem dX7_takesDigit_32 : decode cX7_takesDigit 32 = .ok (.getfield 60, 3) := by decide +kernel
theorem dX7_takesDigit_35 : decode cX7_takesDigit 35 = .ok (.iconst 3, 1) := by decide +kernel
theorem dX7_takesDigit_36 : decode cX7_takesDigit 36 = .ok (.if_icmp .ne 5, 3) := by decide +kernel
theorem dX7_takesDigit_39 : decode cX7_takesDigit 39 = .ok (.iconst 0, 1) := by decide +kernel
theorem dX7_takesDigit_40 : decode cX7_takesDigit 40 = .ok (.ireturn, 1) := by decide +kernel
theorem dX7_takesDigit_41 : decode cX7_takesDigit 41 = .ok (.aload_n 2, 1) := by decide +kernel
theorem dX7_takesDigit_42 : decode cX7_takesDigit 42 = .ok (.iload_n 1, 1) := by decide +kernel
theorem dX7_takesDigit_43 : decode cX7_takesDigit 43 = .ok (.invokevirtual 81, 3) := by decide +kernel
theorem dX7_takesDigit_46 : decode cX7_takesDigit 46 = .ok (.aload_n 0, 1) := by decide +kernel
theorem dX7_takesDigit_47 : decode cX7_takesDigit 47 = .ok (.dup, 1) := by decide +kernel
theorem dX7_takesDigit_48 : decode cX7_takesDigit 48 = .ok (.getfield 60, 3) := by decide +kernel
theorem dX7_takesDigit_51 : decode cX7_takesDigit 51 = .ok (.iconst 1, 1) := by decide +kernel
theorem dX7_takesDigit_52 : decode cX7_takesDigit 52 = .ok (.iadd, 1) := by decide +kernel
theorem dX7_takesDigit_53 : decode cX7_takesDigit 53 = .ok (.putfield 60, 3) := by decide +kernel
theorem dX7_takesDigit_56 : decode cX7_takesDigit 56 = .ok (.iconst 1, 1) := by decide +kernel
theorem dX7_takesDigit_57 : decode cX7_takesDigit 57 = .ok (.ireturn, 1) := by decide +kernel
def fX7_takesDigit (h : AH) (a0 : Nat) (a1 : Int32) (a2 : Nat) : Option (Bool × AH) :=
  if hasC h 7 a0 = true then (
    (gZ h 7 a0 5).bind fun x1 =>
    if x1 = true then (
      (fX6_addNumber h a2 a1).bind fun q2 =>
      (pF q2 7 a0 4 (.int 1)).bind fun h3 =>
      (pF h3 7 a0 5 (.int (b2i false))).bind fun h4 =>
      some ((true, h4))
    ) else (
      (gI h 7 a0 4).bind fun x5 =>
      if x5 = 0 then (
        some ((false, h))
      ) else (
        (gI h 7 a0 4).bind fun x6 =>
        if x6 = 3 then (
          some ((false, h))
        ) else (
          (fX6_appendDigit h a2 a1).bind fun q7 =>
          (gI q7 7 a0 4).bind fun x8 =>
          (pF q7 7 a0 4 (.int (x8 + 1))).bind fun h9 =>
          some ((true, h9))
        )
      )
    )
  ) else none
set_option maxHeartbeats 4000000 in
theorem mX7_takesDigit {h : AH} {a0 : Nat} {a1 : Int32} {a2 : Nat} {r : Bool × AH} (hr : fX7_takesDigit h a0 a1 a2 = some r) : hasC h 7 a0 = true ∧ MC yX7_takesDigit cX7_takesDigit 3 (some .boolean) 2 0 0 [.ref a0, .int a1, .ref a2] h (some (.int (b2i r.1))) r.2 := by
  unfold fX7_takesDigit at hr
  obtain ⟨hc, hr⟩ := if_some hr
  refine ⟨hc, mc_of (l0 := [(0, .ref a0), (1, .int a1), (2, .ref a2)]) rfl pn_X7 (Nat.le_of_ble_eq_true rfl) (fun Y X C E O hnm => go_run hr ?_)⟩
  have C : CT Y X RX7 cX7_takesDigit 3 := C
  refine go_aload_n (pc := 0) C 0 dX7_takesDigit_0 rfl ?_
  refine go_gZ (pc := 1) C fdX7_38 dX7_takesDigit_1 (fun x1 => ?_)
  refine go_ifZ_eq (pc := 4) C 24 dX7_takesDigit_4 (by decide) (fun _ => ?_) (fun _ => ?_)
  · refine go_aload_n (pc := 7) C 2 dX7_takesDigit_7 rfl ?_
    refine go_iload_n (pc := 8) C 1 dX7_takesDigit_8 rfl ?_
    refine go_bind (fun q2 hq2 => ?_)
    refine go_callV (rest := []) (st' := []) (c' := 0) (s' := 0) (pc := 9) C O miX7_77 mvX6_addNumber [.int a1] rfl (mX6_addNumber hq2).1 (mX6_addNumber hq2).2 dX7_takesDigit_9 ⟨by decide, by decide, by decide, by decide⟩ rfl (Nat.le_of_ble_eq_true rfl) rfl ⟨rfl, rfl⟩ ?_
    refine go_aload_n (pc := 12) C 0 dX7_takesDigit_12 rfl ?_
    refine go_iconst (pc := 13) C dX7_takesDigit_13 ki_1 ?_
    refine go_pI (pc := 14) C fpX7_60 dX7_takesDigit_14 (fun h3 => ?_)
    refine go_aload_n (pc := 17) C 0 dX7_takesDigit_17 rfl ?_
    refine go_iconst (pc := 18) C dX7_takesDigit_18 ki_0 ?_
    refine go_pZ (pc := 19) C false rfl fpX7_38 dX7_takesDigit_19 (fun h4 => ?_)
    refine go_iconst (pc := 22) C dX7_takesDigit_22 ki_1 ?_
    exact go_bret (w := wZh) (pc := 23) C E ((true, h4)) 1 true rfl dX7_takesDigit_23 rfl
  · refine go_aload_n (pc := 24) C 0 dX7_takesDigit_24 rfl ?_
    refine go_gI (pc := 25) C fdX7_60 dX7_takesDigit_25 (fun x5 => ?_)
    refine go_if_eq (pc := 28) C 39 dX7_takesDigit_28 (by decide) (fun _ => ?_) (fun _ => ?_)
    · refine go_iconst (pc := 39) C dX7_takesDigit_39 ki_0 ?_
      exact go_bret (w := wZh) (pc := 40) C E ((false, h)) 0 false rfl dX7_takesDigit_40 rfl
    · refine go_aload_n (pc := 31) C 0 dX7_takesDigit_31 rfl ?_
      refine go_gI (pc := 32) C fdX7_60 dX7_takesDigit_32 (fun x6 => ?_)
      refine go_iconst (pc := 35) C dX7_takesDigit_35 ki_3 ?_
      refine go_icmp_ne (pc := 36) C 41 dX7_takesDigit_36 (by decide) (fun _ => ?_) (fun _ => ?_)
      · refine go_iconst (pc := 39) C dX7_takesDigit_39 ki_0 ?_
        exact go_bret (w := wZh) (pc := 40) C E ((false, h)) 0 false rfl dX7_takesDigit_40 rfl
      · refine go_aload_n (pc := 41) C 2 dX7_takesDigit_41 rfl ?_
        refine go_iload_n (pc := 42) C 1 dX7_takesDigit_42 rfl ?_
        refine go_bind (fun q7 hq7 => ?_)
        refine go_callV (rest := []) (st' := []) (c' := 0) (s' := 0) (pc := 43) C O miX7_81 mvX6_appendDigit [.int a1] rfl (mX6_appendDigit hq7).1 (mX6_appendDigit hq7).2 dX7_takesDigit_43 ⟨by decide, by decide, by decide, by decide⟩ rfl (Nat.le_of_ble_eq_true rfl) rfl ⟨rfl, rfl⟩ ?_
        refine go_aload_n (pc := 46) C 0 dX7_takesDigit_46 rfl ?_
        refine go_dup (pc := 47) C dX7_takesDigit_47 rfl ?_
        refine go_gI (pc := 48) C fdX7_60 dX7_takesDigit_48 (fun x8 => ?_)
        refine go_iconst (pc := 51) C dX7_takesDigit_51 ki_1 ?_
        refine go_iadd (pc := 52) C dX7_takesDigit_52 ?_
        refine go_pI (pc := 53) C fpX7_60 dX7_takesDigit_53 (fun h9 => ?_)
        refine go_iconst (pc := 56) C dX7_takesDigit_56 ki_1 ?_
        exact go_bret (w := wZh) (pc := 57) C E ((true, h9)) 1 true rfl dX7_takesDigit_57 rfl
theorem dX7_hoard_0 : decode cX7_hoard 0 = .ok (.aload_n 0, 1) := by decide +kernel
theorem dX7_hoard_1 : decode cX7_hoard 1 = .ok (.getfield 57, 3) := by decide +kernel
theorem dX7_hoard_4 : decode cX7_hoard 4 = .ok (.ifCond .lt 35, 3) := by decide +kernel
theorem dX7_hoard_7 : decode cX7_hoard 7 = .ok (.aload_n 0, 1) := by decide +kernel
theorem dX7_hoard_8 : decode cX7_hoard 8 = .ok (.getfield 57, 3) := by decide +kernel
theorem dX7_hoard_11 : decode cX7_hoard 11 = .ok (.aload_n 0, 1) := by decide +kernel
theorem dX7_hoard_12 : decode cX7_hoard 12 = .ok (.getfield 9, 3) := by decide +kernel
theorem dX7_hoard_15 : decode cX7_hoard 15 = .ok (.arraylength, 1) := by decide +kernel
theorem dX7_hoard_16 : decode cX7_hoard 16 = .ok (.if_icmp .ge 23, 3) := by decide +kernel
theorem dX7_hoard_19 : decode cX7_hoard 19 = .ok (.aload_n 0, 1) := by decide +kernel
theorem dX7_hoard_20 : decode cX7_hoard 20 = .ok (.getfield 9, 3) := by decide +kernel
theorem dX7_hoard_23 : decode cX7_hoard 23 = .ok (.aload_n 0, 1) := by decide +kernel
theorem dX7_hoard_24 : decode cX7_hoard 24 = .ok (.getfield 57, 3) := by decide +kernel
theorem dX7_hoard_27 : decode cX7_hoard 27 = .ok (.iload_n 1, 1) := by decide +kernel
theorem dX7_hoard_28 : decode cX7_hoard 28 = .ok (.castore, 1) := by decide +kernel
theorem dX7_hoard_29 : decode cX7_hoard 29 = .ok (.aload_n 0, 1) := by decide +kernel
theorem dX7_hoard_30 : decode cX7_hoard 30 = .ok (.dup, 1) := by decide +kernel
theorem dX7_hoard_31 : decode cX7_hoard 31 = .ok (.getfield 57, 3) := by decide +kernel
theorem dX7_hoard_34 : decode cX7_hoard 34 = .ok (.iconst 1, 1) := by decide +kernel
theorem dX7_hoard_35 : decode cX7_hoard 35 = .ok (.iadd, 1) := by decide +kernel
theorem dX7_hoard_36 : decode cX7_hoard 36 = .ok (.putfield 57, 3) := by decide +kernel
theorem dX7_hoard_39 : decode cX7_hoard 39 = .ok (.return_, 1) := by decide +kernel
def fX7_hoard (h : AH) (a0 : Nat) (a1 : Int32) : Option (AH) :=
  if hasC h 7 a0 = true then (
    (gI h 7 a0 2).bind fun x1 =>
    if x1 < 0 then (
      some h
    ) else (
      (gI h 7 a0 2).bind fun x2 =>
      (gR h 7 a0 0).bind fun x3 =>
      (aL h 2 x3).bind fun x4 =>
      if x4 ≤ x2 then (
        some h
      ) else (
        (gR h 7 a0 0).bind fun x5 =>
        (gI h 7 a0 2).bind fun x6 =>
        (sI h 2 x5 x6 a1).bind fun h7 =>
        (gI h7 7 a0 2).bind fun x8 =>
        (pF h7 7 a0 2 (.int (x8 + 1))).bind fun h9 =>
        some h9
      )
    )
  ) else none
set_option maxHeartbeats 4000000 in
theorem mX7_hoard {h : AH} {a0 : Nat} {a1 : Int32} {r : AH} (hr : fX7_hoard h a0 a1 = some r) : hasC h 7 a0 = true ∧ MC yX7_hoard cX7_hoard 2 none 1 0 0 [.ref a0, .int a1] h none r := by
  unfold fX7_hoard at hr
  obtain ⟨hc, hr⟩ := if_some hr
  refine ⟨hc, mc_of (l0 := [(0, .ref a0), (1, .int a1)]) rfl pn_X7 (Nat.le_of_ble_eq_true rfl) (fun Y X C E O hnm => go_run hr ?_)⟩
  have C : CT Y X RX7 cX7_hoard 2 := C
  refine go_aload_n (pc := 0) C 0 dX7_hoard_0 rfl ?_
  refine go_gI (pc := 1) C fdX7_57 dX7_hoard_1 (fun x1 => ?_)
  refine go_if_lt (pc := 4) C 39 dX7_hoard_4 (by decide) (fun _ => ?_) (fun _ => ?_)
  · exact go_vret (w := wV) (pc := 39) C E h dX7_hoard_39 rfl
  · refine go_aload_n (pc := 7) C 0 dX7_hoard_7 rfl ?_
    refine go_gI (pc := 8) C fdX7_57 dX7_hoard_8 (fun x2 => ?_)
    refine go_aload_n (pc := 11) C 0 dX7_hoard_11 rfl ?_
    refine go_gR (pc := 12) C fdX7_9 dX7_hoard_12 (fun x3 => ?_)
    refine go_alen (pc := 15) C 2 (by decide) dX7_hoard_15 (fun x4 => ?_)
    refine go_icmp_ge (pc := 16) C 39 dX7_hoard_16 (by decide) (fun _ => ?_) (fun _ => ?_)
    · exact go_vret (w := wV) (pc := 39) C E h dX7_hoard_39 rfl
    · refine go_aload_n (pc := 19) C 0 dX7_hoard_19 rfl ?_
      refine go_gR (pc := 20) C fdX7_9 dX7_hoard_20 (fun x5 => ?_)
      refine go_aload_n (pc := 23) C 0 dX7_hoard_23 rfl ?_
      refine go_gI (pc := 24) C fdX7_57 dX7_hoard_24 (fun x6 => ?_)
      refine go_iload_n (pc := 27) C 1 dX7_hoard_27 rfl ?_
      refine go_cast (pc := 28) C dX7_hoard_28 (fun h7 => ?_)
      refine go_aload_n (pc := 29) C 0 dX7_hoard_29 rfl ?_
      refine go_dup (pc := 30) C dX7_hoard_30 rfl ?_
      refine go_gI (pc := 31) C fdX7_57 dX7_hoard_31 (fun x8 => ?_)
      refine go_iconst (pc := 34) C dX7_hoard_34 ki_1 ?_
      refine go_iadd (pc := 35) C dX7_hoard_35 ?_
      refine go_pI (pc := 36) C fpX7_57 dX7_hoard_36 (fun h9 => ?_)
      exact go_vret (w := wV) (pc := 39) C E h9 dX7_hoard_39 rfl
theorem dX7_setCompared_0 : decode cX7_setCompared 0 = .ok (.aload_n 0, 1) := by decide +kernel
theorem dX7_setCompared_1 : decode cX7_setCompared 1 = .ok (.getfield 42, 3) := by decide +kernel
theorem dX7_setCompared_4 : decode cX7_setCompared 4 = .ok (.ifCond .lt 25, 3) := by decide +kernel
theorem dX7_setCompared_7 : decode cX7_setCompared 7 = .ok (.aload_n 0, 1) := by decide +kernel
theorem dX7_setCompared_8 : decode cX7_setCompared 8 = .ok (.getfield 42, 3) := by decide +kernel
theorem dX7_setCompared_11 : decode cX7_setCompared 11 = .ok (.aload_n 0, 1) := by decide +kernel
theorem dX7_setCompared_12 : decode cX7_setCompared 12 = .ok (.getfield 15, 3) := by decide +kernel
theorem dX7_setCompared_15 : decode cX7_setCompared 15 = .ok (.arraylength, 1) := by decide +kernel
theorem dX7_setCompared_16 : decode cX7_setCompared 16 = .ok (.if_icmp .ge 13, 3) := by decide +kernel
theorem dX7_setCompared_19 : decode cX7_setCompared 19 = .ok (.aload_n 0, 1) := by decide +kernel
theorem dX7_setCompared_20 : decode cX7_setCompared 20 = .ok (.getfield 15, 3) := by decide +kernel
theorem dX7_setCompared_23 : decode cX7_setCompared 23 = .ok (.aload_n 0, 1) := by decide +kernel
theorem dX7_setCompared_24 : decode cX7_setCompared 24 = .ok (.getfield 42, 3) := by decide +kernel
theorem dX7_setCompared_27 : decode cX7_setCompared 27 = .ok (.iload_n 1, 1) := by decide +kernel
theorem dX7_setCompared_28 : decode cX7_setCompared 28 = .ok (.bastore, 1) := by decide +kernel
theorem dX7_setCompared_29 : decode cX7_setCompared 29 = .ok (.return_, 1) := by decide +kernel
def fX7_setCompared (h : AH) (a0 : Nat) (a1 : Bool) : Option (AH) :=
  if hasC h 7 a0 = true then (
    (gI h 7 a0 3).bind fun x1 =>
    if x1 < 0 then (
      some h
    ) else (
      (gI h 7 a0 3).bind fun x2 =>
      (gR h 7 a0 1).bind fun x3 =>
      (aL h 4 x3).bind fun x4 =>
      if x4 ≤ x2 then (
        some h
      ) else (
        (gR h 7 a0 1).bind fun x5 =>
        (gI h 7 a0 3).bind fun x6 =>
        (sI h 4 x5 x6 (b2i a1)).bind fun h7 =>
        some h7
      )
    )
  ) else none
set_option maxHeartbeats 4000000 in
theorem mX7_setCompared {h : AH} {a0 : Nat} {a1 : Bool} {r : AH} (hr : fX7_setCompared h a0 a1 = some r) : hasC h 7 a0 = true ∧ MC yX7_setCompared cX7_setCompared 2 none 1 0 0 [.ref a0, .int (b2i a1)] h none r := by
  unfold fX7_setCompared at hr
  obtain ⟨hc, hr⟩ := if_some hr
  refine ⟨hc, mc_of (l0 := [(0, .ref a0), (1, .int (b2i a1))]) rfl pn_X7 (Nat.le_of_ble_eq_true rfl) (fun Y X C E O hnm => go_run hr ?_)⟩
  have C : CT Y X RX7 cX7_setCompared 2 := C
  refine go_aload_n (pc := 0) C 0 dX7_setCompared_0 rfl ?_
  refine go_gI (pc := 1) C fdX7_42 dX7_setCompared_1 (fun x1 => ?_)
  refine go_if_lt (pc := 4) C 29 dX7_setCompared_4 (by decide) (fun _ => ?_) (fun _ => ?_)
  · exact go_vret (w := wV) (pc := 29) C E h dX7_setCompared_29 rfl
  · refine go_aload_n (pc := 7) C 0 dX7_setCompared_7 rfl ?_
    refine go_gI (pc := 8) C fdX7_42 dX7_setCompared_8 (fun x2 => ?_)
    refine go_aload_n (pc := 11) C 0 dX7_setCompared_11 rfl ?_
    refine go_gR (pc := 12) C fdX7_15 dX7_setCompared_12 (fun x3 => ?_)
    refine go_alen (pc := 15) C 4 (by decide) dX7_setCompared_15 (fun x4 => ?_)
    refine go_icmp_ge (pc := 16) C 29 dX7_setCompared_16 (by decide) (fun _ => ?_) (fun _ => ?_)
    · exact go_vret (w := wV) (pc := 29) C E h dX7_setCompared_29 rfl
    · refine go_aload_n (pc := 19) C 0 dX7_setCompared_19 rfl ?_
      refine go_gR (pc := 20) C fdX7_15 dX7_setCompared_20 (fun x5 => ?_)
      refine go_aload_n (pc := 23) C 0 dX7_setCompared_23 rfl ?_
      refine go_gI (pc := 24) C fdX7_42 dX7_setCompared_24 (fun x6 => ?_)
      refine go_iload_n (pc := 27) C 1 dX7_setCompared_27 rfl ?_
      refine go_zast (pc := 28) C dX7_setCompared_28 (fun h7 => ?_)
      exact go_vret (w := wV) (pc := 29) C E h7 dX7_setCompared_29 rfl
theorem dX7_isMeasure_0 : decode cX7_isMeasure 0 = .ok (.iload_n 0, 1) := by decide +kernel
theorem dX7_isMeasure_1 : decode cX7_isMeasure 1 = .ok (.tableswitch 89 102 119 #[87, 89, 89, 89, 89, 89, 89, 89, 87, 87, 87, 89, 89, 87, 87, 89, 89, 87], 87) := by decide +kernel
theorem dX7_isMeasure_88 : decode cX7_isMeasure 88 = .ok (.iconst 1, 1) := by decide +kernel
theorem dX7_isMeasure_89 : decode cX7_isMeasure 89 = .ok (.ireturn, 1) := by decide +kernel
theorem dX7_isMeasure_90 : decode cX7_isMeasure 90 = .ok (.iconst 0, 1) := by decide +kernel
theorem dX7_isMeasure_91 : decode cX7_isMeasure 91 = .ok (.ireturn, 1) := by decide +kernel
def fX7_isMeasure (h : AH) (a0 : Int32) : Option (Bool) :=
  if a0 = 102 then (
    some true
  ) else (
    if a0 = 110 then (
      some true
    ) else (
      if a0 = 111 then (
        some true
      ) else (
        if a0 = 112 then (
          some true
        ) else (
          if a0 = 115 then (
            some true
          ) else (
            if a0 = 116 then (
              some true
            ) else (
              if a0 = 119 then (
                some true
              ) else (
                some false)))))))
set_option maxHeartbeats 4000000 in
theorem mX7_isMeasure {h : AH} {a0 : Int32} {r : Bool} (hr : fX7_isMeasure h a0 = some r) : MC yX7_isMeasure cX7_isMeasure 1 (some .boolean) 1 0 0 [.int a0] h (some (.int (b2i r))) h := by
  unfold fX7_isMeasure at hr
  refine mc_of (l0 := [(0, .int a0)]) rfl pn_X7 (Nat.le_of_ble_eq_true rfl) (fun Y X C E O hnm => go_run hr ?_)
  have C : CT Y X RX7 cX7_isMeasure 1 := C
  refine go_iload_n (pc := 0) C 0 dX7_isMeasure_0 rfl ?_
  refine go_ite (fun hc1 => ?_) (fun hc1 => ?_)
  · refine go_tsw (pc := 1) C 88 102 hc1 dX7_isMeasure_1 (by decide) (by decide) rfl (by decide) ?_
    refine go_iconst (pc := 88) C dX7_isMeasure_88 ki_1 ?_
    exact go_bret (w := (wZ h)) (pc := 89) C E true 1 true rfl dX7_isMeasure_89 rfl
  · refine go_ite (fun hc2 => ?_) (fun hc2 => ?_)
    · refine go_tsw (pc := 1) C 88 110 hc2 dX7_isMeasure_1 (by decide) (by decide) rfl (by decide) ?_
      refine go_iconst (pc := 88) C dX7_isMeasure_88 ki_1 ?_
      exact go_bret (w := (wZ h)) (pc := 89) C E true 1 true rfl dX7_isMeasure_89 rfl
    · refine go_ite (fun hc3 => ?_) (fun hc3 => ?_)
      · refine go_tsw (pc := 1) C 88 111 hc3 dX7_isMeasure_1 (by decide) (by decide) rfl (by decide) ?_
        refine go_iconst (pc := 88) C dX7_isMeasure_88 ki_1 ?_
        exact go_bret (w := (wZ h)) (pc := 89) C E true 1 true rfl dX7_isMeasure_89 rfl
      · refine go_ite (fun hc4 => ?_) (fun hc4 => ?_)
        · refine go_tsw (pc := 1) C 88 112 hc4 dX7_isMeasure_1 (by decide) (by decide) rfl (by decide) ?_
          refine go_iconst (pc := 88) C dX7_isMeasure_88 ki_1 ?_
          exact go_bret (w := (wZ h)) (pc := 89) C E true 1 true rfl dX7_isMeasure_89 rfl
        · refine go_ite (fun hc5 => ?_) (fun hc5 => ?_)
          · refine go_tsw (pc := 1) C 88 115 hc5 dX7_isMeasure_1 (by decide) (by decide) rfl (by decide) ?_
            refine go_iconst (pc := 88) C dX7_isMeasure_88 ki_1 ?_
            exact go_bret (w := (wZ h)) (pc := 89) C E true 1 true rfl dX7_isMeasure_89 rfl
          · refine go_ite (fun hc6 => ?_) (fun hc6 => ?_)
            · refine go_tsw (pc := 1) C 88 116 hc6 dX7_isMeasure_1 (by decide) (by decide) rfl (by decide) ?_
              refine go_iconst (pc := 88) C dX7_isMeasure_88 ki_1 ?_
              exact go_bret (w := (wZ h)) (pc := 89) C E true 1 true rfl dX7_isMeasure_89 rfl
            · refine go_ite (fun hc7 => ?_) (fun hc7 => ?_)
              · refine go_tsw (pc := 1) C 88 119 hc7 dX7_isMeasure_1 (by decide) (by decide) rfl (by decide) ?_
                refine go_iconst (pc := 88) C dX7_isMeasure_88 ki_1 ?_
                exact go_bret (w := (wZ h)) (pc := 89) C E true 1 true rfl dX7_isMeasure_89 rfl
              · refine go_tsw_else (pc := 1) C 90 [102, 110, 111, 112, 115, 116, 119] dX7_isMeasure_1 (fun v hv => by simp only [List.mem_cons, List.not_mem_nil, or_false] at hv; rcases hv with rfl | rfl | rfl | rfl | rfl | rfl | rfl <;> first | exact i32_ne hc1 (by decide) | exact i32_ne hc2 (by decide) | exact i32_ne hc3 (by decide) | exact i32_ne hc4 (by decide) | exact i32_ne hc5 (by decide) | exact i32_ne hc6 (by decide) | exact i32_ne hc7 (by decide)) (by decide) (by decide) (by decide) ?_
                refine go_iconst (pc := 90) C dX7_isMeasure_90 ki_0 ?_
                exact go_bret (w := (wZ h)) (pc := 91) C E false 0 false rfl dX7_isMeasure_91 rfl
theorem dX7_takesThing_0 : decode cX7_takesThing 0 = .ok (.iload_n 1, 1) := by decide +kernel
theorem dX7_takesThing_1 : decode cX7_takesThing 1 = .ok (.bipush 45, 2) := by decide +kernel
theorem dX7_takesThing_3 : decode cX7_takesThing 3 = .ok (.if_icmp .ne 11, 3) := by decide +kernel
theorem dX7_takesThing_6 : decode cX7_takesThing 6 = .ok (.aload_n 0, 1) := by decide +kernel
theorem dX7_takesThing_7 : decode cX7_takesThing 7 = .ok (.bipush 126, 2) := by decide +kernel
theorem dX7_takesThing_9 : decode cX7_takesThing 9 = .ok (.invokevirtual 84, 3) := by decide +kernel
theorem dX7_takesThing_12 : decode cX7_takesThing 12 = .ok (.iconst 1, 1) := by decide +kernel
theorem dX7_takesThing_13 : decode cX7_takesThing 13 = .ok (.ireturn, 1) := by decide +kernel
theorem dX7_takesThing_14 : decode cX7_takesThing 14 = .ok (.iload_n 1, 1) := by decide +kernel
theorem dX7_takesThing_15 : decode cX7_takesThing 15 = .ok (.bipush 40, 2) := by decide +kernel
theorem dX7_takesThing_17 : decode cX7_takesThing 17 = .ok (.if_icmp .ne 33, 3) := by decide +kernel
theorem dX7_takesThing_20 : decode cX7_takesThing 20 = .ok (.aload_n 0, 1) := by decide +kernel
theorem dX7_takesThing_21 : decode cX7_takesThing 21 = .ok (.getfield 42, 3) := by decide +kernel
theorem dX7_takesThing_24 : decode cX7_takesThing 24 = .ok (.iconst 4, 1) := by decide +kernel
theorem dX7_takesThing_25 : decode cX7_takesThing 25 = .ok (.if_icmp .ge 25, 3) := by decide +kernel
theorem dX7_takesThing_28 : decode cX7_takesThing 28 = .ok (.aload_n 0, 1) := by decide +kernel
theorem dX7_takesThing_29 : decode cX7_takesThing 29 = .ok (.iload_n 1, 1) := by decide +kernel
theorem dX7_takesThing_30 : decode cX7_takesThing 30 = .ok (.invokevirtual 84, 3) := by decide +kernel
theorem dX7_takesThing_33 : decode cX7_takesThing 33 = .ok (.aload_n 0, 1) := by decide +kernel
theorem dX7_takesThing_34 : decode cX7_takesThing 34 = .ok (.dup, 1) := by decide +kernel
theorem dX7_takesThing_35 : decode cX7_takesThing 35 = .ok (.getfield 42, 3) := by decide +kernel
theorem dX7_takesThing_38 : decode cX7_takesThing 38 = .ok (.iconst 1, 1) := by decide +kernel
theorem dX7_takesThing_39 : decode cX7_takesThing 39 = .ok (.iadd, 1) := by decide +kernel
theorem dX7_takesThing_40 : decode cX7_takesThing 40 = .ok (.putfield 42, 3) := by decide +kernel
theorem dX7_takesThing_43 : decode cX7_takesThing 43 = .ok (.aload_n 0, 1) := by decide +kernel
theorem dX7_takesThing_44 : decode cX7_takesThing 44 = .ok (.iconst 0, 1) := by decide +kernel
theorem dX7_takesThing_45 : decode cX7_takesThing 45 = .ok (.invokevirtual 88, 3) := by decide +kernel
theorem dX7_takesThing_48 : decode cX7_takesThing 48 = .ok (.iconst 1, 1) := by decide +kernel
theorem dX7_takesThing_49 : decode cX7_takesThing 49 = .ok (.ireturn, 1) := by decide +kernel
theorem dX7_takesThing_50 : decode cX7_takesThing 50 = .ok (.iload_n 1, 1) := by decide +kernel
theorem dX7_takesThing_51 : decode cX7_takesThing 51 = .ok (.invokestatic 92, 3) := by decide +kernel
theorem dX7_takesThing_54 : decode cX7_takesThing 54 = .ok (.ifCond .eq 15, 3) := by decide +kernel
theorem dX7_takesThing_57 : decode cX7_takesThing 57 = .ok (.aload_n 2, 1) := by decide +kernel
theorem dX7_takesThing_58 : decode cX7_takesThing 58 = .ok (.iload_n 1, 1) := by decide +kernel
theorem dX7_takesThing_59 : decode cX7_takesThing 59 = .ok (.invokevirtual 95, 3) := by decide +kernel
theorem dX7_takesThing_62 : decode cX7_takesThing 62 = .ok (.aload_n 0, 1) := by decide +kernel
theorem dX7_takesThing_63 : decode cX7_takesThing 63 = .ok (.iconst 0, 1) := by decide +kernel
theorem dX7_takesThing_64 : decode cX7_takesThing 64 = .ok (.putfield 38, 3) := by decide +kernel
theorem dX7_takesThing_67 : decode cX7_takesThing 67 = .ok (.iconst 1, 1) := by decide +kernel
theorem dX7_takesThing_68 : decode cX7_takesThing 68 = .ok (.ireturn, 1) := by decide +kernel
theorem dX7_takesThing_69 : decode cX7_takesThing 69 = .ok (.iconst 0, 1) := by decide +kernel
theorem dX7_takesThing_70 : decode cX7_takesThing 70 = .ok (.ireturn, 1) := by decide +kernel
def fX7_takesThing_J50 (h : AH) (v0 : Nat) (v1 : Int32) (v2 : Nat) : Option (Bool × AH) :=
    (fX7_isMeasure h v1).bind fun q1 =>
    if q1 = true then (
      (fX6_addSign h v2 v1).bind fun q2 =>
      (pF q2 7 v0 5 (.int (b2i false))).bind fun h3 =>
      some ((true, h3))
    ) else (
      some ((false, h))
    )
def fX7_takesThing (h : AH) (a0 : Nat) (a1 : Int32) (a2 : Nat) : Option (Bool × AH) :=
  if hasC h 7 a0 = true then (
    if a1 = 45 then (
      (fX7_hoard h a0 126).bind fun q4 =>
      some ((true, q4))
    ) else (
      if a1 = 40 then (
        (gI h 7 a0 3).bind fun x5 =>
        if 4 ≤ x5 then (
          fX7_takesThing_J50 h a0 a1 a2
        ) else (
          (fX7_hoard h a0 a1).bind fun q6 =>
          (gI q6 7 a0 3).bind fun x7 =>
          (pF q6 7 a0 3 (.int (x7 + 1))).bind fun h8 =>
          (fX7_setCompared h8 a0 false).bind fun q9 =>
          some ((true, q9))
        )
      ) else (
        fX7_takesThing_J50 h a0 a1 a2
      )
    )
  ) else none
set_option maxHeartbeats 4000000 in
theorem gX7_takesThing_J50 {Y : YT} {X : XT} (C : CT Y X RX7 cX7_takesThing 3) (O : RO X 3 0 0) {r : Bool × AH} (E : RX Y X (some .boolean) (some (.int (b2i r.1))) r.2 0 0) : ∀ (h : AH) (v0 : Nat) (v1 : Int32) (v2 : Nat), GO Y X 3 r h 0 0 50 [(0, .ref v0), (1, .int v1), (2, .ref v2)] [] (fX7_takesThing_J50 h v0 v1 v2) := by
  intro h v0 v1 v2
  unfold fX7_takesThing_J50
  refine go_iload_n (pc := 50) C 1 dX7_takesThing_50 rfl ?_
  refine go_bind (fun q1 hq1 => ?_)
  refine go_callS (rest := []) (st' := [.int (b2i q1)]) (c' := 0) (s' := 0) (pc := 51) C O miX7_92 w_509 [.int v1] rfl (mX7_isMeasure hq1) dX7_takesThing_51 ⟨by decide, by decide, by decide, by decide⟩ rfl (Nat.le_of_ble_eq_true rfl) rfl ⟨rfl, rfl⟩ ?_
  refine go_ifZ_eq (pc := 54) C 69 dX7_takesThing_54 (by decide) (fun _ => ?_) (fun _ => ?_)
  · refine go_aload_n (pc := 57) C 2 dX7_takesThing_57 rfl ?_
    refine go_iload_n (pc := 58) C 1 dX7_takesThing_58 rfl ?_
    refine go_bind (fun q2 hq2 => ?_)
    refine go_callV (rest := []) (st' := []) (c' := 0) (s' := 0) (pc := 59) C O miX7_95 mvX6_addSign [.int v1] rfl (mX6_addSign hq2).1 (mX6_addSign hq2).2 dX7_takesThing_59 ⟨by decide, by decide, by decide, by decide⟩ rfl (Nat.le_of_ble_eq_true rfl) rfl ⟨rfl, rfl⟩ ?_
    refine go_aload_n (pc := 62) C 0 dX7_takesThing_62 rfl ?_
    refine go_iconst (pc := 63) C dX7_takesThing_63 ki_0 ?_
    refine go_pZ (pc := 64) C false rfl fpX7_38 dX7_takesThing_64 (fun h3 => ?_)
    refine go_iconst (pc := 67) C dX7_takesThing_67 ki_1 ?_
    exact go_bret (w := wZh) (pc := 68) C E ((true, h3)) 1 true rfl dX7_takesThing_68 rfl
  · refine go_iconst (pc := 69) C dX7_takesThing_69 ki_0 ?_
    exact go_bret (w := wZh) (pc := 70) C E ((false, h)) 0 false rfl dX7_takesThing_70 rfl
set_option maxHeartbeats 4000000 in
theorem mX7_takesThing {h : AH} {a0 : Nat} {a1 : Int32} {a2 : Nat} {r : Bool × AH} (hr : fX7_takesThing h a0 a1 a2 = some r) : hasC h 7 a0 = true ∧ MC yX7_takesThing cX7_takesThing 3 (some .boolean) 3 0 0 [.ref a0, .int a1, .ref a2] h (some (.int (b2i r.1))) r.2 := by
  unfold fX7_takesThing at hr
  obtain ⟨hc, hr⟩ := if_some hr
  refine ⟨hc, mc_of (l0 := [(0, .ref a0), (1, .int a1), (2, .ref a2)]) rfl pn_X7 (Nat.le_of_ble_eq_true rfl) (fun Y X C E O hnm => go_run hr ?_)⟩
  have C : CT Y X RX7 cX7_takesThing 3 := C
  refine go_iload_n (pc := 0) C 1 dX7_takesThing_0 rfl ?_
  refine go_bipush (pc := 1) C dX7_takesThing_1 kb_45 ?_
  refine go_icmp_ne (pc := 3) C 14 dX7_takesThing_3 (by decide) (fun _ => ?_) (fun _ => ?_)
  · refine go_aload_n (pc := 6) C 0 dX7_takesThing_6 rfl ?_
    refine go_bipush (pc := 7) C dX7_takesThing_7 kb_126 ?_
    refine go_bind (fun q4 hq4 => ?_)
    refine go_callV (rest := []) (st' := []) (c' := 0) (s' := 0) (pc := 9) C O miX7_84 mvX7_hoard [.int 126] rfl (mX7_hoard hq4).1 (mX7_hoard hq4).2 dX7_takesThing_9 ⟨by decide, by decide, by decide, by decide⟩ rfl (Nat.le_of_ble_eq_true rfl) rfl ⟨rfl, rfl⟩ ?_
    refine go_iconst (pc := 12) C dX7_takesThing_12 ki_1 ?_
    exact go_bret (w := wZh) (pc := 13) C E ((true, q4)) 1 true rfl dX7_takesThing_13 rfl
  · refine go_iload_n (pc := 14) C 1 dX7_takesThing_14 rfl ?_
    refine go_bipush (pc := 15) C dX7_takesThing_15 kb_40 ?_
    refine go_icmp_ne (pc := 17) C 50 dX7_takesThing_17 (by decide) (fun _ => ?_) (fun _ => ?_)
    · refine go_aload_n (pc := 20) C 0 dX7_takesThing_20 rfl ?_
      refine go_gI (pc := 21) C fdX7_42 dX7_takesThing_21 (fun x5 => ?_)
      refine go_iconst (pc := 24) C dX7_takesThing_24 ki_4 ?_
      refine go_icmp_ge (pc := 25) C 50 dX7_takesThing_25 (by decide) (fun _ => ?_) (fun _ => ?_)
      · refine go_sub (ls' := [(0, .ref a0), (1, .int a1), (2, .ref a2)]) [0, 1, 2] rfl ?_
        refine gX7_takesThing_J50 C O E h a0 a1 a2
      · refine go_aload_n (pc := 28) C 0 dX7_takesThing_28 rfl ?_
        refine go_iload_n (pc := 29) C 1 dX7_takesThing_29 rfl ?_
        refine go_bind (fun q6 hq6 => ?_)
        refine go_callV (rest := []) (st' := []) (c' := 0) (s' := 0) (pc := 30) C O miX7_84 mvX7_hoard [.int a1] rfl (mX7_hoard hq6).1 (mX7_hoard hq6).2 dX7_takesThing_30 ⟨by decide, by decide, by decide, by decide⟩ rfl (Nat.le_of_ble_eq_true rfl) rfl ⟨rfl, rfl⟩ ?_
        refine go_aload_n (pc := 33) C 0 dX7_takesThing_33 rfl ?_
        refine go_dup (pc := 34) C dX7_takesThing_34 rfl ?_
        refine go_gI (pc := 35) C fdX7_42 dX7_takesThing_35 (fun x7 => ?_)
        refine go_iconst (pc := 38) C dX7_takesThing_38 ki_1 ?_
        refine go_iadd (pc := 39) C dX7_takesThing_39 ?_
        refine go_pI (pc := 40) C fpX7_42 dX7_takesThing_40 (fun h8 => ?_)
        refine go_aload_n (pc := 43) C 0 dX7_takesThing_43 rfl ?_
        refine go_iconst (pc := 44) C dX7_takesThing_44 ki_0 ?_
        refine go_bind (fun q9 hq9 => ?_)
        refine go_callV (rest := []) (st' := []) (c' := 0) (s' := 0) (pc := 45) C O miX7_88 mvX7_setCompared [.int (b2i false)] rfl (mX7_setCompared hq9).1 (mX7_setCompared hq9).2 dX7_takesThing_45 ⟨by decide, by decide, by decide, by decide⟩ rfl (Nat.le_of_ble_eq_true rfl) rfl ⟨rfl, rfl⟩ ?_
        refine go_iconst (pc := 48) C dX7_takesThing_48 ki_1 ?_
        exact go_bret (w := wZh) (pc := 49) C E ((true, q9)) 1 true rfl dX7_takesThing_49 rfl
    · refine go_sub (ls' := [(0, .ref a0), (1, .int a1), (2, .ref a2)]) [0, 1, 2] rfl ?_
      refine gX7_takesThing_J50 C O E h a0 a1 a2
theorem dX7_releaseDownTo_0 : decode cX7_releaseDownTo 0 = .ok (.aload_n 0, 1) := by decide +kernel
theorem dX7_releaseDownTo_1 : decode cX7_releaseDownTo 1 = .ok (.getfield 57, 3) := by decide +kernel
theorem dX7_releaseDownTo_4 : decode cX7_releaseDownTo 4 = .ok (.ifCond .le 59, 3) := by decide +kernel
theorem dX7_releaseDownTo_7 : decode cX7_releaseDownTo 7 = .ok (.aload_n 0, 1) := by decide +kernel
theorem dX7_releaseDownTo_8 : decode cX7_releaseDownTo 8 = .ok (.getfield 57, 3) := by decide +kernel
theorem dX7_releaseDownTo_11 : decode cX7_releaseDownTo 11 = .ok (.aload_n 0, 1) := by decide +kernel
theorem dX7_releaseDownTo_12 : decode cX7_releaseDownTo 12 = .ok (.getfield 9, 3) := by decide +kernel
theorem dX7_releaseDownTo_15 : decode cX7_releaseDownTo 15 = .ok (.arraylength, 1) := by decide +kernel
theorem dX7_releaseDownTo_16 : decode cX7_releaseDownTo 16 = .ok (.if_icmp .gt 47, 3) := by decide +kernel
theorem dX7_releaseDownTo_19 : decode cX7_releaseDownTo 19 = .ok (.aload_n 0, 1) := by decide +kernel
theorem dX7_releaseDownTo_20 : decode cX7_releaseDownTo 20 = .ok (.getfield 9, 3) := by decide +kernel
theorem dX7_releaseDownTo_23 : decode cX7_releaseDownTo 23 = .ok (.aload_n 0, 1) := by decide +kernel
theorem dX7_releaseDownTo_24 : decode cX7_releaseDownTo 24 = .ok (.getfield 57, 3) := by decide +kernel
theorem dX7_releaseDownTo_27 : decode cX7_releaseDownTo 27 = .ok (.iconst 1, 1) := by decide +kernel
theorem dX7_releaseDownTo_28 : decode cX7_releaseDownTo 28 = .ok (.isub, 1) := by decide +kernel
theorem dX7_releaseDownTo_29 : decode cX7_releaseDownTo 29 = .ok (.caload, 1) := by decide +kernel
theorem dX7_releaseDownTo_30 : decode cX7_releaseDownTo 30 = .ok (.invokestatic 50, 3) := by decide +kernel
theorem dX7_releaseDownTo_33 : decode cX7_releaseDownTo 33 = .ok (.iload_n 1, 1) := by decide +kernel
theorem dX7_releaseDownTo_34 : decode cX7_releaseDownTo 34 = .ok (.if_icmp .lt 29, 3) := by decide +kernel
theorem dX7_releaseDownTo_37 : decode cX7_releaseDownTo 37 = .ok (.aload_n 0, 1) := by decide +kernel
theorem dX7_releaseDownTo_38 : decode cX7_releaseDownTo 38 = .ok (.dup, 1) := by decide +kernel
theorem dX7_releaseDownTo_39 : decode cX7_releaseDownTo 39 = .ok (.getfield 57, 3) := by decide +kernel
theorem dX7_releaseDownTo_42 : decode cX7_releaseDownTo 42 = .ok (.iconst 1, 1) := by decide +kernel
theorem dX7_releaseDownTo_43 : decode cX7_releaseDownTo 43 = .ok (.isub, 1) := by decide +kernel
theorem dX7_releaseDownTo_44 : decode cX7_releaseDownTo 44 = .ok (.putfield 57, 3) := by decide +kernel
theorem dX7_releaseDownTo_47 : decode cX7_releaseDownTo 47 = .ok (.aload_n 2, 1) := by decide +kernel
theorem dX7_releaseDownTo_48 : decode cX7_releaseDownTo 48 = .ok (.aload_n 0, 1) := by decide +kernel
theorem dX7_releaseDownTo_49 : decode cX7_releaseDownTo 49 = .ok (.getfield 9, 3) := by decide +kernel
theorem dX7_releaseDownTo_52 : decode cX7_releaseDownTo 52 = .ok (.aload_n 0, 1) := by decide +kernel
theorem dX7_releaseDownTo_53 : decode cX7_releaseDownTo 53 = .ok (.getfield 57, 3) := by decide +kernel
theorem dX7_releaseDownTo_56 : decode cX7_releaseDownTo 56 = .ok (.caload, 1) := by decide +kernel
theorem dX7_releaseDownTo_57 : decode cX7_releaseDownTo 57 = .ok (.invokevirtual 95, 3) := by decide +kernel
theorem dX7_releaseDownTo_60 : decode cX7_releaseDownTo 60 = .ok (.goto (-60), 3) := by decide +kernel
theorem dX7_releaseDownTo_63 : decode cX7_releaseDownTo 63 = .ok (.return_, 1) := by decide +kernel
def fX7_releaseDownTo_L0 : Nat → AH → Nat → Int32 → Nat → Option (AH)
  | 0, _, _, _, _ => none
  | n + 1, h, v0, v1, v2 =>
    (gI h 7 v0 2).bind fun x1 =>
    if x1 ≤ 0 then (
      some h
    ) else (
      (gI h 7 v0 2).bind fun x2 =>
      (gR h 7 v0 0).bind fun x3 =>
      (aL h 2 x3).bind fun x4 =>
      if x4 < x2 then (
        some h
      ) else (
        (gR h 7 v0 0).bind fun x5 =>
        (gI h 7 v0 2).bind fun x6 =>
        (aI h 2 x5 (x6 - 1)).bind fun x7 =>
        (fX7_strength h x7).bind fun q8 =>
        if q8 < v1 then (
          some h
        ) else (
          (gI h 7 v0 2).bind fun x9 =>
          (pF h 7 v0 2 (.int (x9 - 1))).bind fun h10 =>
          (gR h10 7 v0 0).bind fun x11 =>
          (gI h10 7 v0 2).bind fun x12 =>
          (aI h10 2 x11 x12).bind fun x13 =>
          (fX6_addSign h10 v2 x13).bind fun q14 =>
          fX7_releaseDownTo_L0 n q14 v0 v1 v2
        )
      )
    )
def fX7_releaseDownTo (h : AH) (a0 : Nat) (a1 : Int32) (a2 : Nat) : Option (AH) :=
  if hasC h 7 a0 = true then (
    fX7_releaseDownTo_L0 FU h a0 a1 a2
  ) else none
set_option maxHeartbeats 4000000 in
theorem gX7_releaseDownTo_L0 {Y : YT} {X : XT} (C : CT Y X RX7 cX7_releaseDownTo 3) (O : RO X 3 0 0) {r : AH} (E : RX Y X none none r 0 0) : ∀ (n : Nat) (h : AH) (v0 : Nat) (v1 : Int32) (v2 : Nat), GO Y X 3 r h 0 0 0 [(0, .ref v0), (1, .int v1), (2, .ref v2)] [] (fX7_releaseDownTo_L0 n h v0 v1 v2) := by
  intro n
  induction n with
  | zero => intros; exact go_none _ _ _
  | succ n ih =>
    intro h v0 v1 v2
    rw [fX7_releaseDownTo_L0]
    refine go_aload_n (pc := 0) C 0 dX7_releaseDownTo_0 rfl ?_
    refine go_gI (pc := 1) C fdX7_57 dX7_releaseDownTo_1 (fun x1 => ?_)
    refine go_if_le (pc := 4) C 63 dX7_releaseDownTo_4 (by decide) (fun _ => ?_) (fun _ => ?_)
    · exact go_vret (w := wV) (pc := 63) C E h dX7_releaseDownTo_63 rfl
    · refine go_aload_n (pc := 7) C 0 dX7_releaseDownTo_7 rfl ?_
      refine go_gI (pc := 8) C fdX7_57 dX7_releaseDownTo_8 (fun x2 => ?_)
      refine go_aload_n (pc := 11) C 0 dX7_releaseDownTo_11 rfl ?_
      refine go_gR (pc := 12) C fdX7_9 dX7_releaseDownTo_12 (fun x3 => ?_)
      refine go_alen (pc := 15) C 2 (by decide) dX7_releaseDownTo_15 (fun x4 => ?_)
      refine go_icmp_gt (pc := 16) C 63 dX7_releaseDownTo_16 (by decide) (fun _ => ?_) (fun _ => ?_)
      · exact go_vret (w := wV) (pc := 63) C E h dX7_releaseDownTo_63 rfl
      · refine go_aload_n (pc := 19) C 0 dX7_releaseDownTo_19 rfl ?_
        refine go_gR (pc := 20) C fdX7_9 dX7_releaseDownTo_20 (fun x5 => ?_)
        refine go_aload_n (pc := 23) C 0 dX7_releaseDownTo_23 rfl ?_
        refine go_gI (pc := 24) C fdX7_57 dX7_releaseDownTo_24 (fun x6 => ?_)
        refine go_iconst (pc := 27) C dX7_releaseDownTo_27 ki_1 ?_
        refine go_isub (pc := 28) C dX7_releaseDownTo_28 ?_
        refine go_cald (pc := 29) C dX7_releaseDownTo_29 (fun x7 => ?_)
        refine go_bind (fun q8 hq8 => ?_)
        refine go_callS (rest := []) (st' := [.int q8]) (c' := 0) (s' := 0) (pc := 30) C O miX7_50 w_521 [.int x7] rfl (mX7_strength hq8) dX7_releaseDownTo_30 ⟨by decide, by decide, by decide, by decide⟩ rfl (Nat.le_of_ble_eq_true rfl) rfl ⟨rfl, rfl⟩ ?_
        refine go_iload_n (pc := 33) C 1 dX7_releaseDownTo_33 rfl ?_
        refine go_icmp_lt (pc := 34) C 63 dX7_releaseDownTo_34 (by decide) (fun _ => ?_) (fun _ => ?_)
        · exact go_vret (w := wV) (pc := 63) C E h dX7_releaseDownTo_63 rfl
        · refine go_aload_n (pc := 37) C 0 dX7_releaseDownTo_37 rfl ?_
          refine go_dup (pc := 38) C dX7_releaseDownTo_38 rfl ?_
          refine go_gI (pc := 39) C fdX7_57 dX7_releaseDownTo_39 (fun x9 => ?_)
          refine go_iconst (pc := 42) C dX7_releaseDownTo_42 ki_1 ?_
          refine go_isub (pc := 43) C dX7_releaseDownTo_43 ?_
          refine go_pI (pc := 44) C fpX7_57 dX7_releaseDownTo_44 (fun h10 => ?_)
          refine go_aload_n (pc := 47) C 2 dX7_releaseDownTo_47 rfl ?_
          refine go_aload_n (pc := 48) C 0 dX7_releaseDownTo_48 rfl ?_
          refine go_gR (pc := 49) C fdX7_9 dX7_releaseDownTo_49 (fun x11 => ?_)
          refine go_aload_n (pc := 52) C 0 dX7_releaseDownTo_52 rfl ?_
          refine go_gI (pc := 53) C fdX7_57 dX7_releaseDownTo_53 (fun x12 => ?_)
          refine go_cald (pc := 56) C dX7_releaseDownTo_56 (fun x13 => ?_)
          refine go_bind (fun q14 hq14 => ?_)
          refine go_callV (rest := []) (st' := []) (c' := 0) (s' := 0) (pc := 57) C O miX7_95 mvX6_addSign [.int x13] rfl (mX6_addSign hq14).1 (mX6_addSign hq14).2 dX7_releaseDownTo_57 ⟨by decide, by decide, by decide, by decide⟩ rfl (Nat.le_of_ble_eq_true rfl) rfl ⟨rfl, rfl⟩ ?_
          refine go_goto (pc := 60) C 0 dX7_releaseDownTo_60 (by decide) ?_
          refine go_sub (ls' := [(0, .ref v0), (1, .int v1), (2, .ref v2)]) [0, 1, 2] rfl ?_
          exact ih q14 v0 v1 v2
set_option maxHeartbeats 4000000 in
theorem mX7_releaseDownTo {h : AH} {a0 : Nat} {a1 : Int32} {a2 : Nat} {r : AH} (hr : fX7_releaseDownTo h a0 a1 a2 = some r) : hasC h 7 a0 = true ∧ MC yX7_releaseDownTo cX7_releaseDownTo 3 none 3 0 0 [.ref a0, .int a1, .ref a2] h none r := by
  unfold fX7_releaseDownTo at hr
  obtain ⟨hc, hr⟩ := if_some hr
  refine ⟨hc, mc_of (l0 := [(0, .ref a0), (1, .int a1), (2, .ref a2)]) rfl pn_X7 (Nat.le_of_ble_eq_true rfl) (fun Y X C E O hnm => go_run hr ?_)⟩
  have C : CT Y X RX7 cX7_releaseDownTo 3 := C
  refine go_sub (ls' := [(0, .ref a0), (1, .int a1), (2, .ref a2)]) [0, 1, 2] rfl ?_
  refine gX7_releaseDownTo_L0 C O E FU h a0 a1 a2
theorem dX7_isCompared_0 : decode cX7_isCompared 0 = .ok (.aload_n 0, 1) := by decide +kernel
theorem dX7_isCompared_1 : decode cX7_isCompared 1 = .ok (.getfield 42, 3) := by decide +kernel
theorem dX7_isCompared_4 : decode cX7_isCompared 4 = .ok (.ifCond .lt 31, 3) := by decide +kernel
theorem dX7_isCompared_7 : decode cX7_isCompared 7 = .ok (.aload_n 0, 1) := by decide +kernel
theorem dX7_isCompared_8 : decode cX7_isCompared 8 = .ok (.getfield 42, 3) := by decide +kernel
theorem dX7_isCompared_11 : decode cX7_isCompared 11 = .ok (.aload_n 0, 1) := by decide +kernel
theorem dX7_isCompared_12 : decode cX7_isCompared 12 = .ok (.getfield 15, 3) := by decide +kernel
theorem dX7_isCompared_15 : decode cX7_isCompared 15 = .ok (.arraylength, 1) := by decide +kernel
theorem dX7_isCompared_16 : decode cX7_isCompared 16 = .ok (.if_icmp .ge 19, 3) := by decide +kernel
theorem dX7_isCompared_19 : decode cX7_isCompared 19 = .ok (.aload_n 0, 1) := by decide +kernel
theorem dX7_isCompared_20 : decode cX7_isCompared 20 = .ok (.getfield 15, 3) := by decide +kernel
theorem dX7_isCompared_23 : decode cX7_isCompared 23 = .ok (.aload_n 0, 1) := by decide +kernel
theorem dX7_isCompared_24 : decode cX7_isCompared 24 = .ok (.getfield 42, 3) := by decide +kernel
theorem dX7_isCompared_27 : decode cX7_isCompared 27 = .ok (.baload, 1) := by decide +kernel
theorem dX7_isCompared_28 : decode cX7_isCompared 28 = .ok (.ifCond .eq 7, 3) := by decide +kernel
theorem dX7_isCompared_31 : decode cX7_isCompared 31 = .ok (.iconst 1, 1) := by decide +kernel
theorem dX7_isCompared_32 : decode cX7_isCompared 32 = .ok (.goto 4, 3) := by decide +kernel
theorem dX7_isCompared_35 : decode cX7_isCompared 35 = .ok (.iconst 0, 1) := by decide +kernel
theorem dX7_isCompared_36 : decode cX7_isCompared 36 = .ok (.ireturn, 1) := by decide +kernel
def fX7_isCompared (h : AH) (a0 : Nat) : Option (Bool) :=
  if hasC h 7 a0 = true then (
    (gI h 7 a0 3).bind fun x1 =>
    if x1 < 0 then (
      some false
    ) else (
      (gI h 7 a0 3).bind fun x2 =>
      (gR h 7 a0 1).bind fun x3 =>
      (aL h 4 x3).bind fun x4 =>
      if x4 ≤ x2 then (
        some false
      ) else (
        (gR h 7 a0 1).bind fun x5 =>
        (gI h 7 a0 3).bind fun x6 =>
        (aZ h x5 x6).bind fun x7 =>
        if x7 = true then (
          some true
        ) else (
          some false
        )
      )
    )
  ) else none
set_option maxHeartbeats 4000000 in
theorem mX7_isCompared {h : AH} {a0 : Nat} {r : Bool} (hr : fX7_isCompared h a0 = some r) : hasC h 7 a0 = true ∧ MC yX7_isCompared cX7_isCompared 1 (some .boolean) 1 0 0 [.ref a0] h (some (.int (b2i r))) h := by
  unfold fX7_isCompared at hr
  obtain ⟨hc, hr⟩ := if_some hr
  refine ⟨hc, mc_of (l0 := [(0, .ref a0)]) rfl pn_X7 (Nat.le_of_ble_eq_true rfl) (fun Y X C E O hnm => go_run hr ?_)⟩
  have C : CT Y X RX7 cX7_isCompared 1 := C
  refine go_aload_n (pc := 0) C 0 dX7_isCompared_0 rfl ?_
  refine go_gI (pc := 1) C fdX7_42 dX7_isCompared_1 (fun x1 => ?_)
  refine go_if_lt (pc := 4) C 35 dX7_isCompared_4 (by decide) (fun _ => ?_) (fun _ => ?_)
  · refine go_iconst (pc := 35) C dX7_isCompared_35 ki_0 ?_
    exact go_bret (w := (wZ h)) (pc := 36) C E false 0 false rfl dX7_isCompared_36 rfl
  · refine go_aload_n (pc := 7) C 0 dX7_isCompared_7 rfl ?_
    refine go_gI (pc := 8) C fdX7_42 dX7_isCompared_8 (fun x2 => ?_)
    refine go_aload_n (pc := 11) C 0 dX7_isCompared_11 rfl ?_
    refine go_gR (pc := 12) C fdX7_15 dX7_isCompared_12 (fun x3 => ?_)
    refine go_alen (pc := 15) C 4 (by decide) dX7_isCompared_15 (fun x4 => ?_)
    refine go_icmp_ge (pc := 16) C 35 dX7_isCompared_16 (by decide) (fun _ => ?_) (fun _ => ?_)
    · refine go_iconst (pc := 35) C dX7_isCompared_35 ki_0 ?_
      exact go_bret (w := (wZ h)) (pc := 36) C E false 0 false rfl dX7_isCompared_36 rfl
    · refine go_aload_n (pc := 19) C 0 dX7_isCompared_19 rfl ?_
      refine go_gR (pc := 20) C fdX7_15 dX7_isCompared_20 (fun x5 => ?_)
      refine go_aload_n (pc := 23) C 0 dX7_isCompared_23 rfl ?_
      refine go_gI (pc := 24) C fdX7_42 dX7_isCompared_24 (fun x6 => ?_)
      refine go_zald (pc := 27) C dX7_isCompared_27 (fun x7 => ?_)
      refine go_ifZ_eq (pc := 28) C 35 dX7_isCompared_28 (by decide) (fun _ => ?_) (fun _ => ?_)
      · refine go_iconst (pc := 31) C dX7_isCompared_31 ki_1 ?_
        refine go_goto (pc := 32) C 36 dX7_isCompared_32 (by decide) ?_
        exact go_bret (w := (wZ h)) (pc := 36) C E true 1 true rfl dX7_isCompared_36 rfl
      · refine go_iconst (pc := 35) C dX7_isCompared_35 ki_0 ?_
        exact go_bret (w := (wZ h)) (pc := 36) C E false 0 false rfl dX7_isCompared_36 rfl
theorem dX7_takesBinder_0 : decode cX7_takesBinder 0 = .ok (.iload_n 1, 1) := by decide +kernel
theorem dX7_takesBinder_1 : decode cX7_takesBinder 1 = .ok (.bipush 41, 2) := by decide +kernel
theorem dX7_takesBinder_3 : decode cX7_takesBinder 3 = .ok (.if_icmp .ne 42, 3) := by decide +kernel
theorem dX7_takesBinder_6 : decode cX7_takesBinder 6 = .ok (.aload_n 0, 1) := by decide +kernel
theorem dX7_takesBinder_7 : decode cX7_takesBinder 7 = .ok (.getfield 42, 3) := by decide +kernel
theorem dX7_takesBinder_10 : decode cX7_takesBinder 10 = .ok (.ifCond .le 35, 3) := by decide +kernel
theorem dX7_takesBinder_13 : decode cX7_takesBinder 13 = .ok (.aload_n 0, 1) := by decide +kernel
theorem dX7_takesBinder_14 : decode cX7_takesBinder 14 = .ok (.iconst 1, 1) := by decide +kernel
theorem dX7_takesBinder_15 : decode cX7_takesBinder 15 = .ok (.aload_n 2, 1) := by decide +kernel
theorem dX7_takesBinder_16 : decode cX7_takesBinder 16 = .ok (.invokevirtual 46, 3) := by decide +kernel
theorem dX7_takesBinder_19 : decode cX7_takesBinder 19 = .ok (.aload_n 0, 1) := by decide +kernel
theorem dX7_takesBinder_20 : decode cX7_takesBinder 20 = .ok (.iconst 0, 1) := by decide +kernel
theorem dX7_takesBinder_21 : decode cX7_takesBinder 21 = .ok (.aload_n 0, 1) := by decide +kernel
theorem dX7_takesBinder_22 : decode cX7_takesBinder 22 = .ok (.getfield 57, 3) := by decide +kernel
theorem dX7_takesBinder_25 : decode cX7_takesBinder 25 = .ok (.iconst 1, 1) := by decide +kernel
theorem dX7_takesBinder_26 : decode cX7_takesBinder 26 = .ok (.isub, 1) := by decide +kernel
theorem dX7_takesBinder_27 : decode cX7_takesBinder 27 = .ok (.invokestatic 98, 3) := by decide +kernel
theorem dX7_takesBinder_30 : decode cX7_takesBinder 30 = .ok (.putfield 57, 3) := by decide +kernel
theorem dX7_takesBinder_33 : decode cX7_takesBinder 33 = .ok (.aload_n 0, 1) := by decide +kernel
theorem dX7_takesBinder_34 : decode cX7_takesBinder 34 = .ok (.dup, 1) := by decide +kernel
theorem dX7_takesBinder_35 : decode cX7_takesBinder 35 = .ok (.getfield 42, 3) := by decide +kernel
theorem dX7_takesBinder_38 : decode cX7_takesBinder 38 = .ok (.iconst 1, 1) := by decide +kernel
theorem dX7_takesBinder_39 : decode cX7_takesBinder 39 = .ok (.isub, 1) := by decide +kernel
theorem dX7_takesBinder_40 : decode cX7_takesBinder 40 = .ok (.putfield 42, 3) := by decide +kernel
theorem dX7_takesBinder_43 : decode cX7_takesBinder 43 = .ok (.iconst 1, 1) := by decide +kernel
theorem dX7_takesBinder_44 : decode cX7_takesBinder 44 = .ok (.ireturn, 1) := by decide +kernel
theorem dX7_takesBinder_45 : decode cX7_takesBinder 45 = .ok (.iload_n 1, 1) := by decide +kernel
theorem dX7_takesBinder_46 : decode cX7_takesBinder 46 = .ok (.invokestatic 101, 3) := by decide +kernel
theorem dX7_takesBinder_49 : decode cX7_takesBinder 49 = .ok (.ifCond .ne 5, 3) := by decide +kernel
theorem dX7_takesBinder_52 : decode cX7_takesBinder 52 = .ok (.iconst 0, 1) := by decide +kernel
theorem dX7_takesBinder_53 : decode cX7_takesBinder 53 = .ok (.ireturn, 1) := by decide +kernel
theorem dX7_takesBinder_54 : decode cX7_takesBinder 54 = .ok (.iload_n 1, 1) := by decide +kernel
theorem dX7_takesBinder_55 : decode cX7_takesBinder 55 = .ok (.invokestatic 50, 3) := by decide +kernel
theorem dX7_takesBinder_58 : decode cX7_takesBinder 58 = .ok (.iconst 1, 1) := by decide +kernel
theorem dX7_takesBinder_59 : decode cX7_takesBinder 59 = .ok (.if_icmp .ne 17, 3) := by decide +kernel
theorem dX7_takesBinder_62 : decode cX7_takesBinder 62 = .ok (.aload_n 0, 1) := by decide +kernel
theorem dX7_takesBinder_63 : decode cX7_takesBinder 63 = .ok (.invokevirtual 104, 3) := by decide +kernel
theorem dX7_takesBinder_66 : decode cX7_takesBinder 66 = .ok (.ifCond .eq 5, 3) := by decide +kernel
theorem dX7_takesBinder_69 : decode cX7_takesBinder 69 = .ok (.iconst 0, 1) := by decide +kernel
theorem dX7_takesBinder_70 : decode cX7_takesBinder 70 = .ok (.ireturn, 1) := by decide +kernel
theorem dX7_takesBinder_71 : decode cX7_takesBinder 71 = .ok (.aload_n 0, 1) := by decide +kernel
theorem dX7_takesBinder_72 : decode cX7_takesBinder 72 = .ok (.iconst 1, 1) := by decide +kernel
theorem dX7_takesBinder_73 : decode cX7_takesBinder 73 = .ok (.invokevirtual 88, 3) := by decide +kernel
theorem dX7_takesBinder_76 : decode cX7_takesBinder 76 = .ok (.aload_n 0, 1) := by decide +kernel
theorem dX7_takesBinder_77 : decode cX7_takesBinder 77 = .ok (.iload_n 1, 1) := by decide +kernel
theorem dX7_takesBinder_78 : decode cX7_takesBinder 78 = .ok (.invokestatic 50, 3) := by decide +kernel
theorem dX7_takesBinder_81 : decode cX7_takesBinder 81 = .ok (.aload_n 2, 1) := by decide +kernel
theorem dX7_takesBinder_82 : decode cX7_takesBinder 82 = .ok (.invokevirtual 46, 3) := by decide +kernel
theorem dX7_takesBinder_85 : decode cX7_takesBinder 85 = .ok (.aload_n 0, 1) := by decide +kernel
theorem dX7_takesBinder_86 : decode cX7_takesBinder 86 = .ok (.iload_n 1, 1) := by decide +kernel
theorem dX7_takesBinder_87 : decode cX7_takesBinder 87 = .ok (.invokevirtual 84, 3) := by decide +kernel
theorem dX7_takesBinder_90 : decode cX7_takesBinder 90 = .ok (.aload_n 0, 1) := by decide +kernel
theorem dX7_takesBinder_91 : decode cX7_takesBinder 91 = .ok (.iconst 1, 1) := by decide +kernel
theorem dX7_takesBinder_92 : decode cX7_takesBinder 92 = .ok (.putfield 38, 3) := by decide +kernel
theorem dX7_takesBinder_95 : decode cX7_takesBinder 95 = .ok (.iconst 1, 1) := by decide +kernel
theorem dX7_takesBinder_96 : decode cX7_takesBinder 96 = .ok (.ireturn, 1) := by decide +kernel
def fX7_takesBinder_J76 (h : AH) (v0 : Nat) (v1 : Int32) (v2 : Nat) : Option (Bool × AH) :=
    (fX7_strength h v1).bind fun q1 =>
    (fX7_releaseDownTo h v0 q1 v2).bind fun q2 =>
    (fX7_hoard q2 v0 v1).bind fun q3 =>
    (pF q3 7 v0 5 (.int (b2i true))).bind fun h4 =>
    some ((true, h4))
def fX7_takesBinder_J45 (h : AH) (v0 : Nat) (v1 : Int32) (v2 : Nat) : Option (Bool × AH) :=
    (fX7_isBinary h v1).bind fun q5 =>
    if q5 = true then (
      (fX7_strength h v1).bind fun q6 =>
      if q6 = 1 then (
        (fX7_isCompared h v0).bind fun q7 =>
        if q7 = true then (
          some ((false, h))
        ) else (
          (fX7_setCompared h v0 true).bind fun q8 =>
          fX7_takesBinder_J76 q8 v0 v1 v2
        )
      ) else (
        fX7_takesBinder_J76 h v0 v1 v2
      )
    ) else (
      some ((false, h))
    )
def fX7_takesBinder (h : AH) (a0 : Nat) (a1 : Int32) (a2 : Nat) : Option (Bool × AH) :=
  if hasC h 7 a0 = true then (
    if a1 = 41 then (
      (gI h 7 a0 3).bind fun x9 =>
      if x9 ≤ 0 then (
        fX7_takesBinder_J45 h a0 a1 a2
      ) else (
        (fX7_releaseDownTo h a0 1 a2).bind fun q10 =>
        (gI q10 7 a0 2).bind fun x11 =>
        (pF q10 7 a0 2 (.int (jmax 0 (x11 - 1)))).bind fun h12 =>
        (gI h12 7 a0 3).bind fun x13 =>
        (pF h12 7 a0 3 (.int (x13 - 1))).bind fun h14 =>
        some ((true, h14))
      )
    ) else (
      fX7_takesBinder_J45 h a0 a1 a2
    )
  ) else none
set_option maxHeartbeats 4000000 in
theorem gX7_takesBinder_J76 {Y : YT} {X : XT} (C : CT Y X RX7 cX7_takesBinder 3) (O : RO X 4 0 0) {r : Bool × AH} (E : RX Y X (some .boolean) (some (.int (b2i r.1))) r.2 0 0) : ∀ (h : AH) (v0 : Nat) (v1 : Int32) (v2 : Nat), GO Y X 3 r h 0 0 76 [(0, .ref v0), (1, .int v1), (2, .ref v2)] [] (fX7_takesBinder_J76 h v0 v1 v2) := by
  intro h v0 v1 v2
  unfold fX7_takesBinder_J76
  refine go_aload_n (pc := 76) C 0 dX7_takesBinder_76 rfl ?_
  refine go_iload_n (pc := 77) C 1 dX7_takesBinder_77 rfl ?_
  refine go_bind (fun q1 hq1 => ?_)
  refine go_callS (rest := [.ref v0]) (st' := [.int q1, .ref v0]) (c' := 0) (s' := 0) (pc := 78) C O miX7_50 w_521 [.int v1] rfl (mX7_strength hq1) dX7_takesBinder_78 ⟨by decide, by decide, by decide, by decide⟩ rfl (Nat.le_of_ble_eq_true rfl) rfl ⟨rfl, rfl⟩ ?_
  refine go_aload_n (pc := 81) C 2 dX7_takesBinder_81 rfl ?_
  refine go_bind (fun q2 hq2 => ?_)
  refine go_callV (rest := []) (st' := []) (c' := 0) (s' := 0) (pc := 82) C O miX7_46 mvX7_releaseDownTo [.int q1, .ref v2] rfl (mX7_releaseDownTo hq2).1 (mX7_releaseDownTo hq2).2 dX7_takesBinder_82 ⟨by decide, by decide, by decide, by decide⟩ rfl (Nat.le_of_ble_eq_true rfl) rfl ⟨rfl, rfl⟩ ?_
  refine go_aload_n (pc := 85) C 0 dX7_takesBinder_85 rfl ?_
  refine go_iload_n (pc := 86) C 1 dX7_takesBinder_86 rfl ?_
  refine go_bind (fun q3 hq3 => ?_)
  refine go_callV (rest := []) (st' := []) (c' := 0) (s' := 0) (pc := 87) C O miX7_84 mvX7_hoard [.int v1] rfl (mX7_hoard hq3).1 (mX7_hoard hq3).2 dX7_takesBinder_87 ⟨by decide, by decide, by decide, by decide⟩ rfl (Nat.le_of_ble_eq_true rfl) rfl ⟨rfl, rfl⟩ ?_
  refine go_aload_n (pc := 90) C 0 dX7_takesBinder_90 rfl ?_
  refine go_iconst (pc := 91) C dX7_takesBinder_91 ki_1 ?_
  refine go_pZ (pc := 92) C true rfl fpX7_38 dX7_takesBinder_92 (fun h4 => ?_)
  refine go_iconst (pc := 95) C dX7_takesBinder_95 ki_1 ?_
  exact go_bret (w := wZh) (pc := 96) C E ((true, h4)) 1 true rfl dX7_takesBinder_96 rfl
set_option maxHeartbeats 4000000 in
theorem gX7_takesBinder_J45 {Y : YT} {X : XT} (C : CT Y X RX7 cX7_takesBinder 3) (O : RO X 4 0 0) {r : Bool × AH} (E : RX Y X (some .boolean) (some (.int (b2i r.1))) r.2 0 0) : ∀ (h : AH) (v0 : Nat) (v1 : Int32) (v2 : Nat), GO Y X 3 r h 0 0 45 [(0, .ref v0), (1, .int v1), (2, .ref v2)] [] (fX7_takesBinder_J45 h v0 v1 v2) := by
  intro h v0 v1 v2
  unfold fX7_takesBinder_J45
  refine go_iload_n (pc := 45) C 1 dX7_takesBinder_45 rfl ?_
  refine go_bind (fun q5 hq5 => ?_)
  refine go_callS (rest := []) (st' := [.int (b2i q5)]) (c' := 0) (s' := 0) (pc := 46) C O miX7_101 w_527 [.int v1] rfl (mX7_isBinary hq5) dX7_takesBinder_46 ⟨by decide, by decide, by decide, by decide⟩ rfl (Nat.le_of_ble_eq_true rfl) rfl ⟨rfl, rfl⟩ ?_
  refine go_ifZ_ne (pc := 49) C 54 dX7_takesBinder_49 (by decide) (fun _ => ?_) (fun _ => ?_)
  · refine go_iload_n (pc := 54) C 1 dX7_takesBinder_54 rfl ?_
    refine go_bind (fun q6 hq6 => ?_)
    refine go_callS (rest := []) (st' := [.int q6]) (c' := 0) (s' := 0) (pc := 55) C O miX7_50 w_521 [.int v1] rfl (mX7_strength hq6) dX7_takesBinder_55 ⟨by decide, by decide, by decide, by decide⟩ rfl (Nat.le_of_ble_eq_true rfl) rfl ⟨rfl, rfl⟩ ?_
    refine go_iconst (pc := 58) C dX7_takesBinder_58 ki_1 ?_
    refine go_icmp_ne (pc := 59) C 76 dX7_takesBinder_59 (by decide) (fun _ => ?_) (fun _ => ?_)
    · refine go_aload_n (pc := 62) C 0 dX7_takesBinder_62 rfl ?_
      refine go_bind (fun q7 hq7 => ?_)
      refine go_callV (rest := []) (st' := [.int (b2i q7)]) (c' := 0) (s' := 0) (pc := 63) C O miX7_104 mvX7_isCompared [] rfl (mX7_isCompared hq7).1 (mX7_isCompared hq7).2 dX7_takesBinder_63 ⟨by decide, by decide, by decide, by decide⟩ rfl (Nat.le_of_ble_eq_true rfl) rfl ⟨rfl, rfl⟩ ?_
      refine go_ifZ_eq (pc := 66) C 71 dX7_takesBinder_66 (by decide) (fun _ => ?_) (fun _ => ?_)
      · refine go_iconst (pc := 69) C dX7_takesBinder_69 ki_0 ?_
        exact go_bret (w := wZh) (pc := 70) C E ((false, h)) 0 false rfl dX7_takesBinder_70 rfl
      · refine go_aload_n (pc := 71) C 0 dX7_takesBinder_71 rfl ?_
        refine go_iconst (pc := 72) C dX7_takesBinder_72 ki_1 ?_
        refine go_bind (fun q8 hq8 => ?_)
        refine go_callV (rest := []) (st' := []) (c' := 0) (s' := 0) (pc := 73) C O miX7_88 mvX7_setCompared [.int (b2i true)] rfl (mX7_setCompared hq8).1 (mX7_setCompared hq8).2 dX7_takesBinder_73 ⟨by decide, by decide, by decide, by decide⟩ rfl (Nat.le_of_ble_eq_true rfl) rfl ⟨rfl, rfl⟩ ?_
        refine go_sub (ls' := [(0, .ref v0), (1, .int v1), (2, .ref v2)]) [0, 1, 2] rfl ?_
        refine gX7_takesBinder_J76 C O E q8 v0 v1 v2
    · refine go_sub (ls' := [(0, .ref v0), (1, .int v1), (2, .ref v2)]) [0, 1, 2] rfl ?_
      refine gX7_takesBinder_J76 C O E h v0 v1 v2
  · refine go_iconst (pc := 52) C dX7_takesBinder_52 ki_0 ?_
    exact go_bret (w := wZh) (pc := 53) C E ((false, h)) 0 false rfl dX7_takesBinder_53 rfl
set_option maxHeartbeats 4000000 in
theorem mX7_takesBinder {h : AH} {a0 : Nat} {a1 : Int32} {a2 : Nat} {r : Bool × AH} (hr : fX7_takesBinder h a0 a1 a2 = some r) : hasC h 7 a0 = true ∧ MC yX7_takesBinder cX7_takesBinder 3 (some .boolean) 4 0 0 [.ref a0, .int a1, .ref a2] h (some (.int (b2i r.1))) r.2 := by
  unfold fX7_takesBinder at hr
  obtain ⟨hc, hr⟩ := if_some hr
  refine ⟨hc, mc_of (l0 := [(0, .ref a0), (1, .int a1), (2, .ref a2)]) rfl pn_X7 (Nat.le_of_ble_eq_true rfl) (fun Y X C E O hnm => go_run hr ?_)⟩
  have C : CT Y X RX7 cX7_takesBinder 3 := C
  refine go_iload_n (pc := 0) C 1 dX7_takesBinder_0 rfl ?_
  refine go_bipush (pc := 1) C dX7_takesBinder_1 kb_41 ?_
  refine go_icmp_ne (pc := 3) C 45 dX7_takesBinder_3 (by decide) (fun _ => ?_) (fun _ => ?_)
  · refine go_aload_n (pc := 6) C 0 dX7_takesBinder_6 rfl ?_
    refine go_gI (pc := 7) C fdX7_42 dX7_takesBinder_7 (fun x9 => ?_)
    refine go_if_le (pc := 10) C 45 dX7_takesBinder_10 (by decide) (fun _ => ?_) (fun _ => ?_)
    · refine go_sub (ls' := [(0, .ref a0), (1, .int a1), (2, .ref a2)]) [0, 1, 2] rfl ?_
      refine gX7_takesBinder_J45 C O E h a0 a1 a2
    · refine go_aload_n (pc := 13) C 0 dX7_takesBinder_13 rfl ?_
      refine go_iconst (pc := 14) C dX7_takesBinder_14 ki_1 ?_
      refine go_aload_n (pc := 15) C 2 dX7_takesBinder_15 rfl ?_
      refine go_bind (fun q10 hq10 => ?_)
      refine go_callV (rest := []) (st' := []) (c' := 0) (s' := 0) (pc := 16) C O miX7_46 mvX7_releaseDownTo [.int 1, .ref a2] rfl (mX7_releaseDownTo hq10).1 (mX7_releaseDownTo hq10).2 dX7_takesBinder_16 ⟨by decide, by decide, by decide, by decide⟩ rfl (Nat.le_of_ble_eq_true rfl) rfl ⟨rfl, rfl⟩ ?_
      refine go_aload_n (pc := 19) C 0 dX7_takesBinder_19 rfl ?_
      refine go_iconst (pc := 20) C dX7_takesBinder_20 ki_0 ?_
      refine go_aload_n (pc := 21) C 0 dX7_takesBinder_21 rfl ?_
      refine go_gI (pc := 22) C fdX7_57 dX7_takesBinder_22 (fun x11 => ?_)
      refine go_iconst (pc := 25) C dX7_takesBinder_25 ki_1 ?_
      refine go_isub (pc := 26) C dX7_takesBinder_26 ?_
      refine go_mmax (pc := 27) C O w_523 w_524 w_102 w_525 ⟨by decide, by decide, by decide⟩ (Nat.le_of_ble_eq_true rfl) dX7_takesBinder_27 ?_
      refine go_pI (pc := 30) C fpX7_57 dX7_takesBinder_30 (fun h12 => ?_)
      refine go_aload_n (pc := 33) C 0 dX7_takesBinder_33 rfl ?_
      refine go_dup (pc := 34) C dX7_takesBinder_34 rfl ?_
      refine go_gI (pc := 35) C fdX7_42 dX7_takesBinder_35 (fun x13 => ?_)
      refine go_iconst (pc := 38) C dX7_takesBinder_38 ki_1 ?_
      refine go_isub (pc := 39) C dX7_takesBinder_39 ?_
      refine go_pI (pc := 40) C fpX7_42 dX7_takesBinder_40 (fun h14 => ?_)
      refine go_iconst (pc := 43) C dX7_takesBinder_43 ki_1 ?_
      exact go_bret (w := wZh) (pc := 44) C E ((true, h14)) 1 true rfl dX7_takesBinder_44 rfl
  · refine go_sub (ls' := [(0, .ref a0), (1, .int a1), (2, .ref a2)]) [0, 1, 2] rfl ?_
    refine gX7_takesBinder_J45 C O E h a0 a1 a2
theorem dX7_takes_0 : decode cX7_takes 0 = .ok (.iload_n 1, 1) := by decide +kernel
theorem dX7_takes_1 : decode cX7_takes 1 = .ok (.invokestatic 63, 3) := by decide +kernel
theorem dX7_takes_4 : decode cX7_takes 4 = .ok (.ifCond .eq 13, 3) := by decide +kernel
theorem dX7_takes_7 : decode cX7_takes 7 = .ok (.aload_n 0, 1) := by decide +kernel
theorem dX7_takes_8 : decode cX7_takes 8 = .ok (.iload_n 1, 1) := by decide +kernel
theorem dX7_takes_9 : decode cX7_takes 9 = .ok (.bipush 48, 2) := by decide +kernel
theorem dX7_takes_11 : decode cX7_takes 11 = .ok (.isub, 1) := by decide +kernel
theorem dX7_takes_12 : decode cX7_takes 12 = .ok (.aload_n 2, 1) := by decide +kernel
theorem dX7_takes_13 : decode cX7_takes 13 = .ok (.invokevirtual 67, 3) := by decide +kernel
theorem dX7_takes_16 : decode cX7_takes 16 = .ok (.ireturn, 1) := by decide +kernel
theorem dX7_takes_17 : decode cX7_takes 17 = .ok (.aload_n 0, 1) := by decide +kernel
theorem dX7_takes_18 : decode cX7_takes 18 = .ok (.iconst 0, 1) := by decide +kernel
theorem dX7_takes_19 : decode cX7_takes 19 = .ok (.putfield 60, 3) := by decide +kernel
theorem dX7_takes_22 : decode cX7_takes 22 = .ok (.aload_n 0, 1) := by decide +kernel
theorem dX7_takes_23 : decode cX7_takes 23 = .ok (.getfield 38, 3) := by decide +kernel
theorem dX7_takes_26 : decode cX7_takes 26 = .ok (.ifCond .eq 12, 3) := by decide +kernel
theorem dX7_takes_29 : decode cX7_takes 29 = .ok (.aload_n 0, 1) := by decide +kernel
theorem dX7_takes_30 : decode cX7_takes 30 = .ok (.iload_n 1, 1) := by decide +kernel
theorem dX7_takes_31 : decode cX7_takes 31 = .ok (.aload_n 2, 1) := by decide +kernel
theorem dX7_takes_32 : decode cX7_takes 32 = .ok (.invokevirtual 71, 3) := by decide +kernel
theorem dX7_takes_35 : decode cX7_takes 35 = .ok (.goto 9, 3) := by decide +kernel
theorem dX7_takes_38 : decode cX7_takes 38 = .ok (.aload_n 0, 1) := by decide +kernel
theorem dX7_takes_39 : decode cX7_takes 39 = .ok (.iload_n 1, 1) := by decide +kernel
theorem dX7_takes_40 : decode cX7_takes 40 = .ok (.aload_n 2, 1) := by decide +kernel
theorem dX7_takes_41 : decode cX7_takes 41 = .ok (.invokevirtual 74, 3) := by decide +kernel
theorem dX7_takes_44 : decode cX7_takes 44 = .ok (.ireturn, 1) := by decide +kernel
def fX7_takes (h : AH) (a0 : Nat) (a1 : Int32) (a2 : Nat) : Option (Bool × AH) :=
  if hasC h 7 a0 = true then (
    (fX10_isDigit h a1).bind fun q1 =>
    if q1 = true then (
      (fX7_takesDigit h a0 (a1 - 48) a2).bind fun q2 =>
      some ((q2.1, q2.2))
    ) else (
      (pF h 7 a0 4 (.int 0)).bind fun h3 =>
      (gZ h3 7 a0 5).bind fun x4 =>
      if x4 = true then (
        (fX7_takesThing h3 a0 a1 a2).bind fun q5 =>
        some ((q5.1, q5.2))
      ) else (
        (fX7_takesBinder h3 a0 a1 a2).bind fun q6 =>
        some ((q6.1, q6.2))
      )
    )
  ) else none
set_option maxHeartbeats 4000000 in
theorem mX7_takes {h : AH} {a0 : Nat} {a1 : Int32} {a2 : Nat} {r : Bool × AH} (hr : fX7_takes h a0 a1 a2 = some r) : hasC h 7 a0 = true ∧ MC yX7_takes cX7_takes 3 (some .boolean) 5 0 0 [.ref a0, .int a1, .ref a2] h (some (.int (b2i r.1))) r.2 := by
  unfold fX7_takes at hr
  obtain ⟨hc, hr⟩ := if_some hr
  refine ⟨hc, mc_of (l0 := [(0, .ref a0), (1, .int a1), (2, .ref a2)]) rfl pn_X7 (Nat.le_of_ble_eq_true rfl) (fun Y X C E O hnm => go_run hr ?_)⟩
  have C : CT Y X RX7 cX7_takes 3 := C
  refine go_iload_n (pc := 0) C 1 dX7_takes_0 rfl ?_
  refine go_bind (fun q1 hq1 => ?_)
  refine go_callSN (rest := []) (st' := [.int (b2i q1)]) (c' := 0) (s' := 0) (pc := 1) C O miX7_63 w_390 [.int a1] rfl (mX10_isDigit hq1) dX7_takes_1 ⟨by decide, by decide, by decide, by decide⟩ rfl (Nat.le_of_ble_eq_true rfl) rfl ⟨rfl, rfl⟩ ?_
  refine go_ifZ_eq (pc := 4) C 17 dX7_takes_4 (by decide) (fun _ => ?_) (fun _ => ?_)
  · refine go_aload_n (pc := 7) C 0 dX7_takes_7 rfl ?_
    refine go_iload_n (pc := 8) C 1 dX7_takes_8 rfl ?_
    refine go_bipush (pc := 9) C dX7_takes_9 kb_48 ?_
    refine go_isub (pc := 11) C dX7_takes_11 ?_
    refine go_aload_n (pc := 12) C 2 dX7_takes_12 rfl ?_
    refine go_bind (fun q2 hq2 => ?_)
    refine go_callV (rest := []) (st' := [.int (b2i q2.1)]) (c' := 0) (s' := 0) (pc := 13) C O miX7_67 mvX7_takesDigit [.int (a1 - 48), .ref a2] rfl (mX7_takesDigit hq2).1 (mX7_takesDigit hq2).2 dX7_takes_13 ⟨by decide, by decide, by decide, by decide⟩ rfl (Nat.le_of_ble_eq_true rfl) rfl ⟨rfl, rfl⟩ ?_
    exact go_bret (w := wZh) (pc := 16) C E ((q2.1, q2.2)) (b2i q2.1) q2.1 rfl dX7_takes_16 rfl
  · refine go_aload_n (pc := 17) C 0 dX7_takes_17 rfl ?_
    refine go_iconst (pc := 18) C dX7_takes_18 ki_0 ?_
    refine go_pI (pc := 19) C fpX7_60 dX7_takes_19 (fun h3 => ?_)
    refine go_aload_n (pc := 22) C 0 dX7_takes_22 rfl ?_
    refine go_gZ (pc := 23) C fdX7_38 dX7_takes_23 (fun x4 => ?_)
    refine go_ifZ_eq (pc := 26) C 38 dX7_takes_26 (by decide) (fun _ => ?_) (fun _ => ?_)
    · refine go_aload_n (pc := 29) C 0 dX7_takes_29 rfl ?_
      refine go_iload_n (pc := 30) C 1 dX7_takes_30 rfl ?_
      refine go_aload_n (pc := 31) C 2 dX7_takes_31 rfl ?_
      refine go_bind (fun q5 hq5 => ?_)
      refine go_callV (rest := []) (st' := [.int (b2i q5.1)]) (c' := 0) (s' := 0) (pc := 32) C O miX7_71 mvX7_takesThing [.int a1, .ref a2] rfl (mX7_takesThing hq5).1 (mX7_takesThing hq5).2 dX7_takes_32 ⟨by decide, by decide, by decide, by decide⟩ rfl (Nat.le_of_ble_eq_true rfl) rfl ⟨rfl, rfl⟩ ?_
      refine go_goto (pc := 35) C 44 dX7_takes_35 (by decide) ?_
      exact go_bret (w := wZh) (pc := 44) C E ((q5.1, q5.2)) (b2i q5.1) q5.1 rfl dX7_takes_44 rfl
    · refine go_aload_n (pc := 38) C 0 dX7_takes_38 rfl ?_
      refine go_iload_n (pc := 39) C 1 dX7_takes_39 rfl ?_
      refine go_aload_n (pc := 40) C 2 dX7_takes_40 rfl ?_
      refine go_bind (fun q6 hq6 => ?_)
      refine go_callV (rest := []) (st' := [.int (b2i q6.1)]) (c' := 0) (s' := 0) (pc := 41) C O miX7_74 mvX7_takesBinder [.int a1, .ref a2] rfl (mX7_takesBinder hq6).1 (mX7_takesBinder hq6).2 dX7_takes_41 ⟨by decide, by decide, by decide, by decide⟩ rfl (Nat.le_of_ble_eq_true rfl) rfl ⟨rfl, rfl⟩ ?_
      exact go_bret (w := wZh) (pc := 44) C E ((q6.1, q6.2)) (b2i q6.1) q6.1 rfl dX7_takes_44 rfl
theorem dX7_readRule_0 : decode cX7_readRule 0 = .ok (.iload_n 2, 1) := by decide +kernel
theorem dX7_readRule_1 : decode cX7_readRule 1 = .ok (.ifCond .ne 9, 3) := by decide +kernel
theorem dX7_readRule_4 : decode cX7_readRule 4 = .ok (.aload_n 3, 1) := by decide +kernel
theorem dX7_readRule_5 : decode cX7_readRule 5 = .ok (.invokevirtual 19, 3) := by decide +kernel
theorem dX7_readRule_8 : decode cX7_readRule 8 = .ok (.iconst (-1), 1) := by decide +kernel
theorem dX7_readRule_9 : decode cX7_readRule 9 = .ok (.ireturn, 1) := by decide +kernel
theorem dX7_readRule_10 : decode cX7_readRule 10 = .ok (.aload_n 0, 1) := by decide +kernel
theorem dX7_readRule_11 : decode cX7_readRule 11 = .ok (.aload_n 3, 1) := by decide +kernel
theorem dX7_readRule_12 : decode cX7_readRule 12 = .ok (.invokevirtual 24, 3) := by decide +kernel
theorem dX7_readRule_15 : decode cX7_readRule 15 = .ok (.iload_n 2, 1) := by decide +kernel
theorem dX7_readRule_16 : decode cX7_readRule 16 = .ok (.bipush 40, 2) := by decide +kernel
theorem dX7_readRule_18 : decode cX7_readRule 18 = .ok (.invokestatic 28, 3) := by decide +kernel
theorem dX7_readRule_21 : decode cX7_readRule 21 = .ok (.aload_n 1, 1) := by decide +kernel
theorem dX7_readRule_22 : decode cX7_readRule 22 = .ok (.arraylength, 1) := by decide +kernel
theorem dX7_readRule_23 : decode cX7_readRule 23 = .ok (.invokestatic 28, 3) := by decide +kernel
theorem dX7_readRule_26 : decode cX7_readRule 26 = .ok (.istore 4, 2) := by decide +kernel
theorem dX7_readRule_28 : decode cX7_readRule 28 = .ok (.iconst 0, 1) := by decide +kernel
theorem dX7_readRule_29 : decode cX7_readRule 29 = .ok (.istore 5, 2) := by decide +kernel
theorem dX7_readRule_31 : decode cX7_readRule 31 = .ok (.iload 5, 2) := by decide +kernel
theorem dX7_readRule_33 : decode cX7_readRule 33 = .ok (.iload 4, 2) := by decide +kernel
theorem dX7_readRule_35 : decode cX7_readRule 35 = .ok (.if_icmp .ge 24, 3) := by decide +kernel
theorem dX7_readRule_38 : decode cX7_readRule 38 = .ok (.aload_n 0, 1) := by decide +kernel
theorem dX7_readRule_39 : decode cX7_readRule 39 = .ok (.aload_n 1, 1) := by decide +kernel
theorem dX7_readRule_40 : decode cX7_readRule 40 = .ok (.iload 5, 2) := by decide +kernel
theorem dX7_readRule_42 : decode cX7_readRule 42 = .ok (.caload, 1) := by decide +kernel
theorem dX7_readRule_43 : decode cX7_readRule 43 = .ok (.aload_n 3, 1) := by decide +kernel
theorem dX7_readRule_44 : decode cX7_readRule 44 = .ok (.invokevirtual 34, 3) := by decide +kernel
theorem dX7_readRule_47 : decode cX7_readRule 47 = .ok (.ifCond .ne 6, 3) := by decide +kernel
theorem dX7_readRule_50 : decode cX7_readRule 50 = .ok (.iload 5, 2) := by decide +kernel
theorem dX7_readRule_52 : decode cX7_readRule 52 = .ok (.ireturn, 1) := by decide +kernel
theorem dX7_readRule_53 : decode cX7_readRule 53 = .ok (.iinc 5 1, 3) := by decide +kernel
theorem dX7_readRule_56 : decode cX7_readRule 56 = .ok (.goto (-25), 3) := by decide +kernel
theorem dX7_readRule_59 : decode cX7_readRule 59 = .ok (.iload_n 2, 1) := by decide +kernel
theorem dX7_readRule_60 : decode cX7_readRule 60 = .ok (.bipush 40, 2) := by decide +kernel
theorem dX7_readRule_62 : decode cX7_readRule 62 = .ok (.if_icmp .le 6, 3) := by decide +kernel
theorem dX7_readRule_65 : decode cX7_readRule 65 = .ok (.bipush 40, 2) := by decide +kernel
theorem dX7_readRule_67 : decode cX7_readRule 67 = .ok (.ireturn, 1) := by decide +kernel
theorem dX7_readRule_68 : decode cX7_readRule 68 = .ok (.aload_n 0, 1) := by decide +kernel
theorem dX7_readRule_69 : decode cX7_readRule 69 = .ok (.getfield 38, 3) := by decide +kernel
theorem dX7_readRule_72 : decode cX7_readRule 72 = .ok (.ifCond .ne 10, 3) := by decide +kernel
theorem dX7_readRule_75 : decode cX7_readRule 75 = .ok (.aload_n 0, 1) := by decide +kernel
theorem dX7_readRule_76 : decode cX7_readRule 76 = .ok (.getfield 42, 3) := by decide +kernel
theorem dX7_readRule_79 : decode cX7_readRule 79 = .ok (.ifCond .le 5, 3) := by decide +kernel
theorem dX7_readRule_82 : decode cX7_readRule 82 = .ok (.iload_n 2, 1) := by decide +kernel
theorem dX7_readRule_83 : decode cX7_readRule 83 = .ok (.ireturn, 1) := by decide +kernel
theorem dX7_readRule_84 : decode cX7_readRule 84 = .ok (.aload_n 0, 1) := by decide +kernel
theorem dX7_readRule_85 : decode cX7_readRule 85 = .ok (.iconst 1, 1) := by decide +kernel
theorem dX7_readRule_86 : decode cX7_readRule 86 = .ok (.aload_n 3, 1) := by decide +kernel
theorem dX7_readRule_87 : decode cX7_readRule 87 = .ok (.invokevirtual 46, 3) := by decide +kernel
theorem dX7_readRule_90 : decode cX7_readRule 90 = .ok (.iconst (-1), 1) := by decide +kernel
theorem dX7_readRule_91 : decode cX7_readRule 91 = .ok (.ireturn, 1) := by decide +kernel
def fX7_readRule_L31 (k59 : AH → Nat → Int32 → Nat → Option (Int32 × AH)) : Nat → AH → Nat → Nat → Int32 → Nat → Int32 → Int32 → Option (Int32 × AH)
  | 0, _, _, _, _, _, _, _ => none
  | n + 1, h, v0, v1, v2, v3, v4, v5 =>
    if v4 ≤ v5 then (
      k59 h v0 v2 v3
    ) else (
      (aI h 2 v1 v5).bind fun x1 =>
      (fX7_takes h v0 x1 v3).bind fun q2 =>
      if q2.1 = true then (
        letF (v5 + 1 : Int32) fun x3 =>
        fX7_readRule_L31 k59 n q2.2 v0 v1 v2 v3 v4 x3
      ) else (
        some ((v5, q2.2))
      )
    )
def fX7_readRule (h : AH) (a0 : Nat) (a1 : Nat) (a2 : Int32) (a3 : Nat) : Option (Int32 × AH) :=
  if hasC h 7 a0 = true then (
    if a2 = 0 then (
      (fX6_becomeNone h a3).bind fun q4 =>
      some (((-1), q4))
    ) else (
      (fX7_start h a0 a3).bind fun q5 =>
      (aL q5 2 a1).bind fun x6 =>
      letF (jmin (jmin a2 40) x6 : Int32) fun x7 =>
      fX7_readRule_L31
        (fun h11 x8 x9 x10 =>
          if x9 ≤ 40 then (
            (gZ h11 7 x8 5).bind fun x12 =>
            if x12 = true then (
              some ((x9, h11))
            ) else (
              (gI h11 7 x8 3).bind fun x13 =>
              if x13 ≤ 0 then (
                (fX7_releaseDownTo h11 x8 1 x10).bind fun q14 =>
                some (((-1), q14))
              ) else (
                some ((x9, h11))
              )
            )
          ) else (
            some ((40, h11))
          ))
        FU q5 a0 a1 a2 a3 x7 0
    )
  ) else none
set_option maxHeartbeats 4000000 in
theorem gX7_readRule_L31 {Y : YT} {X : XT} (C : CT Y X RX7 cX7_readRule 6) (O : RO X 6 0 0) {r : Int32 × AH} (E : RX Y X (some .int) (some (.int r.1)) r.2 0 0) {k59 : AH → Nat → Int32 → Nat → Option (Int32 × AH)} (hk59 : ∀ (h : AH) (v0 : Nat) (v2 : Int32) (v3 : Nat), GO Y X 6 r h 0 0 59 [(0, .ref v0), (2, .int v2), (3, .ref v3)] [] (k59 h v0 v2 v3)) : ∀ (n : Nat) (h : AH) (v0 : Nat) (v1 : Nat) (v2 : Int32) (v3 : Nat) (v4 : Int32) (v5 : Int32), GO Y X 6 r h 0 0 31 [(0, .ref v0), (1, .ref v1), (2, .int v2), (3, .ref v3), (4, .int v4), (5, .int v5)] [] (fX7_readRule_L31 k59 n h v0 v1 v2 v3 v4 v5) := by
  intro n
  induction n with
  | zero => intros; exact go_none _ _ _
  | succ n ih =>
    intro h v0 v1 v2 v3 v4 v5
    rw [fX7_readRule_L31]
    refine go_iload (pc := 31) C 5 dX7_readRule_31 rfl ?_
    refine go_iload (pc := 33) C 4 dX7_readRule_33 rfl ?_
    refine go_icmp_ge (pc := 35) C 59 dX7_readRule_35 (by decide) (fun _ => ?_) (fun _ => ?_)
    · refine go_sub (ls' := [(0, .ref v0), (2, .int v2), (3, .ref v3)]) [0, 2, 3] rfl ?_
      exact hk59 h v0 v2 v3
    · refine go_aload_n (pc := 38) C 0 dX7_readRule_38 rfl ?_
      refine go_aload_n (pc := 39) C 1 dX7_readRule_39 rfl ?_
      refine go_iload (pc := 40) C 5 dX7_readRule_40 rfl ?_
      refine go_cald (pc := 42) C dX7_readRule_42 (fun x1 => ?_)
      refine go_aload_n (pc := 43) C 3 dX7_readRule_43 rfl ?_
      refine go_bind (fun q2 hq2 => ?_)
      refine go_callV (rest := []) (st' := [.int (b2i q2.1)]) (c' := 0) (s' := 0) (pc := 44) C O miX7_34 mvX7_takes [.int x1, .ref v3] rfl (mX7_takes hq2).1 (mX7_takes hq2).2 dX7_readRule_44 ⟨by decide, by decide, by decide, by decide⟩ rfl (Nat.le_of_ble_eq_true rfl) rfl ⟨rfl, rfl⟩ ?_
      refine go_ifZ_ne (pc := 47) C 53 dX7_readRule_47 (by decide) (fun _ => ?_) (fun _ => ?_)
      · refine go_iincL (pc := 53) C 5 dX7_readRule_53 rfl ki_1 (by decide) (fun x3 => [(5, .int x3), (0, .ref v0), (1, .ref v1), (2, .int v2), (3, .ref v3), (4, .int v4)]) (fun _ => rfl) (fun x3 => ?_)
        refine go_goto (pc := 56) C 31 dX7_readRule_56 (by decide) ?_
        refine go_sub (ls' := [(0, .ref v0), (1, .ref v1), (2, .int v2), (3, .ref v3), (4, .int v4), (5, .int x3)]) [1, 2, 3, 4, 5, 0] rfl ?_
        exact ih q2.2 v0 v1 v2 v3 v4 x3
      · refine go_iload (pc := 50) C 5 dX7_readRule_50 rfl ?_
        exact go_iret (w := wIh) (pc := 52) C E ((v5, q2.2)) v5 dX7_readRule_52 rfl
set_option maxHeartbeats 4000000 in
theorem mX7_readRule {h : AH} {a0 : Nat} {a1 : Nat} {a2 : Int32} {a3 : Nat} {r : Int32 × AH} (hr : fX7_readRule h a0 a1 a2 a3 = some r) : hasC h 7 a0 = true ∧ MC yX7_readRule cX7_readRule 6 (some .int) 6 0 0 [.ref a0, .ref a1, .int a2, .ref a3] h (some (.int r.1)) r.2 := by
  unfold fX7_readRule at hr
  obtain ⟨hc, hr⟩ := if_some hr
  refine ⟨hc, mc_of (l0 := [(0, .ref a0), (1, .ref a1), (2, .int a2), (3, .ref a3)]) rfl pn_X7 (Nat.le_of_ble_eq_true rfl) (fun Y X C E O hnm => go_run hr ?_)⟩
  have C : CT Y X RX7 cX7_readRule 6 := C
  refine go_iload_n (pc := 0) C 2 dX7_readRule_0 rfl ?_
  refine go_if_ne (pc := 1) C 10 dX7_readRule_1 (by decide) (fun _ => ?_) (fun _ => ?_)
  · refine go_aload_n (pc := 4) C 3 dX7_readRule_4 rfl ?_
    refine go_bind (fun q4 hq4 => ?_)
    refine go_callV (rest := []) (st' := []) (c' := 0) (s' := 0) (pc := 5) C O miX7_19 mvX6_becomeNone [] rfl (mX6_becomeNone hq4).1 (mX6_becomeNone hq4).2 dX7_readRule_5 ⟨by decide, by decide, by decide, by decide⟩ rfl (Nat.le_of_ble_eq_true rfl) rfl ⟨rfl, rfl⟩ ?_
    refine go_iconst (pc := 8) C dX7_readRule_8 ki_m1 ?_
    exact go_iret (w := wIh) (pc := 9) C E (((-1), q4)) ((-1)) dX7_readRule_9 rfl
  · refine go_aload_n (pc := 10) C 0 dX7_readRule_10 rfl ?_
    refine go_aload_n (pc := 11) C 3 dX7_readRule_11 rfl ?_
    refine go_bind (fun q5 hq5 => ?_)
    refine go_callV (rest := []) (st' := []) (c' := 0) (s' := 0) (pc := 12) C O miX7_24 mvX7_start [.ref a3] rfl (mX7_start hq5).1 (mX7_start hq5).2 dX7_readRule_12 ⟨by decide, by decide, by decide, by decide⟩ rfl (Nat.le_of_ble_eq_true rfl) rfl ⟨rfl, rfl⟩ ?_
    refine go_iload_n (pc := 15) C 2 dX7_readRule_15 rfl ?_
    refine go_bipush (pc := 16) C dX7_readRule_16 kb_40 ?_
    refine go_mmin (pc := 18) C O w_481 w_441 w_102 w_442 ⟨by decide, by decide, by decide⟩ (Nat.le_of_ble_eq_true rfl) dX7_readRule_18 ?_
    refine go_aload_n (pc := 21) C 1 dX7_readRule_21 rfl ?_
    refine go_alen (pc := 22) C 2 (by decide) dX7_readRule_22 (fun x6 => ?_)
    refine go_mmin (pc := 23) C O w_481 w_441 w_102 w_442 ⟨by decide, by decide, by decide⟩ (Nat.le_of_ble_eq_true rfl) dX7_readRule_23 ?_
    refine go_istoreL (pc := 26) C dX7_readRule_26 (by decide) (fun x7 => [(4, .int x7), (0, .ref a0), (1, .ref a1), (2, .int a2), (3, .ref a3)]) (fun _ => rfl) (fun x7 => ?_)
    refine go_iconst (pc := 28) C dX7_readRule_28 ki_0 ?_
    refine go_istore (ls' := [(5, .int 0), (4, .int x7), (0, .ref a0), (1, .ref a1), (2, .int a2), (3, .ref a3)]) (pc := 29) C dX7_readRule_29 (by decide) rfl ?_
    refine go_sub (ls' := [(0, .ref a0), (1, .ref a1), (2, .int a2), (3, .ref a3), (4, .int x7), (5, .int 0)]) [2, 3, 4, 5, 1, 0] rfl ?_
    refine gX7_readRule_L31 C O E (fun h11 x8 x9 x10 => ?_) FU q5 a0 a1 a2 a3 x7 0
    · refine go_iload_n (pc := 59) C 1 dX7_readRule_59 rfl ?_
      refine go_bipush (pc := 60) C dX7_readRule_60 kb_40 ?_
      refine go_icmp_le (pc := 62) C 68 dX7_readRule_62 (by decide) (fun _ => ?_) (fun _ => ?_)
      · refine go_aload_n (pc := 68) C 0 dX7_readRule_68 rfl ?_
        refine go_gZ (pc := 69) C fdX7_38 dX7_readRule_69 (fun x12 => ?_)
        refine go_ifZ_ne (pc := 72) C 82 dX7_readRule_72 (by decide) (fun _ => ?_) (fun _ => ?_)
        · refine go_iload_n (pc := 82) C 1 dX7_readRule_82 rfl ?_
          exact go_iret (w := wIh) (pc := 83) C E ((x9, h11)) x9 dX7_readRule_83 rfl
        · refine go_aload_n (pc := 75) C 0 dX7_readRule_75 rfl ?_
          refine go_gI (pc := 76) C fdX7_42 dX7_readRule_76 (fun x13 => ?_)
          refine go_if_le (pc := 79) C 84 dX7_readRule_79 (by decide) (fun _ => ?_) (fun _ => ?_)
          · refine go_aload_n (pc := 84) C 0 dX7_readRule_84 rfl ?_
            refine go_iconst (pc := 85) C dX7_readRule_85 ki_1 ?_
            refine go_aload_n (pc := 86) C 2 dX7_readRule_86 rfl ?_
            refine go_bind (fun q14 hq14 => ?_)
            refine go_callV (rest := []) (st' := []) (c' := 0) (s' := 0) (pc := 87) C O miX7_46 mvX7_releaseDownTo [.int 1, .ref x10] rfl (mX7_releaseDownTo hq14).1 (mX7_releaseDownTo hq14).2 dX7_readRule_87 ⟨by decide, by decide, by decide, by decide⟩ rfl (Nat.le_of_ble_eq_true rfl) rfl ⟨rfl, rfl⟩ ?_
            refine go_iconst (pc := 90) C dX7_readRule_90 ki_m1 ?_
            exact go_iret (w := wIh) (pc := 91) C E (((-1), q14)) ((-1)) dX7_readRule_91 rfl
          · refine go_iload_n (pc := 82) C 1 dX7_readRule_82 rfl ?_
            exact go_iret (w := wIh) (pc := 83) C E ((x9, h11)) x9 dX7_readRule_83 rfl
      · refine go_bipush (pc := 65) C dX7_readRule_65 kb_40 ?_
        exact go_iret (w := wIh) (pc := 67) C E ((40, h11)) 40 dX7_readRule_67 rfl
theorem dX8_init_0 : decode cX8_init 0 = .ok (.aload_n 0, 1) := by decide +kernel
theorem dX8_init_1 : decode cX8_init 1 = .ok (.invokespecial 3, 3) := by decide +kernel
theorem dX8_init_4 : decode cX8_init 4 = .ok (.aload_n 0, 1) := by decide +kernel
theorem dX8_init_5 : decode cX8_init 5 = .ok (.bipush 10, 2) := by decide +kernel
theorem dX8_init_7 : decode cX8_init 7 = .ok (.newarray .int, 2) := by decide +kernel
theorem dX8_init_9 : decode cX8_init 9 = .ok (.putfield 11, 3) := by decide +kernel
theorem dX8_init_12 : decode cX8_init 12 = .ok (.aload_n 0, 1) := by decide +kernel
theorem dX8_init_13 : decode cX8_init 13 = .ok (.bipush 10, 2) := by decide +kernel
theorem dX8_init_15 : decode cX8_init 15 = .ok (.newarray .int, 2) := by decide +kernel
theorem dX8_init_17 : decode cX8_init 17 = .ok (.putfield 15, 3) := by decide +kernel
theorem dX8_init_20 : decode cX8_init 20 = .ok (.aload_n 0, 1) := by decide +kernel
theorem dX8_init_21 : decode cX8_init 21 = .ok (.bipush 10, 2) := by decide +kernel
theorem dX8_init_23 : decode cX8_init 23 = .ok (.newarray .boolean, 2) := by decide +kernel
theorem dX8_init_25 : decode cX8_init 25 = .ok (.putfield 18, 3) := by decide +kernel
theorem dX8_init_28 : decode cX8_init 28 = .ok (.aload_n 0, 1) := by decide +kernel
theorem dX8_init_29 : decode cX8_init 29 = .ok (.bipush 49, 2) := by decide +kernel
theorem dX8_init_31 : decode cX8_init 31 = .ok (.newarray .boolean, 2) := by decide +kernel
theorem dX8_init_33 : decode cX8_init 33 = .ok (.putfield 22, 3) := by decide +kernel
theorem dX8_init_36 : decode cX8_init 36 = .ok (.return_, 1) := by decide +kernel
def fX8_init (h : AH) (a0 : Nat) : Option (AH) :=
  letF (hnew h (.inl (0, newD 0 10))) fun h1 =>
  (pF h1 8 a0 0 (.ref h.2)).bind fun h2 =>
  letF (hnew h2 (.inl (0, newD 0 10))) fun h3 =>
  (pF h3 8 a0 1 (.ref h2.2)).bind fun h4 =>
  letF (hnew h4 (.inl (4, newD 4 10))) fun h5 =>
  (pF h5 8 a0 2 (.ref h4.2)).bind fun h6 =>
  letF (hnew h6 (.inl (4, newD 4 49))) fun h7 =>
  (pF h7 8 a0 3 (.ref h6.2)).bind fun h8 =>
  some h8
set_option maxHeartbeats 4000000 in
theorem mX8_init {h : AH} {a0 : Nat} {r : AH} (hr : fX8_init h a0 = some r) : MC yX8_init cX8_init 1 none 1 4 79 [.ref a0] h none r := by
  unfold fX8_init at hr
  refine mc_of (l0 := [(0, .ref a0)]) rfl pn_X8 (Nat.le_of_ble_eq_true rfl) (fun Y X C E O hnm => go_run hr ?_)
  have C : CT Y X RX8 cX8_init 1 := C
  refine go_aload_n (pc := 0) C 0 dX8_init_0 rfl ?_
  refine go_objInit (pc := 1) C O w_281 w_120 w_121 dX8_init_1 (by decide) (Nat.le_of_ble_eq_true rfl) ?_
  refine go_aload_n (pc := 4) C 0 dX8_init_4 rfl ?_
  refine go_bipush (pc := 5) C dX8_init_5 kb_10 ?_
  refine go_newa (atype := .int) (t := 0) (c' := 1) (s' := 10) (pc := 7) 10 C O ⟨rfl, by decide⟩ w_172 (by decide) (by decide) (by decide) dX8_init_7 ⟨by decide, by decide⟩ ⟨rfl, rfl⟩ (fun h1 => ?_)
  refine go_pRF (pc := 9) C hnm fpX8_11 dX8_init_9 (fun _ => rfl) (fun _ => rfl) (fun h2 => ?_)
  refine go_aload_n (pc := 12) C 0 dX8_init_12 rfl ?_
  refine go_bipush (pc := 13) C dX8_init_13 kb_10 ?_
  refine go_newa (atype := .int) (t := 0) (c' := 2) (s' := 20) (pc := 15) 10 C O ⟨rfl, by decide⟩ w_172 (by decide) (by decide) (by decide) dX8_init_15 ⟨by decide, by decide⟩ ⟨rfl, rfl⟩ (fun h3 => ?_)
  refine go_pRF (pc := 17) C hnm fpX8_15 dX8_init_17 (fun _ => rfl) (fun _ => rfl) (fun h4 => ?_)
  refine go_aload_n (pc := 20) C 0 dX8_init_20 rfl ?_
  refine go_bipush (pc := 21) C dX8_init_21 kb_10 ?_
  refine go_newa (atype := .boolean) (t := 4) (c' := 3) (s' := 30) (pc := 23) 10 C O ⟨rfl, by decide⟩ w_198 (by decide) (by decide) (by decide) dX8_init_23 ⟨by decide, by decide⟩ ⟨rfl, rfl⟩ (fun h5 => ?_)
  refine go_pRF (pc := 25) C hnm fpX8_18 dX8_init_25 (fun _ => rfl) (fun _ => rfl) (fun h6 => ?_)
  refine go_aload_n (pc := 28) C 0 dX8_init_28 rfl ?_
  refine go_bipush (pc := 29) C dX8_init_29 kb_49 ?_
  refine go_newa (atype := .boolean) (t := 4) (c' := 4) (s' := 79) (pc := 31) 49 C O ⟨rfl, by decide⟩ w_198 (by decide) (by decide) (by decide) dX8_init_31 ⟨by decide, by decide⟩ ⟨rfl, rfl⟩ (fun h7 => ?_)
  refine go_pRF (pc := 33) C hnm fpX8_22 dX8_init_33 (fun _ => rfl) (fun _ => rfl) (fun h8 => ?_)
  exact go_vret (w := wV) (pc := 36) C E h8 dX8_init_36 rfl
