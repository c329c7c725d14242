/-! walks, by program: X0_init X0_draw X1_init X1_numbersOf X1_hear X1_empty X1_total X9_hasObject X10_isPage X10_isIn X9_holds X9_valueOf X9_hasSpace X9_topOf X9_firstHolder X1_agrees X1_fitsAll X1_gather X1_gatheredObject X1_gatheredPage X1_agreeing X9_init X2_total X9_copyFrom X2_mark X2_keepMark X2_bringBack X2_store X2_fetchStored X3_init X3_worthOf J6_numberOfTrailingZeros_0f7a4 J13_numberOfTrailingZeros_95d88 X3_leastWorthNotReached X3_weigh X3_isLost X4_gain X4_isBest X5_init -/
theorem dX0_init_0 : decode cX0_init 0 = .ok (.aload_n 0, 1) := by decide +kernel
theorem dX0_init_1 : decode cX0_init 1 = .ok (.invokespecial 1, 3) := by decide +kernel
theorem dX0_init_4 : decode cX0_init 4 = .ok (.aload_n 0, 1) := by decide +kernel
theorem dX0_init_5 : decode cX0_init 5 = .ok (.iload_n 1, 1) := by decide +kernel
theorem dX0_init_6 : decode cX0_init 6 = .ok (.putfield 7, 3) := by decide +kernel
theorem dX0_init_9 : decode cX0_init 9 = .ok (.return_, 1) := by decide +kernel
def fX0_init (h : AH) (a0 : Nat) (a1 : Int32) : Option (AH) :=
  (pF h 0 a0 0 (.int a1)).bind fun h1 =>
  some h1
set_option maxHeartbeats 4000000 in
theorem mX0_init {h : AH} {a0 : Nat} {a1 : Int32} {r : AH} (hr : fX0_init h a0 a1 = some r) : MC yX0_init cX0_init 2 none 1 0 0 [.ref a0, .int a1] h none r := by
  unfold fX0_init at hr
  refine mc_of (l0 := [(0, .ref a0), (1, .int a1)]) rfl pn_X0 (Nat.le_of_ble_eq_true rfl) (fun Y X C E O hnm => go_run hr ?_)
  have C : CT Y X RX0 cX0_init 2 := C
  refine go_aload_n (pc := 0) C 0 dX0_init_0 rfl ?_
  refine go_objInit (pc := 1) C O w_1136 w_120 w_121 dX0_init_1 (by decide) (Nat.le_of_ble_eq_true rfl) ?_
  refine go_aload_n (pc := 4) C 0 dX0_init_4 rfl ?_
  refine go_iload_n (pc := 5) C 1 dX0_init_5 rfl ?_
  refine go_pI (pc := 6) C fpX0_7 dX0_init_6 (fun h1 => ?_)
  exact go_vret (w := wV) (pc := 9) C E h1 dX0_init_9 rfl
theorem dX0_draw_0 : decode cX0_draw 0 = .ok (.aload_n 0, 1) := by decide +kernel
theorem dX0_draw_1 : decode cX0_draw 1 = .ok (.aload_n 0, 1) := by decide +kernel
theorem dX0_draw_2 : decode cX0_draw 2 = .ok (.getfield 7, 3) := by decide +kernel
theorem dX0_draw_5 : decode cX0_draw 5 = .ok (.ldc 13, 2) := by decide +kernel
theorem dX0_draw_7 : decode cX0_draw 7 = .ok (.imul, 1) := by decide +kernel
theorem dX0_draw_8 : decode cX0_draw 8 = .ok (.sipush 12345, 3) := by decide +kernel
theorem dX0_draw_11 : decode cX0_draw 11 = .ok (.iadd, 1) := by decide +kernel
theorem dX0_draw_12 : decode cX0_draw 12 = .ok (.putfield 7, 3) := by decide +kernel
theorem dX0_draw_15 : decode cX0_draw 15 = .ok (.iload_n 1, 1) := by decide +kernel
theorem dX0_draw_16 : decode cX0_draw 16 = .ok (.ifCond .le 15, 3) := by decide +kernel
theorem dX0_draw_19 : decode cX0_draw 19 = .ok (.aload_n 0, 1) := by decide +kernel
theorem dX0_draw_20 : decode cX0_draw 20 = .ok (.getfield 7, 3) := by decide +kernel
theorem dX0_draw_23 : decode cX0_draw 23 = .ok (.bipush 16, 2) := by decide +kernel
theorem dX0_draw_25 : decode cX0_draw 25 = .ok (.iushr, 1) := by decide +kernel
theorem dX0_draw_26 : decode cX0_draw 26 = .ok (.iload_n 1, 1) := by decide +kernel
theorem dX0_draw_27 : decode cX0_draw 27 = .ok (.irem, 1) := by decide +kernel
theorem dX0_draw_28 : decode cX0_draw 28 = .ok (.goto 4, 3) := by decide +kernel
theorem dX0_draw_31 : decode cX0_draw 31 = .ok (.iconst 0, 1) := by decide +kernel
theorem dX0_draw_32 : decode cX0_draw 32 = .ok (.ireturn, 1) := by decide +kernel
def fX0_draw (h : AH) (a0 : Nat) (a1 : Int32) : Option (Int32 × AH) :=
  if hasC h 0 a0 = true then (
    (gI h 0 a0 0).bind fun x1 =>
    (pF h 0 a0 0 (.int ((x1 * 1103515245) + 12345))).bind fun h2 =>
    if a1 ≤ 0 then (
      some ((0, h2))
    ) else (
      (gI h2 0 a0 0).bind fun x3 =>
      (jrem (jush x3 16) a1).bind fun x4 =>
      some ((x4, h2))
    )
  ) else none
set_option maxHeartbeats 4000000 in
theorem mX0_draw {h : AH} {a0 : Nat} {a1 : Int32} {r : Int32 × AH} (hr : fX0_draw h a0 a1 = some r) : hasC h 0 a0 = true ∧ MC yX0_draw cX0_draw 2 (some .int) 1 0 0 [.ref a0, .int a1] h (some (.int r.1)) r.2 := by
  unfold fX0_draw at hr
  obtain ⟨hc, hr⟩ := if_some hr
  refine ⟨hc, mc_of (l0 := [(0, .ref a0), (1, .int a1)]) rfl pn_X0 (Nat.le_of_ble_eq_true rfl) (fun Y X C E O hnm => go_run hr ?_)⟩
  have C : CT Y X RX0 cX0_draw 2 := C
  refine go_aload_n (pc := 0) C 0 dX0_draw_0 rfl ?_
  refine go_aload_n (pc := 1) C 0 dX0_draw_1 rfl ?_
  refine go_gI (pc := 2) C fdX0_7 dX0_draw_2 (fun x1 => ?_)
  refine go_ldc (pc := 5) C w_1145 dX0_draw_5 ?_
  refine go_imul (pc := 7) C dX0_draw_7 ?_
  refine go_sipush (pc := 8) C dX0_draw_8 ks_12345 ?_
  refine go_iadd (pc := 11) C dX0_draw_11 ?_
  refine go_pI (pc := 12) C fpX0_7 dX0_draw_12 (fun h2 => ?_)
  refine go_iload_n (pc := 15) C 1 dX0_draw_15 rfl ?_
  refine go_if_le (pc := 16) C 31 dX0_draw_16 (by decide) (fun _ => ?_) (fun _ => ?_)
  · refine go_iconst (pc := 31) C dX0_draw_31 ki_0 ?_
    exact go_iret (w := wIh) (pc := 32) C E ((0, h2)) 0 dX0_draw_32 rfl
  · refine go_aload_n (pc := 19) C 0 dX0_draw_19 rfl ?_
    refine go_gI (pc := 20) C fdX0_7 dX0_draw_20 (fun x3 => ?_)
    refine go_bipush (pc := 23) C dX0_draw_23 kb_16 ?_
    refine go_iushr (pc := 25) C dX0_draw_25 ?_
    refine go_iload_n (pc := 26) C 1 dX0_draw_26 rfl ?_
    refine go_irem (pc := 27) C dX0_draw_27 (fun x4 => ?_)
    refine go_goto (pc := 28) C 32 dX0_draw_28 (by decide) ?_
    exact go_iret (w := wIh) (pc := 32) C E ((x4, h2)) x4 dX0_draw_32 rfl
theorem dX1_init_0 : decode cX1_init 0 = .ok (.aload_n 0, 1) := by decide +kernel
theorem dX1_init_1 : decode cX1_init 1 = .ok (.invokespecial 3, 3) := by decide +kernel
theorem dX1_init_4 : decode cX1_init 4 = .ok (.aload_n 0, 1) := by decide +kernel
theorem dX1_init_5 : decode cX1_init 5 = .ok (.bipush 12, 2) := by decide +kernel
theorem dX1_init_7 : decode cX1_init 7 = .ok (.newarray .int, 2) := by decide +kernel
theorem dX1_init_9 : decode cX1_init 9 = .ok (.putfield 11, 3) := by decide +kernel
theorem dX1_init_12 : decode cX1_init 12 = .ok (.aload_n 0, 1) := by decide +kernel
theorem dX1_init_13 : decode cX1_init 13 = .ok (.bipush 12, 2) := by decide +kernel
theorem dX1_init_15 : decode cX1_init 15 = .ok (.newarray .int, 2) := by decide +kernel
theorem dX1_init_17 : decode cX1_init 17 = .ok (.putfield 15, 3) := by decide +kernel
theorem dX1_init_20 : decode cX1_init 20 = .ok (.aload_n 0, 1) := by decide +kernel
theorem dX1_init_21 : decode cX1_init 21 = .ok (.bipush 64, 2) := by decide +kernel
theorem dX1_init_23 : decode cX1_init 23 = .ok (.newarray .int, 2) := by decide +kernel
theorem dX1_init_25 : decode cX1_init 25 = .ok (.putfield 18, 3) := by decide +kernel
theorem dX1_init_28 : decode cX1_init 28 = .ok (.return_, 1) := by decide +kernel
def fX1_init (h : AH) (a0 : Nat) : Option (AH) :=
  letF (hnew h (.inl (0, newD 0 12))) fun h1 =>
  (pF h1 1 a0 0 (.ref h.2)).bind fun h2 =>
  letF (hnew h2 (.inl (0, newD 0 12))) fun h3 =>
  (pF h3 1 a0 1 (.ref h2.2)).bind fun h4 =>
  letF (hnew h4 (.inl (0, newD 0 64))) fun h5 =>
  (pF h5 1 a0 2 (.ref h4.2)).bind fun h6 =>
  some h6
set_option maxHeartbeats 4000000 in
theorem mX1_init {h : AH} {a0 : Nat} {r : AH} (hr : fX1_init h a0 = some r) : MC yX1_init cX1_init 1 none 1 3 88 [.ref a0] h none r := by
  unfold fX1_init at hr
  refine mc_of (l0 := [(0, .ref a0)]) rfl pn_X1 (Nat.le_of_ble_eq_true rfl) (fun Y X C E O hnm => go_run hr ?_)
  have C : CT Y X RX1 cX1_init 1 := C
  refine go_aload_n (pc := 0) C 0 dX1_init_0 rfl ?_
  refine go_objInit (pc := 1) C O w_259 w_120 w_121 dX1_init_1 (by decide) (Nat.le_of_ble_eq_true rfl) ?_
  refine go_aload_n (pc := 4) C 0 dX1_init_4 rfl ?_
  refine go_bipush (pc := 5) C dX1_init_5 kb_12 ?_
  refine go_newa (atype := .int) (t := 0) (c' := 1) (s' := 12) (pc := 7) 12 C O ⟨rfl, by decide⟩ w_172 (by decide) (by decide) (by decide) dX1_init_7 ⟨by decide, by decide⟩ ⟨rfl, rfl⟩ (fun h1 => ?_)
  refine go_pRF (pc := 9) C hnm fpX1_11 dX1_init_9 (fun _ => rfl) (fun _ => rfl) (fun h2 => ?_)
  refine go_aload_n (pc := 12) C 0 dX1_init_12 rfl ?_
  refine go_bipush (pc := 13) C dX1_init_13 kb_12 ?_
  refine go_newa (atype := .int) (t := 0) (c' := 2) (s' := 24) (pc := 15) 12 C O ⟨rfl, by decide⟩ w_172 (by decide) (by decide) (by decide) dX1_init_15 ⟨by decide, by decide⟩ ⟨rfl, rfl⟩ (fun h3 => ?_)
  refine go_pRF (pc := 17) C hnm fpX1_15 dX1_init_17 (fun _ => rfl) (fun _ => rfl) (fun h4 => ?_)
  refine go_aload_n (pc := 20) C 0 dX1_init_20 rfl ?_
  refine go_bipush (pc := 21) C dX1_init_21 kb_64 ?_
  refine go_newa (atype := .int) (t := 0) (c' := 3) (s' := 88) (pc := 23) 64 C O ⟨rfl, by decide⟩ w_172 (by decide) (by decide) (by decide) dX1_init_23 ⟨by decide, by decide⟩ ⟨rfl, rfl⟩ (fun h5 => ?_)
  refine go_pRF (pc := 25) C hnm fpX1_18 dX1_init_25 (fun _ => rfl) (fun _ => rfl) (fun h6 => ?_)
  exact go_vret (w := wV) (pc := 28) C E h6 dX1_init_28 rfl
theorem dX1_numbersOf_0 : decode cX1_numbersOf 0 = .ok (.iload_n 0, 1) := by decide +kernel
theorem dX1_numbersOf_1 : decode cX1_numbersOf 1 = .ok (.tableswitch 43 0 3 #[31, 34, 37, 40], 31) := by decide +kernel
theorem dX1_numbersOf_32 : decode cX1_numbersOf 32 = .ok (.bipush 24, 2) := by decide +kernel
theorem dX1_numbersOf_34 : decode cX1_numbersOf 34 = .ok (.ireturn, 1) := by decide +kernel
theorem dX1_numbersOf_35 : decode cX1_numbersOf 35 = .ok (.bipush 8, 2) := by decide +kernel
theorem dX1_numbersOf_37 : decode cX1_numbersOf 37 = .ok (.ireturn, 1) := by decide +kernel
theorem dX1_numbersOf_38 : decode cX1_numbersOf 38 = .ok (.bipush 10, 2) := by decide +kernel
theorem dX1_numbersOf_40 : decode cX1_numbersOf 40 = .ok (.ireturn, 1) := by decide +kernel
theorem dX1_numbersOf_41 : decode cX1_numbersOf 41 = .ok (.bipush 6, 2) := by decide +kernel
theorem dX1_numbersOf_43 : decode cX1_numbersOf 43 = .ok (.ireturn, 1) := by decide +kernel
theorem dX1_numbersOf_44 : decode cX1_numbersOf 44 = .ok (.iconst 0, 1) := by decide +kernel
theorem dX1_numbersOf_45 : decode cX1_numbersOf 45 = .ok (.ireturn, 1) := by decide +kernel
def fX1_numbersOf (h : AH) (a0 : Int32) : Option (Int32) :=
  if a0 = 0 then (
    some 24
  ) else (
    if a0 = 1 then (
      some 8
    ) else (
      if a0 = 2 then (
        some 10
      ) else (
        if a0 = 3 then (
          some 6
        ) else (
          some 0))))
set_option maxHeartbeats 4000000 in
theorem mX1_numbersOf {h : AH} {a0 : Int32} {r : Int32} (hr : fX1_numbersOf h a0 = some r) : MC yX1_numbersOf cX1_numbersOf 1 (some .int) 1 0 0 [.int a0] h (some (.int r)) h := by
  unfold fX1_numbersOf at hr
  refine mc_of (l0 := [(0, .int a0)]) rfl pn_X1 (Nat.le_of_ble_eq_true rfl) (fun Y X C E O hnm => go_run hr ?_)
  have C : CT Y X RX1 cX1_numbersOf 1 := C
  refine go_iload_n (pc := 0) C 0 dX1_numbersOf_0 rfl ?_
  refine go_ite (fun hc1 => ?_) (fun hc1 => ?_)
  · refine go_tsw (pc := 1) C 32 0 hc1 dX1_numbersOf_1 (by decide) (by decide) rfl (by decide) ?_
    refine go_bipush (pc := 32) C dX1_numbersOf_32 kb_24 ?_
    exact go_iret (w := (wI h)) (pc := 34) C E 24 24 dX1_numbersOf_34 rfl
  · refine go_ite (fun hc2 => ?_) (fun hc2 => ?_)
    · refine go_tsw (pc := 1) C 35 1 hc2 dX1_numbersOf_1 (by decide) (by decide) rfl (by decide) ?_
      refine go_bipush (pc := 35) C dX1_numbersOf_35 kb_8 ?_
      exact go_iret (w := (wI h)) (pc := 37) C E 8 8 dX1_numbersOf_37 rfl
    · refine go_ite (fun hc3 => ?_) (fun hc3 => ?_)
      · refine go_tsw (pc := 1) C 38 2 hc3 dX1_numbersOf_1 (by decide) (by decide) rfl (by decide) ?_
        refine go_bipush (pc := 38) C dX1_numbersOf_38 kb_10 ?_
        exact go_iret (w := (wI h)) (pc := 40) C E 10 10 dX1_numbersOf_40 rfl
      · refine go_ite (fun hc4 => ?_) (fun hc4 => ?_)
        · refine go_tsw (pc := 1) C 41 3 hc4 dX1_numbersOf_1 (by decide) (by decide) rfl (by decide) ?_
          refine go_bipush (pc := 41) C dX1_numbersOf_41 kb_6 ?_
          exact go_iret (w := (wI h)) (pc := 43) C E 6 6 dX1_numbersOf_43 rfl
        · refine go_tsw_else (pc := 1) C 44 [0, 1, 2, 3] dX1_numbersOf_1 (fun v hv => by simp only [List.mem_cons, List.not_mem_nil, or_false] at hv; rcases hv with rfl | rfl | rfl | rfl <;> first | exact i32_ne hc1 (by decide) | exact i32_ne hc2 (by decide) | exact i32_ne hc3 (by decide) | exact i32_ne hc4 (by decide)) (by decide) (by decide) (by decide) ?_
          refine go_iconst (pc := 44) C dX1_numbersOf_44 ki_0 ?_
          exact go_iret (w := (wI h)) (pc := 45) C E 0 0 dX1_numbersOf_45 rfl
theorem dX1_hear_0 : decode cX1_hear 0 = .ok (.iload_n 2, 1) := by decide +kernel
theorem dX1_hear_1 : decode cX1_hear 1 = .ok (.ifCond .lt 27, 3) := by decide +kernel
theorem dX1_hear_4 : decode cX1_hear 4 = .ok (.iload_n 2, 1) := by decide +kernel
theorem dX1_hear_5 : decode cX1_hear 5 = .ok (.iload_n 1, 1) := by decide +kernel
theorem dX1_hear_6 : decode cX1_hear 6 = .ok (.invokestatic 21, 3) := by decide +kernel
theorem dX1_hear_9 : decode cX1_hear 9 = .ok (.if_icmp .ge 19, 3) := by decide +kernel
theorem dX1_hear_12 : decode cX1_hear 12 = .ok (.aload_n 0, 1) := by decide +kernel
theorem dX1_hear_13 : decode cX1_hear 13 = .ok (.getfield 25, 3) := by decide +kernel
theorem dX1_hear_16 : decode cX1_hear 16 = .ok (.ifCond .lt 12, 3) := by decide +kernel
theorem dX1_hear_19 : decode cX1_hear 19 = .ok (.aload_n 0, 1) := by decide +kernel
theorem dX1_hear_20 : decode cX1_hear 20 = .ok (.getfield 25, 3) := by decide +kernel
theorem dX1_hear_23 : decode cX1_hear 23 = .ok (.bipush 12, 2) := by decide +kernel
theorem dX1_hear_25 : decode cX1_hear 25 = .ok (.if_icmp .lt 5, 3) := by decide +kernel
theorem dX1_hear_28 : decode cX1_hear 28 = .ok (.iconst (-1), 1) := by decide +kernel
theorem dX1_hear_29 : decode cX1_hear 29 = .ok (.ireturn, 1) := by decide +kernel
theorem dX1_hear_30 : decode cX1_hear 30 = .ok (.aload_n 0, 1) := by decide +kernel
theorem dX1_hear_31 : decode cX1_hear 31 = .ok (.getfield 11, 3) := by decide +kernel
theorem dX1_hear_34 : decode cX1_hear 34 = .ok (.aload_n 0, 1) := by decide +kernel
theorem dX1_hear_35 : decode cX1_hear 35 = .ok (.getfield 25, 3) := by decide +kernel
theorem dX1_hear_38 : decode cX1_hear 38 = .ok (.iload_n 1, 1) := by decide +kernel
theorem dX1_hear_39 : decode cX1_hear 39 = .ok (.iastore, 1) := by decide +kernel
theorem dX1_hear_40 : decode cX1_hear 40 = .ok (.aload_n 0, 1) := by decide +kernel
theorem dX1_hear_41 : decode cX1_hear 41 = .ok (.getfield 15, 3) := by decide +kernel
theorem dX1_hear_44 : decode cX1_hear 44 = .ok (.aload_n 0, 1) := by decide +kernel
theorem dX1_hear_45 : decode cX1_hear 45 = .ok (.getfield 25, 3) := by decide +kernel
theorem dX1_hear_48 : decode cX1_hear 48 = .ok (.iload_n 2, 1) := by decide +kernel
theorem dX1_hear_49 : decode cX1_hear 49 = .ok (.iastore, 1) := by decide +kernel
theorem dX1_hear_50 : decode cX1_hear 50 = .ok (.aload_n 0, 1) := by decide +kernel
theorem dX1_hear_51 : decode cX1_hear 51 = .ok (.dup, 1) := by decide +kernel
theorem dX1_hear_52 : decode cX1_hear 52 = .ok (.getfield 25, 3) := by decide +kernel
theorem dX1_hear_55 : decode cX1_hear 55 = .ok (.iconst 1, 1) := by decide +kernel
theorem dX1_hear_56 : decode cX1_hear 56 = .ok (.iadd, 1) := by decide +kernel
theorem dX1_hear_57 : decode cX1_hear 57 = .ok (.putfield 25, 3) := by decide +kernel
theorem dX1_hear_60 : decode cX1_hear 60 = .ok (.aload_n 0, 1) := by decide +kernel
theorem dX1_hear_61 : decode cX1_hear 61 = .ok (.getfield 25, 3) := by decide +kernel
theorem dX1_hear_64 : decode cX1_hear 64 = .ok (.ireturn, 1) := by decide +kernel
def fX1_hear (h : AH) (a0 : Nat) (a1 : Int32) (a2 : Int32) : Option (Int32 × AH) :=
  if hasC h 1 a0 = true then (
    if a2 < 0 then (
      some (((-1), h))
    ) else (
      (fX1_numbersOf h a1).bind fun q1 =>
      if q1 ≤ a2 then (
        some (((-1), h))
      ) else (
        (gI h 1 a0 3).bind fun x2 =>
        if x2 < 0 then (
          some (((-1), h))
        ) else (
          (gI h 1 a0 3).bind fun x3 =>
          if x3 < 12 then (
            (gR h 1 a0 0).bind fun x4 =>
            (gI h 1 a0 3).bind fun x5 =>
            (sI h 0 x4 x5 a1).bind fun h6 =>
            (gR h6 1 a0 1).bind fun x7 =>
            (gI h6 1 a0 3).bind fun x8 =>
            (sI h6 0 x7 x8 a2).bind fun h9 =>
            (gI h9 1 a0 3).bind fun x10 =>
            (pF h9 1 a0 3 (.int (x10 + 1))).bind fun h11 =>
            (gI h11 1 a0 3).bind fun x12 =>
            some ((x12, h11))
          ) else (
            some (((-1), h))
          )
        )
      )
    )
  ) else none
set_option maxHeartbeats 4000000 in
theorem mX1_hear {h : AH} {a0 : Nat} {a1 : Int32} {a2 : Int32} {r : Int32 × AH} (hr : fX1_hear h a0 a1 a2 = some r) : hasC h 1 a0 = true ∧ MC yX1_hear cX1_hear 3 (some .int) 2 0 0 [.ref a0, .int a1, .int a2] h (some (.int r.1)) r.2 := by
  unfold fX1_hear at hr
  obtain ⟨hc, hr⟩ := if_some hr
  refine ⟨hc, mc_of (l0 := [(0, .ref a0), (1, .int a1), (2, .int a2)]) rfl pn_X1 (Nat.le_of_ble_eq_true rfl) (fun Y X C E O hnm => go_run hr ?_)⟩
  have C : CT Y X RX1 cX1_hear 3 := C
  refine go_iload_n (pc := 0) C 2 dX1_hear_0 rfl ?_
  refine go_if_lt (pc := 1) C 28 dX1_hear_1 (by decide) (fun _ => ?_) (fun _ => ?_)
  · refine go_iconst (pc := 28) C dX1_hear_28 ki_m1 ?_
    exact go_iret (w := wIh) (pc := 29) C E (((-1), h)) ((-1)) dX1_hear_29 rfl
  · refine go_iload_n (pc := 4) C 2 dX1_hear_4 rfl ?_
    refine go_iload_n (pc := 5) C 1 dX1_hear_5 rfl ?_
    refine go_bind (fun q1 hq1 => ?_)
    refine go_callS (rest := [.int a2]) (st' := [.int q1, .int a2]) (c' := 0) (s' := 0) (pc := 6) C O miX1_21 w_999 [.int a1] rfl (mX1_numbersOf hq1) dX1_hear_6 ⟨by decide, by decide, by decide, by decide⟩ rfl (Nat.le_of_ble_eq_true rfl) rfl ⟨rfl, rfl⟩ ?_
    refine go_icmp_ge (pc := 9) C 28 dX1_hear_9 (by decide) (fun _ => ?_) (fun _ => ?_)
    · refine go_iconst (pc := 28) C dX1_hear_28 ki_m1 ?_
      exact go_iret (w := wIh) (pc := 29) C E (((-1), h)) ((-1)) dX1_hear_29 rfl
    · refine go_aload_n (pc := 12) C 0 dX1_hear_12 rfl ?_
      refine go_gI (pc := 13) C fdX1_25 dX1_hear_13 (fun x2 => ?_)
      refine go_if_lt (pc := 16) C 28 dX1_hear_16 (by decide) (fun _ => ?_) (fun _ => ?_)
      · refine go_iconst (pc := 28) C dX1_hear_28 ki_m1 ?_
        exact go_iret (w := wIh) (pc := 29) C E (((-1), h)) ((-1)) dX1_hear_29 rfl
      · refine go_aload_n (pc := 19) C 0 dX1_hear_19 rfl ?_
        refine go_gI (pc := 20) C fdX1_25 dX1_hear_20 (fun x3 => ?_)
        refine go_bipush (pc := 23) C dX1_hear_23 kb_12 ?_
        refine go_icmp_lt (pc := 25) C 30 dX1_hear_25 (by decide) (fun _ => ?_) (fun _ => ?_)
        · refine go_aload_n (pc := 30) C 0 dX1_hear_30 rfl ?_
          refine go_gR (pc := 31) C fdX1_11 dX1_hear_31 (fun x4 => ?_)
          refine go_aload_n (pc := 34) C 0 dX1_hear_34 rfl ?_
          refine go_gI (pc := 35) C fdX1_25 dX1_hear_35 (fun x5 => ?_)
          refine go_iload_n (pc := 38) C 1 dX1_hear_38 rfl ?_
          refine go_iast (pc := 39) C dX1_hear_39 (fun h6 => ?_)
          refine go_aload_n (pc := 40) C 0 dX1_hear_40 rfl ?_
          refine go_gR (pc := 41) C fdX1_15 dX1_hear_41 (fun x7 => ?_)
          refine go_aload_n (pc := 44) C 0 dX1_hear_44 rfl ?_
          refine go_gI (pc := 45) C fdX1_25 dX1_hear_45 (fun x8 => ?_)
          refine go_iload_n (pc := 48) C 2 dX1_hear_48 rfl ?_
          refine go_iast (pc := 49) C dX1_hear_49 (fun h9 => ?_)
          refine go_aload_n (pc := 50) C 0 dX1_hear_50 rfl ?_
          refine go_dup (pc := 51) C dX1_hear_51 rfl ?_
          refine go_gI (pc := 52) C fdX1_25 dX1_hear_52 (fun x10 => ?_)
          refine go_iconst (pc := 55) C dX1_hear_55 ki_1 ?_
          refine go_iadd (pc := 56) C dX1_hear_56 ?_
          refine go_pI (pc := 57) C fpX1_25 dX1_hear_57 (fun h11 => ?_)
          refine go_aload_n (pc := 60) C 0 dX1_hear_60 rfl ?_
          refine go_gI (pc := 61) C fdX1_25 dX1_hear_61 (fun x12 => ?_)
          exact go_iret (w := wIh) (pc := 64) C E ((x12, h11)) x12 dX1_hear_64 rfl
        · refine go_iconst (pc := 28) C dX1_hear_28 ki_m1 ?_
          exact go_iret (w := wIh) (pc := 29) C E (((-1), h)) ((-1)) dX1_hear_29 rfl
theorem dX1_empty_0 : decode cX1_empty 0 = .ok (.aload_n 0, 1) := by decide +kernel
theorem dX1_empty_1 : decode cX1_empty 1 = .ok (.getfield 25, 3) := by decide +kernel
theorem dX1_empty_4 : decode cX1_empty 4 = .ok (.istore_n 1, 1) := by decide +kernel
theorem dX1_empty_5 : decode cX1_empty 5 = .ok (.aload_n 0, 1) := by decide +kernel
theorem dX1_empty_6 : decode cX1_empty 6 = .ok (.iconst 0, 1) := by decide +kernel
theorem dX1_empty_7 : decode cX1_empty 7 = .ok (.putfield 25, 3) := by decide +kernel
theorem dX1_empty_10 : decode cX1_empty 10 = .ok (.iload_n 1, 1) := by decide +kernel
theorem dX1_empty_11 : decode cX1_empty 11 = .ok (.ireturn, 1) := by decide +kernel
def fX1_empty (h : AH) (a0 : Nat) : Option (Int32 × AH) :=
  if hasC h 1 a0 = true then (
    (gI h 1 a0 3).bind fun x1 =>
    (pF h 1 a0 3 (.int 0)).bind fun h2 =>
    some ((x1, h2))
  ) else none
set_option maxHeartbeats 4000000 in
theorem mX1_empty {h : AH} {a0 : Nat} {r : Int32 × AH} (hr : fX1_empty h a0 = some r) : hasC h 1 a0 = true ∧ MC yX1_empty cX1_empty 2 (some .int) 1 0 0 [.ref a0] h (some (.int r.1)) r.2 := by
  unfold fX1_empty at hr
  obtain ⟨hc, hr⟩ := if_some hr
  refine ⟨hc, mc_of (l0 := [(0, .ref a0)]) rfl pn_X1 (Nat.le_of_ble_eq_true rfl) (fun Y X C E O hnm => go_run hr ?_)⟩
  have C : CT Y X RX1 cX1_empty 2 := C
  refine go_aload_n (pc := 0) C 0 dX1_empty_0 rfl ?_
  refine go_gI (pc := 1) C fdX1_25 dX1_empty_1 (fun x1 => ?_)
  refine go_istore_n (ls' := [(1, .int x1), (0, .ref a0)]) (pc := 4) C dX1_empty_4 (by decide) rfl ?_
  refine go_aload_n (pc := 5) C 1 dX1_empty_5 rfl ?_
  refine go_iconst (pc := 6) C dX1_empty_6 ki_0 ?_
  refine go_pI (pc := 7) C fpX1_25 dX1_empty_7 (fun h2 => ?_)
  refine go_iload_n (pc := 10) C 0 dX1_empty_10 rfl ?_
  exact go_iret (w := wIh) (pc := 11) C E ((x1, h2)) x1 dX1_empty_11 rfl
theorem dX1_total_0 : decode cX1_total 0 = .ok (.aload_n 0, 1) := by decide +kernel
theorem dX1_total_1 : decode cX1_total 1 = .ok (.getfield 25, 3) := by decide +kernel
theorem dX1_total_4 : decode cX1_total 4 = .ok (.ireturn, 1) := by decide +kernel
def fX1_total (h : AH) (a0 : Nat) : Option (Int32) :=
  if hasC h 1 a0 = true then (
    (gI h 1 a0 3).bind fun x1 =>
    some x1
  ) else none
set_option maxHeartbeats 4000000 in
theorem mX1_total {h : AH} {a0 : Nat} {r : Int32} (hr : fX1_total h a0 = some r) : hasC h 1 a0 = true ∧ MC yX1_total cX1_total 1 (some .int) 1 0 0 [.ref a0] h (some (.int r)) h := by
  unfold fX1_total at hr
  obtain ⟨hc, hr⟩ := if_some hr
  refine ⟨hc, mc_of (l0 := [(0, .ref a0)]) rfl pn_X1 (Nat.le_of_ble_eq_true rfl) (fun Y X C E O hnm => go_run hr ?_)⟩
  have C : CT Y X RX1 cX1_total 1 := C
  refine go_aload_n (pc := 0) C 0 dX1_total_0 rfl ?_
  refine go_gI (pc := 1) C fdX1_25 dX1_total_1 (fun x1 => ?_)
  exact go_iret (w := (wI h)) (pc := 4) C E x1 x1 dX1_total_4 rfl
theorem dX9_hasObject_0 : decode cX9_hasObject 0 = .ok (.iload_n 1, 1) := by decide +kernel
theorem dX9_hasObject_1 : decode cX9_hasObject 1 = .ok (.ifCond .lt 25, 3) := by decide +kernel
theorem dX9_hasObject_4 : decode cX9_hasObject 4 = .ok (.iload_n 1, 1) := by decide +kernel
theorem dX9_hasObject_5 : decode cX9_hasObject 5 = .ok (.bipush 24, 2) := by decide +kernel
theorem dX9_hasObject_7 : decode cX9_hasObject 7 = .ok (.if_icmp .ge 19, 3) := by decide +kernel
theorem dX9_hasObject_10 : decode cX9_hasObject 10 = .ok (.aload_n 0, 1) := by decide +kernel
theorem dX9_hasObject_11 : decode cX9_hasObject 11 = .ok (.getfield 43, 3) := by decide +kernel
theorem dX9_hasObject_14 : decode cX9_hasObject 14 = .ok (.iload_n 1, 1) := by decide +kernel
theorem dX9_hasObject_15 : decode cX9_hasObject 15 = .ok (.iushr, 1) := by decide +kernel
theorem dX9_hasObject_16 : decode cX9_hasObject 16 = .ok (.iconst 1, 1) := by decide +kernel
theorem dX9_hasObject_17 : decode cX9_hasObject 17 = .ok (.iand, 1) := by decide +kernel
theorem dX9_hasObject_18 : decode cX9_hasObject 18 = .ok (.iconst 1, 1) := by decide +kernel
theorem dX9_hasObject_19 : decode cX9_hasObject 19 = .ok (.if_icmp .ne 7, 3) := by decide +kernel
theorem dX9_hasObject_22 : decode cX9_hasObject 22 = .ok (.iconst 1, 1) := by decide +kernel
theorem dX9_hasObject_23 : decode cX9_hasObject 23 = .ok (.goto 4, 3) := by decide +kernel
theorem dX9_hasObject_26 : decode cX9_hasObject 26 = .ok (.iconst 0, 1) := by decide +kernel
theorem dX9_hasObject_27 : decode cX9_hasObject 27 = .ok (.ireturn, 1) := by decide +kernel
def fX9_hasObject (h : AH) (a0 : Nat) (a1 : Int32) : Option (Bool) :=
  if hasC h 9 a0 = true then (
    if a1 < 0 then (
      some false
    ) else (
      if 24 ≤ a1 then (
        some false
      ) else (
        (gI h 9 a0 2).bind fun x1 =>
        if ((jush x1 a1) &&& 1) = 1 then (
          some true
        ) else (
          some false
        )
      )
    )
  ) else none
set_option maxHeartbeats 4000000 in
theorem mX9_hasObject {h : AH} {a0 : Nat} {a1 : Int32} {r : Bool} (hr : fX9_hasObject h a0 a1 = some r) : hasC h 9 a0 = true ∧ MC yX9_hasObject cX9_hasObject 2 (some .boolean) 1 0 0 [.ref a0, .int a1] h (some (.int (b2i r))) h := by
  unfold fX9_hasObject at hr
  obtain ⟨hc, hr⟩ := if_some hr
  refine ⟨hc, mc_of (l0 := [(0, .ref a0), (1, .int a1)]) rfl pn_X9 (Nat.le_of_ble_eq_true rfl) (fun Y X C E O hnm => go_run hr ?_)⟩
  have C : CT Y X RX9 cX9_hasObject 2 := C
  refine go_iload_n (pc := 0) C 1 dX9_hasObject_0 rfl ?_
  refine go_if_lt (pc := 1) C 26 dX9_hasObject_1 (by decide) (fun _ => ?_) (fun _ => ?_)
  · refine go_iconst (pc := 26) C dX9_hasObject_26 ki_0 ?_
    exact go_bret (w := (wZ h)) (pc := 27) C E false 0 false rfl dX9_hasObject_27 rfl
  · refine go_iload_n (pc := 4) C 1 dX9_hasObject_4 rfl ?_
    refine go_bipush (pc := 5) C dX9_hasObject_5 kb_24 ?_
    refine go_icmp_ge (pc := 7) C 26 dX9_hasObject_7 (by decide) (fun _ => ?_) (fun _ => ?_)
    · refine go_iconst (pc := 26) C dX9_hasObject_26 ki_0 ?_
      exact go_bret (w := (wZ h)) (pc := 27) C E false 0 false rfl dX9_hasObject_27 rfl
    · refine go_aload_n (pc := 10) C 0 dX9_hasObject_10 rfl ?_
      refine go_gI (pc := 11) C fdX9_43 dX9_hasObject_11 (fun x1 => ?_)
      refine go_iload_n (pc := 14) C 1 dX9_hasObject_14 rfl ?_
      refine go_iushr (pc := 15) C dX9_hasObject_15 ?_
      refine go_iconst (pc := 16) C dX9_hasObject_16 ki_1 ?_
      refine go_iand (pc := 17) C dX9_hasObject_17 ?_
      refine go_iconst (pc := 18) C dX9_hasObject_18 ki_1 ?_
      refine go_icmp_ne (pc := 19) C 26 dX9_hasObject_19 (by decide) (fun _ => ?_) (fun _ => ?_)
      · refine go_iconst (pc := 22) C dX9_hasObject_22 ki_1 ?_
        refine go_goto (pc := 23) C 27 dX9_hasObject_23 (by decide) ?_
        exact go_bret (w := (wZ h)) (pc := 27) C E true 1 true rfl dX9_hasObject_27 rfl
      · refine go_iconst (pc := 26) C dX9_hasObject_26 ki_0 ?_
        exact go_bret (w := (wZ h)) (pc := 27) C E false 0 false rfl dX9_hasObject_27 rfl
theorem dX10_isPage_0 : decode cX10_isPage 0 = .ok (.iload_n 0, 1) := by decide +kernel
theorem dX10_isPage_1 : decode cX10_isPage 1 = .ok (.ifCond .lt 13, 3) := by decide +kernel
theorem dX10_isPage_4 : decode cX10_isPage 4 = .ok (.iload_n 0, 1) := by decide +kernel
theorem dX10_isPage_5 : decode cX10_isPage 5 = .ok (.bipush 8, 2) := by decide +kernel
theorem dX10_isPage_7 : decode cX10_isPage 7 = .ok (.if_icmp .ge 7, 3) := by decide +kernel
theorem dX10_isPage_10 : decode cX10_isPage 10 = .ok (.iconst 1, 1) := by decide +kernel
theorem dX10_isPage_11 : decode cX10_isPage 11 = .ok (.goto 4, 3) := by decide +kernel
theorem dX10_isPage_14 : decode cX10_isPage 14 = .ok (.iconst 0, 1) := by decide +kernel
theorem dX10_isPage_15 : decode cX10_isPage 15 = .ok (.ireturn, 1) := by decide +kernel
def fX10_isPage (h : AH) (a0 : Int32) : Option (Bool) :=
  if a0 < 0 then (
    some false
  ) else (
    if 8 ≤ a0 then (
      some false
    ) else (
      some true
    )
  )
set_option maxHeartbeats 4000000 in
theorem mX10_isPage {h : AH} {a0 : Int32} {r : Bool} (hr : fX10_isPage h a0 = some r) : MC yX10_isPage cX10_isPage 1 (some .boolean) 1 0 0 [.int a0] h (some (.int (b2i r))) h := by
  unfold fX10_isPage at hr
  refine mc_of (l0 := [(0, .int a0)]) rfl pn_X10 (Nat.le_of_ble_eq_true rfl) (fun Y X C E O hnm => go_run hr ?_)
  have C : CT Y X RX10 cX10_isPage 1 := C
  refine go_iload_n (pc := 0) C 0 dX10_isPage_0 rfl ?_
  refine go_if_lt (pc := 1) C 14 dX10_isPage_1 (by decide) (fun _ => ?_) (fun _ => ?_)
  · refine go_iconst (pc := 14) C dX10_isPage_14 ki_0 ?_
    exact go_bret (w := (wZ h)) (pc := 15) C E false 0 false rfl dX10_isPage_15 rfl
  · refine go_iload_n (pc := 4) C 0 dX10_isPage_4 rfl ?_
    refine go_bipush (pc := 5) C dX10_isPage_5 kb_8 ?_
    refine go_icmp_ge (pc := 7) C 14 dX10_isPage_7 (by decide) (fun _ => ?_) (fun _ => ?_)
    · refine go_iconst (pc := 14) C dX10_isPage_14 ki_0 ?_
      exact go_bret (w := (wZ h)) (pc := 15) C E false 0 false rfl dX10_isPage_15 rfl
    · refine go_iconst (pc := 10) C dX10_isPage_10 ki_1 ?_
      refine go_goto (pc := 11) C 15 dX10_isPage_11 (by decide) ?_
      exact go_bret (w := (wZ h)) (pc := 15) C E true 1 true rfl dX10_isPage_15 rfl
theorem dX10_isIn_0 : decode cX10_isIn 0 = .ok (.iload_n 1, 1) := by decide +kernel
theorem dX10_isIn_1 : decode cX10_isIn 1 = .ok (.ifCond .lt 22, 3) := by decide +kernel
theorem dX10_isIn_4 : decode cX10_isIn 4 = .ok (.iload_n 1, 1) := by decide +kernel
theorem dX10_isIn_5 : decode cX10_isIn 5 = .ok (.bipush 32, 2) := by decide +kernel
theorem dX10_isIn_7 : decode cX10_isIn 7 = .ok (.if_icmp .ge 16, 3) := by decide +kernel
theorem dX10_isIn_10 : decode cX10_isIn 10 = .ok (.iload_n 0, 1) := by decide +kernel
theorem dX10_isIn_11 : decode cX10_isIn 11 = .ok (.iload_n 1, 1) := by decide +kernel
theorem dX10_isIn_12 : decode cX10_isIn 12 = .ok (.iushr, 1) := by decide +kernel
theorem dX10_isIn_13 : decode cX10_isIn 13 = .ok (.iconst 1, 1) := by decide +kernel
theorem dX10_isIn_14 : decode cX10_isIn 14 = .ok (.iand, 1) := by decide +kernel
theorem dX10_isIn_15 : decode cX10_isIn 15 = .ok (.iconst 1, 1) := by decide +kernel
theorem dX10_isIn_16 : decode cX10_isIn 16 = .ok (.if_icmp .ne 7, 3) := by decide +kernel
theorem dX10_isIn_19 : decode cX10_isIn 19 = .ok (.iconst 1, 1) := by decide +kernel
theorem dX10_isIn_20 : decode cX10_isIn 20 = .ok (.goto 4, 3) := by decide +kernel
theorem dX10_isIn_23 : decode cX10_isIn 23 = .ok (.iconst 0, 1) := by decide +kernel
theorem dX10_isIn_24 : decode cX10_isIn 24 = .ok (.ireturn, 1) := by decide +kernel
def fX10_isIn (h : AH) (a0 : Int32) (a1 : Int32) : Option (Bool) :=
  if a1 < 0 then (
    some false
  ) else (
    if 32 ≤ a1 then (
      some false
    ) else (
      if ((jush a0 a1) &&& 1) = 1 then (
        some true
      ) else (
        some false
      )
    )
  )
set_option maxHeartbeats 4000000 in
theorem mX10_isIn {h : AH} {a0 : Int32} {a1 : Int32} {r : Bool} (hr : fX10_isIn h a0 a1 = some r) : MC yX10_isIn cX10_isIn 2 (some .boolean) 1 0 0 [.int a0, .int a1] h (some (.int (b2i r))) h := by
  unfold fX10_isIn at hr
  refine mc_of (l0 := [(0, .int a0), (1, .int a1)]) rfl pn_X10 (Nat.le_of_ble_eq_true rfl) (fun Y X C E O hnm => go_run hr ?_)
  have C : CT Y X RX10 cX10_isIn 2 := C
  refine go_iload_n (pc := 0) C 1 dX10_isIn_0 rfl ?_
  refine go_if_lt (pc := 1) C 23 dX10_isIn_1 (by decide) (fun _ => ?_) (fun _ => ?_)
  · refine go_iconst (pc := 23) C dX10_isIn_23 ki_0 ?_
    exact go_bret (w := (wZ h)) (pc := 24) C E false 0 false rfl dX10_isIn_24 rfl
  · refine go_iload_n (pc := 4) C 1 dX10_isIn_4 rfl ?_
    refine go_bipush (pc := 5) C dX10_isIn_5 kb_32 ?_
    refine go_icmp_ge (pc := 7) C 23 dX10_isIn_7 (by decide) (fun _ => ?_) (fun _ => ?_)
    · refine go_iconst (pc := 23) C dX10_isIn_23 ki_0 ?_
      exact go_bret (w := (wZ h)) (pc := 24) C E false 0 false rfl dX10_isIn_24 rfl
    · refine go_iload_n (pc := 10) C 0 dX10_isIn_10 rfl ?_
      refine go_iload_n (pc := 11) C 1 dX10_isIn_11 rfl ?_
      refine go_iushr (pc := 12) C dX10_isIn_12 ?_
      refine go_iconst (pc := 13) C dX10_isIn_13 ki_1 ?_
      refine go_iand (pc := 14) C dX10_isIn_14 ?_
      refine go_iconst (pc := 15) C dX10_isIn_15 ki_1 ?_
      refine go_icmp_ne (pc := 16) C 23 dX10_isIn_16 (by decide) (fun _ => ?_) (fun _ => ?_)
      · refine go_iconst (pc := 19) C dX10_isIn_19 ki_1 ?_
        refine go_goto (pc := 20) C 24 dX10_isIn_20 (by decide) ?_
        exact go_bret (w := (wZ h)) (pc := 24) C E true 1 true rfl dX10_isIn_24 rfl
      · refine go_iconst (pc := 23) C dX10_isIn_23 ki_0 ?_
        exact go_bret (w := (wZ h)) (pc := 24) C E false 0 false rfl dX10_isIn_24 rfl
theorem dX9_holds_0 : decode cX9_holds 0 = .ok (.aload_n 0, 1) := by decide +kernel
theorem dX9_holds_1 : decode cX9_holds 1 = .ok (.iload_n 1, 1) := by decide +kernel
theorem dX9_holds_2 : decode cX9_holds 2 = .ok (.invokevirtual 55, 3) := by decide +kernel
theorem dX9_holds_5 : decode cX9_holds 5 = .ok (.ifCond .eq 27, 3) := by decide +kernel
theorem dX9_holds_8 : decode cX9_holds 8 = .ok (.iload_n 2, 1) := by decide +kernel
theorem dX9_holds_9 : decode cX9_holds 9 = .ok (.invokestatic 59, 3) := by decide +kernel
theorem dX9_holds_12 : decode cX9_holds 12 = .ok (.ifCond .eq 20, 3) := by decide +kernel
theorem dX9_holds_15 : decode cX9_holds 15 = .ok (.aload_n 0, 1) := by decide +kernel
theorem dX9_holds_16 : decode cX9_holds 16 = .ok (.getfield 15, 3) := by decide +kernel
theorem dX9_holds_19 : decode cX9_holds 19 = .ok (.iload_n 1, 1) := by decide +kernel
theorem dX9_holds_20 : decode cX9_holds 20 = .ok (.iaload, 1) := by decide +kernel
theorem dX9_holds_21 : decode cX9_holds 21 = .ok (.iload_n 2, 1) := by decide +kernel
theorem dX9_holds_22 : decode cX9_holds 22 = .ok (.invokestatic 62, 3) := by decide +kernel
theorem dX9_holds_25 : decode cX9_holds 25 = .ok (.ifCond .eq 7, 3) := by decide +kernel
theorem dX9_holds_28 : decode cX9_holds 28 = .ok (.iconst 1, 1) := by decide +kernel
theorem dX9_holds_29 : decode cX9_holds 29 = .ok (.goto 4, 3) := by decide +kernel
theorem dX9_holds_32 : decode cX9_holds 32 = .ok (.iconst 0, 1) := by decide +kernel
theorem dX9_holds_33 : decode cX9_holds 33 = .ok (.ireturn, 1) := by decide +kernel
def fX9_holds (h : AH) (a0 : Nat) (a1 : Int32) (a2 : Int32) : Option (Bool) :=
  if hasC h 9 a0 = true then (
    (fX9_hasObject h a0 a1).bind fun q1 =>
    if q1 = true then (
      (fX10_isPage h a2).bind fun q2 =>
      if q2 = true then (
        (gR h 9 a0 5).bind fun x3 =>
        (aI h 0 x3 a1).bind fun x4 =>
        (fX10_isIn h x4 a2).bind fun q5 =>
        if q5 = true then (
          some true
        ) else (
          some false
        )
      ) else (
        some false
      )
    ) else (
      some false
    )
  ) else none
set_option maxHeartbeats 4000000 in
theorem mX9_holds {h : AH} {a0 : Nat} {a1 : Int32} {a2 : Int32} {r : Bool} (hr : fX9_holds h a0 a1 a2 = some r) : hasC h 9 a0 = true ∧ MC yX9_holds cX9_holds 3 (some .boolean) 2 0 0 [.ref a0, .int a1, .int a2] h (some (.int (b2i r))) h := by
  unfold fX9_holds at hr
  obtain ⟨hc, hr⟩ := if_some hr
  refine ⟨hc, mc_of (l0 := [(0, .ref a0), (1, .int a1), (2, .int a2)]) rfl pn_X9 (Nat.le_of_ble_eq_true rfl) (fun Y X C E O hnm => go_run hr ?_)⟩
  have C : CT Y X RX9 cX9_holds 3 := C
  refine go_aload_n (pc := 0) C 0 dX9_holds_0 rfl ?_
  refine go_iload_n (pc := 1) C 1 dX9_holds_1 rfl ?_
  refine go_bind (fun q1 hq1 => ?_)
  refine go_callV (rest := []) (st' := [.int (b2i q1)]) (c' := 0) (s' := 0) (pc := 2) C O miX9_55 mvX9_hasObject [.int a1] rfl (mX9_hasObject hq1).1 (mX9_hasObject hq1).2 dX9_holds_2 ⟨by decide, by decide, by decide, by decide⟩ rfl (Nat.le_of_ble_eq_true rfl) rfl ⟨rfl, rfl⟩ ?_
  refine go_ifZ_eq (pc := 5) C 32 dX9_holds_5 (by decide) (fun _ => ?_) (fun _ => ?_)
  · refine go_iload_n (pc := 8) C 2 dX9_holds_8 rfl ?_
    refine go_bind (fun q2 hq2 => ?_)
    refine go_callSN (rest := []) (st' := [.int (b2i q2)]) (c' := 0) (s' := 0) (pc := 9) C O miX9_59 w_456 [.int a2] rfl (mX10_isPage hq2) dX9_holds_9 ⟨by decide, by decide, by decide, by decide⟩ rfl (Nat.le_of_ble_eq_true rfl) rfl ⟨rfl, rfl⟩ ?_
    refine go_ifZ_eq (pc := 12) C 32 dX9_holds_12 (by decide) (fun _ => ?_) (fun _ => ?_)
    · refine go_aload_n (pc := 15) C 0 dX9_holds_15 rfl ?_
      refine go_gR (pc := 16) C fdX9_15 dX9_holds_16 (fun x3 => ?_)
      refine go_iload_n (pc := 19) C 1 dX9_holds_19 rfl ?_
      refine go_iald (pc := 20) C dX9_holds_20 (fun x4 => ?_)
      refine go_iload_n (pc := 21) C 2 dX9_holds_21 rfl ?_
      refine go_bind (fun q5 hq5 => ?_)
      refine go_callSN (rest := []) (st' := [.int (b2i q5)]) (c' := 0) (s' := 0) (pc := 22) C O miX9_62 w_576 [.int x4, .int a2] rfl (mX10_isIn hq5) dX9_holds_22 ⟨by decide, by decide, by decide, by decide⟩ rfl (Nat.le_of_ble_eq_true rfl) rfl ⟨rfl, rfl⟩ ?_
      refine go_ifZ_eq (pc := 25) C 32 dX9_holds_25 (by decide) (fun _ => ?_) (fun _ => ?_)
      · refine go_iconst (pc := 28) C dX9_holds_28 ki_1 ?_
        refine go_goto (pc := 29) C 33 dX9_holds_29 (by decide) ?_
        exact go_bret (w := (wZ h)) (pc := 33) C E true 1 true rfl dX9_holds_33 rfl
      · refine go_iconst (pc := 32) C dX9_holds_32 ki_0 ?_
        exact go_bret (w := (wZ h)) (pc := 33) C E false 0 false rfl dX9_holds_33 rfl
    · refine go_iconst (pc := 32) C dX9_holds_32 ki_0 ?_
      exact go_bret (w := (wZ h)) (pc := 33) C E false 0 false rfl dX9_holds_33 rfl
  · refine go_iconst (pc := 32) C dX9_holds_32 ki_0 ?_
    exact go_bret (w := (wZ h)) (pc := 33) C E false 0 false rfl dX9_holds_33 rfl
theorem dX9_valueOf_0 : decode cX9_valueOf 0 = .ok (.aload_n 0, 1) := by decide +kernel
theorem dX9_valueOf_1 : decode cX9_valueOf 1 = .ok (.iload_n 1, 1) := by decide +kernel
theorem dX9_valueOf_2 : decode cX9_valueOf 2 = .ok (.iload_n 2, 1) := by decide +kernel
theorem dX9_valueOf_3 : decode cX9_valueOf 3 = .ok (.invokevirtual 81, 3) := by decide +kernel
theorem dX9_valueOf_6 : decode cX9_valueOf 6 = .ok (.ifCond .eq 17, 3) := by decide +kernel
theorem dX9_valueOf_9 : decode cX9_valueOf 9 = .ok (.aload_n 0, 1) := by decide +kernel
theorem dX9_valueOf_10 : decode cX9_valueOf 10 = .ok (.getfield 33, 3) := by decide +kernel
theorem dX9_valueOf_13 : decode cX9_valueOf 13 = .ok (.iload_n 1, 1) := by decide +kernel
theorem dX9_valueOf_14 : decode cX9_valueOf 14 = .ok (.bipush 8, 2) := by decide +kernel
theorem dX9_valueOf_16 : decode cX9_valueOf 16 = .ok (.imul, 1) := by decide +kernel
theorem dX9_valueOf_17 : decode cX9_valueOf 17 = .ok (.iload_n 2, 1) := by decide +kernel
theorem dX9_valueOf_18 : decode cX9_valueOf 18 = .ok (.iadd, 1) := by decide +kernel
theorem dX9_valueOf_19 : decode cX9_valueOf 19 = .ok (.iaload, 1) := by decide +kernel
theorem dX9_valueOf_20 : decode cX9_valueOf 20 = .ok (.goto 4, 3) := by decide +kernel
theorem dX9_valueOf_23 : decode cX9_valueOf 23 = .ok (.iconst 0, 1) := by decide +kernel
theorem dX9_valueOf_24 : decode cX9_valueOf 24 = .ok (.ireturn, 1) := by decide +kernel
def fX9_valueOf (h : AH) (a0 : Nat) (a1 : Int32) (a2 : Int32) : Option (Int32) :=
  if hasC h 9 a0 = true then (
    (fX9_holds h a0 a1 a2).bind fun q1 =>
    if q1 = true then (
      (gR h 9 a0 11).bind fun x2 =>
      (aI h 0 x2 ((a1 * 8) + a2)).bind fun x3 =>
      some x3
    ) else (
      some 0
    )
  ) else none
set_option maxHeartbeats 4000000 in
theorem mX9_valueOf {h : AH} {a0 : Nat} {a1 : Int32} {a2 : Int32} {r : Int32} (hr : fX9_valueOf h a0 a1 a2 = some r) : hasC h 9 a0 = true ∧ MC yX9_valueOf cX9_valueOf 3 (some .int) 3 0 0 [.ref a0, .int a1, .int a2] h (some (.int r)) h := by
  unfold fX9_valueOf at hr
  obtain ⟨hc, hr⟩ := if_some hr
  refine ⟨hc, mc_of (l0 := [(0, .ref a0), (1, .int a1), (2, .int a2)]) rfl pn_X9 (Nat.le_of_ble_eq_true rfl) (fun Y X C E O hnm => go_run hr ?_)⟩
  have C : CT Y X RX9 cX9_valueOf 3 := C
  refine go_aload_n (pc := 0) C 0 dX9_valueOf_0 rfl ?_
  refine go_iload_n (pc := 1) C 1 dX9_valueOf_1 rfl ?_
  refine go_iload_n (pc := 2) C 2 dX9_valueOf_2 rfl ?_
  refine go_bind (fun q1 hq1 => ?_)
  refine go_callV (rest := []) (st' := [.int (b2i q1)]) (c' := 0) (s' := 0) (pc := 3) C O miX9_81 mvX9_holds [.int a1, .int a2] rfl (mX9_holds hq1).1 (mX9_holds hq1).2 dX9_valueOf_3 ⟨by decide, by decide, by decide, by decide⟩ rfl (Nat.le_of_ble_eq_true rfl) rfl ⟨rfl, rfl⟩ ?_
  refine go_ifZ_eq (pc := 6) C 23 dX9_valueOf_6 (by decide) (fun _ => ?_) (fun _ => ?_)
  · refine go_aload_n (pc := 9) C 0 dX9_valueOf_9 rfl ?_
    refine go_gR (pc := 10) C fdX9_33 dX9_valueOf_10 (fun x2 => ?_)
    refine go_iload_n (pc := 13) C 1 dX9_valueOf_13 rfl ?_
    refine go_bipush (pc := 14) C dX9_valueOf_14 kb_8 ?_
    refine go_imul (pc := 16) C dX9_valueOf_16 ?_
    refine go_iload_n (pc := 17) C 2 dX9_valueOf_17 rfl ?_
    refine go_iadd (pc := 18) C dX9_valueOf_18 ?_
    refine go_iald (pc := 19) C dX9_valueOf_19 (fun x3 => ?_)
    refine go_goto (pc := 20) C 24 dX9_valueOf_20 (by decide) ?_
    exact go_iret (w := (wI h)) (pc := 24) C E x3 x3 dX9_valueOf_24 rfl
  · refine go_iconst (pc := 23) C dX9_valueOf_23 ki_0 ?_
    exact go_iret (w := (wI h)) (pc := 24) C E 0 0 dX9_valueOf_24 rfl
theorem dX9_hasSpace_0 : decode cX9_hasSpace 0 = .ok (.iload_n 1, 1) := by decide +kernel
theorem dX9_hasSpace_1 : decode cX9_hasSpace 1 = .ok (.ifCond .lt 24, 3) := by decide +kernel
theorem dX9_hasSpace_4 : decode cX9_hasSpace 4 = .ok (.iload_n 1, 1) := by decide +kernel
theorem dX9_hasSpace_5 : decode cX9_hasSpace 5 = .ok (.bipush 6, 2) := by decide +kernel
theorem dX9_hasSpace_7 : decode cX9_hasSpace 7 = .ok (.if_icmp .ge 18, 3) := by decide +kernel
theorem dX9_hasSpace_10 : decode cX9_hasSpace 10 = .ok (.aload_n 0, 1) := by decide +kernel
theorem dX9_hasSpace_11 : decode cX9_hasSpace 11 = .ok (.getfield 9, 3) := by decide +kernel
theorem dX9_hasSpace_14 : decode cX9_hasSpace 14 = .ok (.iload_n 1, 1) := by decide +kernel
theorem dX9_hasSpace_15 : decode cX9_hasSpace 15 = .ok (.iaload, 1) := by decide +kernel
theorem dX9_hasSpace_16 : decode cX9_hasSpace 16 = .ok (.bipush 24, 2) := by decide +kernel
theorem dX9_hasSpace_18 : decode cX9_hasSpace 18 = .ok (.if_icmp .eq 7, 3) := by decide +kernel
theorem dX9_hasSpace_21 : decode cX9_hasSpace 21 = .ok (.iconst 1, 1) := by decide +kernel
theorem dX9_hasSpace_22 : decode cX9_hasSpace 22 = .ok (.goto 4, 3) := by decide +kernel
theorem dX9_hasSpace_25 : decode cX9_hasSpace 25 = .ok (.iconst 0, 1) := by decide +kernel
theorem dX9_hasSpace_26 : decode cX9_hasSpace 26 = .ok (.ireturn, 1) := by decide +kernel
def fX9_hasSpace (h : AH) (a0 : Nat) (a1 : Int32) : Option (Bool) :=
  if hasC h 9 a0 = true then (
    if a1 < 0 then (
      some false
    ) else (
      if 6 ≤ a1 then (
        some false
      ) else (
        (gR h 9 a0 4).bind fun x1 =>
        (aI h 0 x1 a1).bind fun x2 =>
        if x2 = 24 then (
          some false
        ) else (
          some true
        )
      )
    )
  ) else none
set_option maxHeartbeats 4000000 in
theorem mX9_hasSpace {h : AH} {a0 : Nat} {a1 : Int32} {r : Bool} (hr : fX9_hasSpace h a0 a1 = some r) : hasC h 9 a0 = true ∧ MC yX9_hasSpace cX9_hasSpace 2 (some .boolean) 1 0 0 [.ref a0, .int a1] h (some (.int (b2i r))) h := by
  unfold fX9_hasSpace at hr
  obtain ⟨hc, hr⟩ := if_some hr
  refine ⟨hc, mc_of (l0 := [(0, .ref a0), (1, .int a1)]) rfl pn_X9 (Nat.le_of_ble_eq_true rfl) (fun Y X C E O hnm => go_run hr ?_)⟩
  have C : CT Y X RX9 cX9_hasSpace 2 := C
  refine go_iload_n (pc := 0) C 1 dX9_hasSpace_0 rfl ?_
  refine go_if_lt (pc := 1) C 25 dX9_hasSpace_1 (by decide) (fun _ => ?_) (fun _ => ?_)
  · refine go_iconst (pc := 25) C dX9_hasSpace_25 ki_0 ?_
    exact go_bret (w := (wZ h)) (pc := 26) C E false 0 false rfl dX9_hasSpace_26 rfl
  · refine go_iload_n (pc := 4) C 1 dX9_hasSpace_4 rfl ?_
    refine go_bipush (pc := 5) C dX9_hasSpace_5 kb_6 ?_
    refine go_icmp_ge (pc := 7) C 25 dX9_hasSpace_7 (by decide) (fun _ => ?_) (fun _ => ?_)
    · refine go_iconst (pc := 25) C dX9_hasSpace_25 ki_0 ?_
      exact go_bret (w := (wZ h)) (pc := 26) C E false 0 false rfl dX9_hasSpace_26 rfl
    · refine go_aload_n (pc := 10) C 0 dX9_hasSpace_10 rfl ?_
      refine go_gR (pc := 11) C fdX9_9 dX9_hasSpace_11 (fun x1 => ?_)
      refine go_iload_n (pc := 14) C 1 dX9_hasSpace_14 rfl ?_
      refine go_iald (pc := 15) C dX9_hasSpace_15 (fun x2 => ?_)
      refine go_bipush (pc := 16) C dX9_hasSpace_16 kb_24 ?_
      refine go_icmp_eq (pc := 18) C 25 dX9_hasSpace_18 (by decide) (fun _ => ?_) (fun _ => ?_)
      · refine go_iconst (pc := 25) C dX9_hasSpace_25 ki_0 ?_
        exact go_bret (w := (wZ h)) (pc := 26) C E false 0 false rfl dX9_hasSpace_26 rfl
      · refine go_iconst (pc := 21) C dX9_hasSpace_21 ki_1 ?_
        refine go_goto (pc := 22) C 26 dX9_hasSpace_22 (by decide) ?_
        exact go_bret (w := (wZ h)) (pc := 26) C E true 1 true rfl dX9_hasSpace_26 rfl
theorem dX9_topOf_0 : decode cX9_topOf 0 = .ok (.aload_n 0, 1) := by decide +kernel
theorem dX9_topOf_1 : decode cX9_topOf 1 = .ok (.iload_n 1, 1) := by decide +kernel
theorem dX9_topOf_2 : decode cX9_topOf 2 = .ok (.invokevirtual 78, 3) := by decide +kernel
theorem dX9_topOf_5 : decode cX9_topOf 5 = .ok (.ifCond .eq 12, 3) := by decide +kernel
theorem dX9_topOf_8 : decode cX9_topOf 8 = .ok (.aload_n 0, 1) := by decide +kernel
theorem dX9_topOf_9 : decode cX9_topOf 9 = .ok (.getfield 9, 3) := by decide +kernel
theorem dX9_topOf_12 : decode cX9_topOf 12 = .ok (.iload_n 1, 1) := by decide +kernel
theorem dX9_topOf_13 : decode cX9_topOf 13 = .ok (.iaload, 1) := by decide +kernel
theorem dX9_topOf_14 : decode cX9_topOf 14 = .ok (.goto 5, 3) := by decide +kernel
theorem dX9_topOf_17 : decode cX9_topOf 17 = .ok (.bipush 24, 2) := by decide +kernel
theorem dX9_topOf_19 : decode cX9_topOf 19 = .ok (.ireturn, 1) := by decide +kernel
def fX9_topOf (h : AH) (a0 : Nat) (a1 : Int32) : Option (Int32) :=
  if hasC h 9 a0 = true then (
    (fX9_hasSpace h a0 a1).bind fun q1 =>
    if q1 = true then (
      (gR h 9 a0 4).bind fun x2 =>
      (aI h 0 x2 a1).bind fun x3 =>
      some x3
    ) else (
      some 24
    )
  ) else none
set_option maxHeartbeats 4000000 in
theorem mX9_topOf {h : AH} {a0 : Nat} {a1 : Int32} {r : Int32} (hr : fX9_topOf h a0 a1 = some r) : hasC h 9 a0 = true ∧ MC yX9_topOf cX9_topOf 2 (some .int) 2 0 0 [.ref a0, .int a1] h (some (.int r)) h := by
  unfold fX9_topOf at hr
  obtain ⟨hc, hr⟩ := if_some hr
  refine ⟨hc, mc_of (l0 := [(0, .ref a0), (1, .int a1)]) rfl pn_X9 (Nat.le_of_ble_eq_true rfl) (fun Y X C E O hnm => go_run hr ?_)⟩
  have C : CT Y X RX9 cX9_topOf 2 := C
  refine go_aload_n (pc := 0) C 0 dX9_topOf_0 rfl ?_
  refine go_iload_n (pc := 1) C 1 dX9_topOf_1 rfl ?_
  refine go_bind (fun q1 hq1 => ?_)
  refine go_callV (rest := []) (st' := [.int (b2i q1)]) (c' := 0) (s' := 0) (pc := 2) C O miX9_78 mvX9_hasSpace [.int a1] rfl (mX9_hasSpace hq1).1 (mX9_hasSpace hq1).2 dX9_topOf_2 ⟨by decide, by decide, by decide, by decide⟩ rfl (Nat.le_of_ble_eq_true rfl) rfl ⟨rfl, rfl⟩ ?_
  refine go_ifZ_eq (pc := 5) C 17 dX9_topOf_5 (by decide) (fun _ => ?_) (fun _ => ?_)
  · refine go_aload_n (pc := 8) C 0 dX9_topOf_8 rfl ?_
    refine go_gR (pc := 9) C fdX9_9 dX9_topOf_9 (fun x2 => ?_)
    refine go_iload_n (pc := 12) C 1 dX9_topOf_12 rfl ?_
    refine go_iald (pc := 13) C dX9_topOf_13 (fun x3 => ?_)
    refine go_goto (pc := 14) C 19 dX9_topOf_14 (by decide) ?_
    exact go_iret (w := (wI h)) (pc := 19) C E x3 x3 dX9_topOf_19 rfl
  · refine go_bipush (pc := 17) C dX9_topOf_17 kb_24 ?_
    exact go_iret (w := (wI h)) (pc := 19) C E 24 24 dX9_topOf_19 rfl
theorem dX9_firstHolder_0 : decode cX9_firstHolder 0 = .ok (.aload_n 0, 1) := by decide +kernel
theorem dX9_firstHolder_1 : decode cX9_firstHolder 1 = .ok (.iload_n 1, 1) := by decide +kernel
theorem dX9_firstHolder_2 : decode cX9_firstHolder 2 = .ok (.invokevirtual 84, 3) := by decide +kernel
theorem dX9_firstHolder_5 : decode cX9_firstHolder 5 = .ok (.istore_n 3, 1) := by decide +kernel
theorem dX9_firstHolder_6 : decode cX9_firstHolder 6 = .ok (.iconst 0, 1) := by decide +kernel
theorem dX9_firstHolder_7 : decode cX9_firstHolder 7 = .ok (.istore 4, 2) := by decide +kernel
theorem dX9_firstHolder_9 : decode cX9_firstHolder 9 = .ok (.iload 4, 2) := by decide +kernel
theorem dX9_firstHolder_11 : decode cX9_firstHolder 11 = .ok (.bipush 24, 2) := by decide +kernel
theorem dX9_firstHolder_13 : decode cX9_firstHolder 13 = .ok (.if_icmp .ge 35, 3) := by decide +kernel
theorem dX9_firstHolder_16 : decode cX9_firstHolder 16 = .ok (.aload_n 0, 1) := by decide +kernel
theorem dX9_firstHolder_17 : decode cX9_firstHolder 17 = .ok (.iload_n 3, 1) := by decide +kernel
theorem dX9_firstHolder_18 : decode cX9_firstHolder 18 = .ok (.invokevirtual 55, 3) := by decide +kernel
theorem dX9_firstHolder_21 : decode cX9_firstHolder 21 = .ok (.ifCond .eq 27, 3) := by decide +kernel
theorem dX9_firstHolder_24 : decode cX9_firstHolder 24 = .ok (.aload_n 0, 1) := by decide +kernel
theorem dX9_firstHolder_25 : decode cX9_firstHolder 25 = .ok (.iload_n 3, 1) := by decide +kernel
theorem dX9_firstHolder_26 : decode cX9_firstHolder 26 = .ok (.iload_n 2, 1) := by decide +kernel
theorem dX9_firstHolder_27 : decode cX9_firstHolder 27 = .ok (.invokevirtual 81, 3) := by decide +kernel
theorem dX9_firstHolder_30 : decode cX9_firstHolder 30 = .ok (.ifCond .eq 5, 3) := by decide +kernel
theorem dX9_firstHolder_33 : decode cX9_firstHolder 33 = .ok (.iload_n 3, 1) := by decide +kernel
theorem dX9_firstHolder_34 : decode cX9_firstHolder 34 = .ok (.ireturn, 1) := by decide +kernel
theorem dX9_firstHolder_35 : decode cX9_firstHolder 35 = .ok (.aload_n 0, 1) := by decide +kernel
theorem dX9_firstHolder_36 : decode cX9_firstHolder 36 = .ok (.getfield 21, 3) := by decide +kernel
theorem dX9_firstHolder_39 : decode cX9_firstHolder 39 = .ok (.iload_n 3, 1) := by decide +kernel
theorem dX9_firstHolder_40 : decode cX9_firstHolder 40 = .ok (.iaload, 1) := by decide +kernel
theorem dX9_firstHolder_41 : decode cX9_firstHolder 41 = .ok (.istore_n 3, 1) := by decide +kernel
theorem dX9_firstHolder_42 : decode cX9_firstHolder 42 = .ok (.iinc 4 1, 3) := by decide +kernel
theorem dX9_firstHolder_45 : decode cX9_firstHolder 45 = .ok (.goto (-36), 3) := by decide +kernel
theorem dX9_firstHolder_48 : decode cX9_firstHolder 48 = .ok (.bipush 24, 2) := by decide +kernel
theorem dX9_firstHolder_50 : decode cX9_firstHolder 50 = .ok (.ireturn, 1) := by decide +kernel
def fX9_firstHolder_L9 (h : AH) : Nat → Nat → Int32 → Int32 → Int32 → Option (Int32)
  | 0, _, _, _, _ => none
  | n + 1, v0, v2, v3, v4 =>
    if 24 ≤ v4 then (
      some 24
    ) else (
      (fX9_hasObject h v0 v3).bind fun q1 =>
      if q1 = true then (
        (fX9_holds h v0 v3 v2).bind fun q2 =>
        if q2 = true then (
          some v3
        ) else (
          (gR h 9 v0 7).bind fun x3 =>
          (aI h 0 x3 v3).bind fun x4 =>
          letF (v4 + 1 : Int32) fun x5 =>
          fX9_firstHolder_L9 h n v0 v2 x4 x5
        )
      ) else (
        some 24
      )
    )
def fX9_firstHolder (h : AH) (a0 : Nat) (a1 : Int32) (a2 : Int32) : Option (Int32) :=
  if hasC h 9 a0 = true then (
    (fX9_topOf h a0 a1).bind fun q6 =>
    fX9_firstHolder_L9 h FU a0 a2 q6 0
  ) else none
set_option maxHeartbeats 4000000 in
theorem gX9_firstHolder_L9 {Y : YT} {X : XT} (C : CT Y X RX9 cX9_firstHolder 5) (O : RO X 3 0 0) {h : AH} {r : Int32} (E : RX Y X (some .int) (some (.int r)) h 0 0) : ∀ (n : Nat) (v0 : Nat) (v2 : Int32) (v3 : Int32) (v4 : Int32), GO Y X 5 r h 0 0 9 [(0, .ref v0), (2, .int v2), (3, .int v3), (4, .int v4)] [] (fX9_firstHolder_L9 h n v0 v2 v3 v4) := by
  intro n
  induction n with
  | zero => intros; exact go_none _ _ _
  | succ n ih =>
    intro v0 v2 v3 v4
    rw [fX9_firstHolder_L9]
    refine go_iload (pc := 9) C 3 dX9_firstHolder_9 rfl ?_
    refine go_bipush (pc := 11) C dX9_firstHolder_11 kb_24 ?_
    refine go_icmp_ge (pc := 13) C 48 dX9_firstHolder_13 (by decide) (fun _ => ?_) (fun _ => ?_)
    · refine go_bipush (pc := 48) C dX9_firstHolder_48 kb_24 ?_
      exact go_iret (w := (wI h)) (pc := 50) C E 24 24 dX9_firstHolder_50 rfl
    · refine go_aload_n (pc := 16) C 0 dX9_firstHolder_16 rfl ?_
      refine go_iload_n (pc := 17) C 2 dX9_firstHolder_17 rfl ?_
      refine go_bind (fun q1 hq1 => ?_)
      refine go_callV (rest := []) (st' := [.int (b2i q1)]) (c' := 0) (s' := 0) (pc := 18) C O miX9_55 mvX9_hasObject [.int v3] rfl (mX9_hasObject hq1).1 (mX9_hasObject hq1).2 dX9_firstHolder_18 ⟨by decide, by decide, by decide, by decide⟩ rfl (Nat.le_of_ble_eq_true rfl) rfl ⟨rfl, rfl⟩ ?_
      refine go_ifZ_eq (pc := 21) C 48 dX9_firstHolder_21 (by decide) (fun _ => ?_) (fun _ => ?_)
      · refine go_aload_n (pc := 24) C 0 dX9_firstHolder_24 rfl ?_
        refine go_iload_n (pc := 25) C 2 dX9_firstHolder_25 rfl ?_
        refine go_iload_n (pc := 26) C 1 dX9_firstHolder_26 rfl ?_
        refine go_bind (fun q2 hq2 => ?_)
        refine go_callV (rest := []) (st' := [.int (b2i q2)]) (c' := 0) (s' := 0) (pc := 27) C O miX9_81 mvX9_holds [.int v3, .int v2] rfl (mX9_holds hq2).1 (mX9_holds hq2).2 dX9_firstHolder_27 ⟨by decide, by decide, by decide, by decide⟩ rfl (Nat.le_of_ble_eq_true rfl) rfl ⟨rfl, rfl⟩ ?_
        refine go_ifZ_eq (pc := 30) C 35 dX9_firstHolder_30 (by decide) (fun _ => ?_) (fun _ => ?_)
        · refine go_iload_n (pc := 33) C 2 dX9_firstHolder_33 rfl ?_
          exact go_iret (w := (wI h)) (pc := 34) C E v3 v3 dX9_firstHolder_34 rfl
        · refine go_aload_n (pc := 35) C 0 dX9_firstHolder_35 rfl ?_
          refine go_gR (pc := 36) C fdX9_21 dX9_firstHolder_36 (fun x3 => ?_)
          refine go_iload_n (pc := 39) C 2 dX9_firstHolder_39 rfl ?_
          refine go_iald (pc := 40) C dX9_firstHolder_40 (fun x4 => ?_)
          refine go_istore_n (ls' := [(3, .int x4), (0, .ref v0), (2, .int v2), (4, .int v4)]) (pc := 41) C dX9_firstHolder_41 (by decide) rfl ?_
          refine go_iincL (pc := 42) C 3 dX9_firstHolder_42 rfl ki_1 (by decide) (fun x5 => [(4, .int x5), (3, .int x4), (0, .ref v0), (2, .int v2)]) (fun _ => rfl) (fun x5 => ?_)
          refine go_goto (pc := 45) C 9 dX9_firstHolder_45 (by decide) ?_
          refine go_sub (ls' := [(0, .ref v0), (2, .int v2), (3, .int x4), (4, .int x5)]) [2, 3, 1, 0] rfl ?_
          exact ih v0 v2 x4 x5
      · refine go_bipush (pc := 48) C dX9_firstHolder_48 kb_24 ?_
        exact go_iret (w := (wI h)) (pc := 50) C E 24 24 dX9_firstHolder_50 rfl
set_option maxHeartbeats 4000000 in
theorem mX9_firstHolder {h : AH} {a0 : Nat} {a1 : Int32} {a2 : Int32} {r : Int32} (hr : fX9_firstHolder h a0 a1 a2 = some r) : hasC h 9 a0 = true ∧ MC yX9_firstHolder cX9_firstHolder 5 (some .int) 3 0 0 [.ref a0, .int a1, .int a2] h (some (.int r)) h := by
  unfold fX9_firstHolder at hr
  obtain ⟨hc, hr⟩ := if_some hr
  refine ⟨hc, mc_of (l0 := [(0, .ref a0), (1, .int a1), (2, .int a2)]) rfl pn_X9 (Nat.le_of_ble_eq_true rfl) (fun Y X C E O hnm => go_run hr ?_)⟩
  have C : CT Y X RX9 cX9_firstHolder 5 := C
  refine go_aload_n (pc := 0) C 0 dX9_firstHolder_0 rfl ?_
  refine go_iload_n (pc := 1) C 1 dX9_firstHolder_1 rfl ?_
  refine go_bind (fun q6 hq6 => ?_)
  refine go_callV (rest := []) (st' := [.int q6]) (c' := 0) (s' := 0) (pc := 2) C O miX9_84 mvX9_topOf [.int a1] rfl (mX9_topOf hq6).1 (mX9_topOf hq6).2 dX9_firstHolder_2 ⟨by decide, by decide, by decide, by decide⟩ rfl (Nat.le_of_ble_eq_true rfl) rfl ⟨rfl, rfl⟩ ?_
  refine go_istore_n (ls' := [(3, .int q6), (0, .ref a0), (1, .int a1), (2, .int a2)]) (pc := 5) C dX9_firstHolder_5 (by decide) rfl ?_
  refine go_iconst (pc := 6) C dX9_firstHolder_6 ki_0 ?_
  refine go_istore (ls' := [(4, .int 0), (3, .int q6), (0, .ref a0), (1, .int a1), (2, .int a2)]) (pc := 7) C dX9_firstHolder_7 (by decide) rfl ?_
  refine go_sub (ls' := [(0, .ref a0), (2, .int a2), (3, .int q6), (4, .int 0)]) [2, 4, 1, 0] rfl ?_
  refine gX9_firstHolder_L9 C O E FU a0 a2 q6 0
theorem dX1_agrees_0 : decode cX1_agrees 0 = .ok (.iload_n 3, 1) := by decide +kernel
theorem dX1_agrees_1 : decode cX1_agrees 1 = .ok (.bipush 8, 2) := by decide +kernel
theorem dX1_agrees_3 : decode cX1_agrees 3 = .ok (.idiv, 1) := by decide +kernel
theorem dX1_agrees_4 : decode cX1_agrees 4 = .ok (.istore 4, 2) := by decide +kernel
theorem dX1_agrees_6 : decode cX1_agrees 6 = .ok (.iload_n 3, 1) := by decide +kernel
theorem dX1_agrees_7 : decode cX1_agrees 7 = .ok (.bipush 8, 2) := by decide +kernel
theorem dX1_agrees_9 : decode cX1_agrees 9 = .ok (.irem, 1) := by decide +kernel
theorem dX1_agrees_10 : decode cX1_agrees 10 = .ok (.istore 5, 2) := by decide +kernel
theorem dX1_agrees_12 : decode cX1_agrees 12 = .ok (.iload_n 1, 1) := by decide +kernel
theorem dX1_agrees_13 : decode cX1_agrees 13 = .ok (.tableswitch 72 0 2 #[27, 39, 51], 27) := by decide +kernel
theorem dX1_agrees_40 : decode cX1_agrees 40 = .ok (.iload 4, 2) := by decide +kernel
theorem dX1_agrees_42 : decode cX1_agrees 42 = .ok (.iload_n 2, 1) := by decide +kernel
theorem dX1_agrees_43 : decode cX1_agrees 43 = .ok (.if_icmp .ne 7, 3) := by decide +kernel
theorem dX1_agrees_46 : decode cX1_agrees 46 = .ok (.iconst 1, 1) := by decide +kernel
theorem dX1_agrees_47 : decode cX1_agrees 47 = .ok (.goto 4, 3) := by decide +kernel
theorem dX1_agrees_50 : decode cX1_agrees 50 = .ok (.iconst 0, 1) := by decide +kernel
theorem dX1_agrees_51 : decode cX1_agrees 51 = .ok (.ireturn, 1) := by decide +kernel
theorem dX1_agrees_52 : decode cX1_agrees 52 = .ok (.iload 5, 2) := by decide +kernel
theorem dX1_agrees_54 : decode cX1_agrees 54 = .ok (.iload_n 2, 1) := by decide +kernel
theorem dX1_agrees_55 : decode cX1_agrees 55 = .ok (.if_icmp .ne 7, 3) := by decide +kernel
theorem dX1_agrees_58 : decode cX1_agrees 58 = .ok (.iconst 1, 1) := by decide +kernel
theorem dX1_agrees_59 : decode cX1_agrees 59 = .ok (.goto 4, 3) := by decide +kernel
theorem dX1_agrees_62 : decode cX1_agrees 62 = .ok (.iconst 0, 1) := by decide +kernel
theorem dX1_agrees_63 : decode cX1_agrees 63 = .ok (.ireturn, 1) := by decide +kernel
theorem dX1_agrees_64 : decode cX1_agrees 64 = .ok (.aload_n 0, 1) := by decide +kernel
theorem dX1_agrees_65 : decode cX1_agrees 65 = .ok (.iload 4, 2) := by decide +kernel
theorem dX1_agrees_67 : decode cX1_agrees 67 = .ok (.iload 5, 2) := by decide +kernel
theorem dX1_agrees_69 : decode cX1_agrees 69 = .ok (.invokevirtual 46, 3) := by decide +kernel
theorem dX1_agrees_72 : decode cX1_agrees 72 = .ok (.bipush 10, 2) := by decide +kernel
theorem dX1_agrees_74 : decode cX1_agrees 74 = .ok (.iload_n 2, 1) := by decide +kernel
theorem dX1_agrees_75 : decode cX1_agrees 75 = .ok (.imul, 1) := by decide +kernel
theorem dX1_agrees_76 : decode cX1_agrees 76 = .ok (.if_icmp .lt 7, 3) := by decide +kernel
theorem dX1_agrees_79 : decode cX1_agrees 79 = .ok (.iconst 1, 1) := by decide +kernel
theorem dX1_agrees_80 : decode cX1_agrees 80 = .ok (.goto 4, 3) := by decide +kernel
theorem dX1_agrees_83 : decode cX1_agrees 83 = .ok (.iconst 0, 1) := by decide +kernel
theorem dX1_agrees_84 : decode cX1_agrees 84 = .ok (.ireturn, 1) := by decide +kernel
theorem dX1_agrees_85 : decode cX1_agrees 85 = .ok (.aload_n 0, 1) := by decide +kernel
theorem dX1_agrees_86 : decode cX1_agrees 86 = .ok (.iload_n 2, 1) := by decide +kernel
theorem dX1_agrees_87 : decode cX1_agrees 87 = .ok (.iload 5, 2) := by decide +kernel
theorem dX1_agrees_89 : decode cX1_agrees 89 = .ok (.invokevirtual 50, 3) := by decide +kernel
theorem dX1_agrees_92 : decode cX1_agrees 92 = .ok (.iload 4, 2) := by decide +kernel
theorem dX1_agrees_94 : decode cX1_agrees 94 = .ok (.if_icmp .ne 7, 3) := by decide +kernel
theorem dX1_agrees_97 : decode cX1_agrees 97 = .ok (.iconst 1, 1) := by decide +kernel
theorem dX1_agrees_98 : decode cX1_agrees 98 = .ok (.goto 4, 3) := by decide +kernel
theorem dX1_agrees_101 : decode cX1_agrees 101 = .ok (.iconst 0, 1) := by decide +kernel
theorem dX1_agrees_102 : decode cX1_agrees 102 = .ok (.ireturn, 1) := by decide +kernel
def fX1_agrees (h : AH) (a0 : Nat) (a1 : Int32) (a2 : Int32) (a3 : Int32) : Option (Bool) :=
  (jdiv a3 8).bind fun x1 =>
  (jrem a3 8).bind fun x2 =>
  if a1 = 0 then (
    if x1 = a2 then (
      some true
    ) else (
      some false
    )
  ) else (
    if a1 = 1 then (
      if x2 = a2 then (
        some true
      ) else (
        some false
      )
    ) else (
      if a1 = 2 then (
        (fX9_valueOf h a0 x1 x2).bind fun q6 =>
        if q6 < (10 * a2) then (
          some false
        ) else (
          some true
        )
      ) else (
        (fX9_firstHolder h a0 a2 x2).bind fun q7 =>
        if q7 = x1 then (
          some true
        ) else (
          some false
        ))))
set_option maxHeartbeats 4000000 in
theorem mX1_agrees {h : AH} {a0 : Nat} {a1 : Int32} {a2 : Int32} {a3 : Int32} {r : Bool} (hr : fX1_agrees h a0 a1 a2 a3 = some r) : MC yX1_agrees cX1_agrees 6 (some .boolean) 4 0 0 [.ref a0, .int a1, .int a2, .int a3] h (some (.int (b2i r))) h := by
  unfold fX1_agrees at hr
  refine mc_of (l0 := [(0, .ref a0), (1, .int a1), (2, .int a2), (3, .int a3)]) rfl pn_X1 (Nat.le_of_ble_eq_true rfl) (fun Y X C E O hnm => go_run hr ?_)
  have C : CT Y X RX1 cX1_agrees 6 := C
  refine go_iload_n (pc := 0) C 3 dX1_agrees_0 rfl ?_
  refine go_bipush (pc := 1) C dX1_agrees_1 kb_8 ?_
  refine go_idiv (pc := 3) C dX1_agrees_3 (fun x1 => ?_)
  refine go_istore (ls' := [(4, .int x1), (0, .ref a0), (1, .int a1), (2, .int a2), (3, .int a3)]) (pc := 4) C dX1_agrees_4 (by decide) rfl ?_
  refine go_iload_n (pc := 6) C 4 dX1_agrees_6 rfl ?_
  refine go_bipush (pc := 7) C dX1_agrees_7 kb_8 ?_
  refine go_irem (pc := 9) C dX1_agrees_9 (fun x2 => ?_)
  refine go_istore (ls' := [(5, .int x2), (4, .int x1), (0, .ref a0), (1, .int a1), (2, .int a2), (3, .int a3)]) (pc := 10) C dX1_agrees_10 (by decide) rfl ?_
  refine go_iload_n (pc := 12) C 3 dX1_agrees_12 rfl ?_
  refine go_ite (fun hc3 => ?_) (fun hc3 => ?_)
  · refine go_tsw (pc := 13) C 40 0 hc3 dX1_agrees_13 (by decide) (by decide) rfl (by decide) ?_
    refine go_iload (pc := 40) C 1 dX1_agrees_40 rfl ?_
    refine go_iload_n (pc := 42) C 4 dX1_agrees_42 rfl ?_
    refine go_icmp_ne (pc := 43) C 50 dX1_agrees_43 (by decide) (fun _ => ?_) (fun _ => ?_)
    · refine go_iconst (pc := 46) C dX1_agrees_46 ki_1 ?_
      refine go_goto (pc := 47) C 51 dX1_agrees_47 (by decide) ?_
      exact go_bret (w := (wZ h)) (pc := 51) C E true 1 true rfl dX1_agrees_51 rfl
    · refine go_iconst (pc := 50) C dX1_agrees_50 ki_0 ?_
      exact go_bret (w := (wZ h)) (pc := 51) C E false 0 false rfl dX1_agrees_51 rfl
  · refine go_ite (fun hc4 => ?_) (fun hc4 => ?_)
    · refine go_tsw (pc := 13) C 52 1 hc4 dX1_agrees_13 (by decide) (by decide) rfl (by decide) ?_
      refine go_iload (pc := 52) C 0 dX1_agrees_52 rfl ?_
      refine go_iload_n (pc := 54) C 4 dX1_agrees_54 rfl ?_
      refine go_icmp_ne (pc := 55) C 62 dX1_agrees_55 (by decide) (fun _ => ?_) (fun _ => ?_)
      · refine go_iconst (pc := 58) C dX1_agrees_58 ki_1 ?_
        refine go_goto (pc := 59) C 63 dX1_agrees_59 (by decide) ?_
        exact go_bret (w := (wZ h)) (pc := 63) C E true 1 true rfl dX1_agrees_63 rfl
      · refine go_iconst (pc := 62) C dX1_agrees_62 ki_0 ?_
        exact go_bret (w := (wZ h)) (pc := 63) C E false 0 false rfl dX1_agrees_63 rfl
    · refine go_ite (fun hc5 => ?_) (fun hc5 => ?_)
      · refine go_tsw (pc := 13) C 64 2 hc5 dX1_agrees_13 (by decide) (by decide) rfl (by decide) ?_
        refine go_aload_n (pc := 64) C 2 dX1_agrees_64 rfl ?_
        refine go_iload (pc := 65) C 1 dX1_agrees_65 rfl ?_
        refine go_iload (pc := 67) C 0 dX1_agrees_67 rfl ?_
        refine go_bind (fun q6 hq6 => ?_)
        refine go_callV (rest := []) (st' := [.int q6]) (c' := 0) (s' := 0) (pc := 69) C O miX1_46 mvX9_valueOf [.int x1, .int x2] rfl (mX9_valueOf hq6).1 (mX9_valueOf hq6).2 dX1_agrees_69 ⟨by decide, by decide, by decide, by decide⟩ rfl (Nat.le_of_ble_eq_true rfl) rfl ⟨rfl, rfl⟩ ?_
        refine go_bipush (pc := 72) C dX1_agrees_72 kb_10 ?_
        refine go_iload_n (pc := 74) C 4 dX1_agrees_74 rfl ?_
        refine go_imul (pc := 75) C dX1_agrees_75 ?_
        refine go_icmp_lt (pc := 76) C 83 dX1_agrees_76 (by decide) (fun _ => ?_) (fun _ => ?_)
        · refine go_iconst (pc := 83) C dX1_agrees_83 ki_0 ?_
          exact go_bret (w := (wZ h)) (pc := 84) C E false 0 false rfl dX1_agrees_84 rfl
        · refine go_iconst (pc := 79) C dX1_agrees_79 ki_1 ?_
          refine go_goto (pc := 80) C 84 dX1_agrees_80 (by decide) ?_
          exact go_bret (w := (wZ h)) (pc := 84) C E true 1 true rfl dX1_agrees_84 rfl
      · refine go_tsw_else (pc := 13) C 85 [0, 1, 2] dX1_agrees_13 (fun v hv => by simp only [List.mem_cons, List.not_mem_nil, or_false] at hv; rcases hv with rfl | rfl | rfl <;> first | exact i32_ne hc3 (by decide) | exact i32_ne hc4 (by decide) | exact i32_ne hc5 (by decide)) (by decide) (by decide) (by decide) ?_
        refine go_aload_n (pc := 85) C 2 dX1_agrees_85 rfl ?_
        refine go_iload_n (pc := 86) C 4 dX1_agrees_86 rfl ?_
        refine go_iload (pc := 87) C 0 dX1_agrees_87 rfl ?_
        refine go_bind (fun q7 hq7 => ?_)
        refine go_callV (rest := []) (st' := [.int q7]) (c' := 0) (s' := 0) (pc := 89) C O miX1_50 mvX9_firstHolder [.int a2, .int x2] rfl (mX9_firstHolder hq7).1 (mX9_firstHolder hq7).2 dX1_agrees_89 ⟨by decide, by decide, by decide, by decide⟩ rfl (Nat.le_of_ble_eq_true rfl) rfl ⟨rfl, rfl⟩ ?_
        refine go_iload (pc := 92) C 1 dX1_agrees_92 rfl ?_
        refine go_icmp_ne (pc := 94) C 101 dX1_agrees_94 (by decide) (fun _ => ?_) (fun _ => ?_)
        · refine go_iconst (pc := 97) C dX1_agrees_97 ki_1 ?_
          refine go_goto (pc := 98) C 102 dX1_agrees_98 (by decide) ?_
          exact go_bret (w := (wZ h)) (pc := 102) C E true 1 true rfl dX1_agrees_102 rfl
        · refine go_iconst (pc := 101) C dX1_agrees_101 ki_0 ?_
          exact go_bret (w := (wZ h)) (pc := 102) C E false 0 false rfl dX1_agrees_102 rfl
theorem dX1_fitsAll_0 : decode cX1_fitsAll 0 = .ok (.iconst 0, 1) := by decide +kernel
theorem dX1_fitsAll_1 : decode cX1_fitsAll 1 = .ok (.istore_n 3, 1) := by decide +kernel
theorem dX1_fitsAll_2 : decode cX1_fitsAll 2 = .ok (.iload_n 3, 1) := by decide +kernel
theorem dX1_fitsAll_3 : decode cX1_fitsAll 3 = .ok (.aload_n 0, 1) := by decide +kernel
theorem dX1_fitsAll_4 : decode cX1_fitsAll 4 = .ok (.getfield 25, 3) := by decide +kernel
theorem dX1_fitsAll_7 : decode cX1_fitsAll 7 = .ok (.if_icmp .ge 37, 3) := by decide +kernel
theorem dX1_fitsAll_10 : decode cX1_fitsAll 10 = .ok (.iload_n 3, 1) := by decide +kernel
theorem dX1_fitsAll_11 : decode cX1_fitsAll 11 = .ok (.bipush 12, 2) := by decide +kernel
theorem dX1_fitsAll_13 : decode cX1_fitsAll 13 = .ok (.if_icmp .ge 31, 3) := by decide +kernel
theorem dX1_fitsAll_16 : decode cX1_fitsAll 16 = .ok (.aload_n 1, 1) := by decide +kernel
theorem dX1_fitsAll_17 : decode cX1_fitsAll 17 = .ok (.aload_n 0, 1) := by decide +kernel
theorem dX1_fitsAll_18 : decode cX1_fitsAll 18 = .ok (.getfield 11, 3) := by decide +kernel
theorem dX1_fitsAll_21 : decode cX1_fitsAll 21 = .ok (.iload_n 3, 1) := by decide +kernel
theorem dX1_fitsAll_22 : decode cX1_fitsAll 22 = .ok (.iaload, 1) := by decide +kernel
theorem dX1_fitsAll_23 : decode cX1_fitsAll 23 = .ok (.aload_n 0, 1) := by decide +kernel
theorem dX1_fitsAll_24 : decode cX1_fitsAll 24 = .ok (.getfield 15, 3) := by decide +kernel
theorem dX1_fitsAll_27 : decode cX1_fitsAll 27 = .ok (.iload_n 3, 1) := by decide +kernel
theorem dX1_fitsAll_28 : decode cX1_fitsAll 28 = .ok (.iaload, 1) := by decide +kernel
theorem dX1_fitsAll_29 : decode cX1_fitsAll 29 = .ok (.iload_n 2, 1) := by decide +kernel
theorem dX1_fitsAll_30 : decode cX1_fitsAll 30 = .ok (.invokestatic 42, 3) := by decide +kernel
theorem dX1_fitsAll_33 : decode cX1_fitsAll 33 = .ok (.ifCond .ne 5, 3) := by decide +kernel
theorem dX1_fitsAll_36 : decode cX1_fitsAll 36 = .ok (.iconst 0, 1) := by decide +kernel
theorem dX1_fitsAll_37 : decode cX1_fitsAll 37 = .ok (.ireturn, 1) := by decide +kernel
theorem dX1_fitsAll_38 : decode cX1_fitsAll 38 = .ok (.iinc 3 1, 3) := by decide +kernel
theorem dX1_fitsAll_41 : decode cX1_fitsAll 41 = .ok (.goto (-39), 3) := by decide +kernel
theorem dX1_fitsAll_44 : decode cX1_fitsAll 44 = .ok (.iconst 1, 1) := by decide +kernel
theorem dX1_fitsAll_45 : decode cX1_fitsAll 45 = .ok (.ireturn, 1) := by decide +kernel
def fX1_fitsAll_L2 (h : AH) : Nat → Nat → Nat → Int32 → Int32 → Option (Bool)
  | 0, _, _, _, _ => none
  | n + 1, v0, v1, v2, v3 =>
    (gI h 1 v0 3).bind fun x1 =>
    if x1 ≤ v3 then (
      some true
    ) else (
      if 12 ≤ v3 then (
        some true
      ) else (
        (gR h 1 v0 0).bind fun x2 =>
        (aI h 0 x2 v3).bind fun x3 =>
        (gR h 1 v0 1).bind fun x4 =>
        (aI h 0 x4 v3).bind fun x5 =>
        (fX1_agrees h v1 x3 x5 v2).bind fun q6 =>
        if q6 = true then (
          letF (v3 + 1 : Int32) fun x7 =>
          fX1_fitsAll_L2 h n v0 v1 v2 x7
        ) else (
          some false
        )
      )
    )
def fX1_fitsAll (h : AH) (a0 : Nat) (a1 : Nat) (a2 : Int32) : Option (Bool) :=
  if hasC h 1 a0 = true then (
    fX1_fitsAll_L2 h FU a0 a1 a2 0
  ) else none
set_option maxHeartbeats 4000000 in
theorem gX1_fitsAll_L2 {Y : YT} {X : XT} (C : CT Y X RX1 cX1_fitsAll 4) (O : RO X 5 0 0) {h : AH} {r : Bool} (E : RX Y X (some .boolean) (some (.int (b2i r))) h 0 0) : ∀ (n : Nat) (v0 : Nat) (v1 : Nat) (v2 : Int32) (v3 : Int32), GO Y X 4 r h 0 0 2 [(0, .ref v0), (1, .ref v1), (2, .int v2), (3, .int v3)] [] (fX1_fitsAll_L2 h n v0 v1 v2 v3) := by
  intro n
  induction n with
  | zero => intros; exact go_none _ _ _
  | succ n ih =>
    intro v0 v1 v2 v3
    rw [fX1_fitsAll_L2]
    refine go_iload_n (pc := 2) C 3 dX1_fitsAll_2 rfl ?_
    refine go_aload_n (pc := 3) C 0 dX1_fitsAll_3 rfl ?_
    refine go_gI (pc := 4) C fdX1_25 dX1_fitsAll_4 (fun x1 => ?_)
    refine go_icmp_ge (pc := 7) C 44 dX1_fitsAll_7 (by decide) (fun _ => ?_) (fun _ => ?_)
    · refine go_iconst (pc := 44) C dX1_fitsAll_44 ki_1 ?_
      exact go_bret (w := (wZ h)) (pc := 45) C E true 1 true rfl dX1_fitsAll_45 rfl
    · refine go_iload_n (pc := 10) C 3 dX1_fitsAll_10 rfl ?_
      refine go_bipush (pc := 11) C dX1_fitsAll_11 kb_12 ?_
      refine go_icmp_ge (pc := 13) C 44 dX1_fitsAll_13 (by decide) (fun _ => ?_) (fun _ => ?_)
      · refine go_iconst (pc := 44) C dX1_fitsAll_44 ki_1 ?_
        exact go_bret (w := (wZ h)) (pc := 45) C E true 1 true rfl dX1_fitsAll_45 rfl
      · refine go_aload_n (pc := 16) C 1 dX1_fitsAll_16 rfl ?_
        refine go_aload_n (pc := 17) C 0 dX1_fitsAll_17 rfl ?_
        refine go_gR (pc := 18) C fdX1_11 dX1_fitsAll_18 (fun x2 => ?_)
        refine go_iload_n (pc := 21) C 3 dX1_fitsAll_21 rfl ?_
        refine go_iald (pc := 22) C dX1_fitsAll_22 (fun x3 => ?_)
        refine go_aload_n (pc := 23) C 0 dX1_fitsAll_23 rfl ?_
        refine go_gR (pc := 24) C fdX1_15 dX1_fitsAll_24 (fun x4 => ?_)
        refine go_iload_n (pc := 27) C 3 dX1_fitsAll_27 rfl ?_
        refine go_iald (pc := 28) C dX1_fitsAll_28 (fun x5 => ?_)
        refine go_iload_n (pc := 29) C 2 dX1_fitsAll_29 rfl ?_
        refine go_bind (fun q6 hq6 => ?_)
        refine go_callS (rest := []) (st' := [.int (b2i q6)]) (c' := 0) (s' := 0) (pc := 30) C O miX1_42 w_1023 [.ref v1, .int x3, .int x5, .int v2] rfl (mX1_agrees hq6) dX1_fitsAll_30 ⟨by decide, by decide, by decide, by decide⟩ rfl (Nat.le_of_ble_eq_true rfl) rfl ⟨rfl, rfl⟩ ?_
        refine go_ifZ_ne (pc := 33) C 38 dX1_fitsAll_33 (by decide) (fun _ => ?_) (fun _ => ?_)
        · refine go_iincL (pc := 38) C 3 dX1_fitsAll_38 rfl ki_1 (by decide) (fun x7 => [(3, .int x7), (0, .ref v0), (1, .ref v1), (2, .int v2)]) (fun _ => rfl) (fun x7 => ?_)
          refine go_goto (pc := 41) C 2 dX1_fitsAll_41 (by decide) ?_
          refine go_sub (ls' := [(0, .ref v0), (1, .ref v1), (2, .int v2), (3, .int x7)]) [1, 2, 3, 0] rfl ?_
          exact ih v0 v1 v2 x7
        · refine go_iconst (pc := 36) C dX1_fitsAll_36 ki_0 ?_
          exact go_bret (w := (wZ h)) (pc := 37) C E false 0 false rfl dX1_fitsAll_37 rfl
set_option maxHeartbeats 4000000 in
theorem mX1_fitsAll {h : AH} {a0 : Nat} {a1 : Nat} {a2 : Int32} {r : Bool} (hr : fX1_fitsAll h a0 a1 a2 = some r) : hasC h 1 a0 = true ∧ MC yX1_fitsAll cX1_fitsAll 4 (some .boolean) 5 0 0 [.ref a0, .ref a1, .int a2] h (some (.int (b2i r))) h := by
  unfold fX1_fitsAll at hr
  obtain ⟨hc, hr⟩ := if_some hr
  refine ⟨hc, mc_of (l0 := [(0, .ref a0), (1, .ref a1), (2, .int a2)]) rfl pn_X1 (Nat.le_of_ble_eq_true rfl) (fun Y X C E O hnm => go_run hr ?_)⟩
  have C : CT Y X RX1 cX1_fitsAll 4 := C
  refine go_iconst (pc := 0) C dX1_fitsAll_0 ki_0 ?_
  refine go_istore_n (ls' := [(3, .int 0), (0, .ref a0), (1, .ref a1), (2, .int a2)]) (pc := 1) C dX1_fitsAll_1 (by decide) rfl ?_
  refine go_sub (ls' := [(0, .ref a0), (1, .ref a1), (2, .int a2), (3, .int 0)]) [1, 2, 3, 0] rfl ?_
  refine gX1_fitsAll_L2 C O E FU a0 a1 a2 0
theorem dX1_gather_0 : decode cX1_gather 0 = .ok (.aload_n 0, 1) := by decide +kernel
theorem dX1_gather_1 : decode cX1_gather 1 = .ok (.iconst 0, 1) := by decide +kernel
theorem dX1_gather_2 : decode cX1_gather 2 = .ok (.putfield 29, 3) := by decide +kernel
theorem dX1_gather_5 : decode cX1_gather 5 = .ok (.iconst 0, 1) := by decide +kernel
theorem dX1_gather_6 : decode cX1_gather 6 = .ok (.istore_n 2, 1) := by decide +kernel
theorem dX1_gather_7 : decode cX1_gather 7 = .ok (.iload_n 2, 1) := by decide +kernel
theorem dX1_gather_8 : decode cX1_gather 8 = .ok (.sipush 192, 3) := by decide +kernel
theorem dX1_gather_11 : decode cX1_gather 11 = .ok (.if_icmp .ge 74, 3) := by decide +kernel
theorem dX1_gather_14 : decode cX1_gather 14 = .ok (.aload_n 1, 1) := by decide +kernel
theorem dX1_gather_15 : decode cX1_gather 15 = .ok (.iload_n 2, 1) := by decide +kernel
theorem dX1_gather_16 : decode cX1_gather 16 = .ok (.bipush 8, 2) := by decide +kernel
theorem dX1_gather_18 : decode cX1_gather 18 = .ok (.idiv, 1) := by decide +kernel
theorem dX1_gather_19 : decode cX1_gather 19 = .ok (.iload_n 2, 1) := by decide +kernel
theorem dX1_gather_20 : decode cX1_gather 20 = .ok (.bipush 8, 2) := by decide +kernel
theorem dX1_gather_22 : decode cX1_gather 22 = .ok (.irem, 1) := by decide +kernel
theorem dX1_gather_23 : decode cX1_gather 23 = .ok (.invokevirtual 32, 3) := by decide +kernel
theorem dX1_gather_26 : decode cX1_gather 26 = .ok (.istore_n 3, 1) := by decide +kernel
theorem dX1_gather_27 : decode cX1_gather 27 = .ok (.iload_n 3, 1) := by decide +kernel
theorem dX1_gather_28 : decode cX1_gather 28 = .ok (.ifCond .eq 51, 3) := by decide +kernel
theorem dX1_gather_31 : decode cX1_gather 31 = .ok (.aload_n 0, 1) := by decide +kernel
theorem dX1_gather_32 : decode cX1_gather 32 = .ok (.aload_n 1, 1) := by decide +kernel
theorem dX1_gather_33 : decode cX1_gather 33 = .ok (.iload_n 2, 1) := by decide +kernel
theorem dX1_gather_34 : decode cX1_gather 34 = .ok (.invokevirtual 38, 3) := by decide +kernel
theorem dX1_gather_37 : decode cX1_gather 37 = .ok (.ifCond .eq 42, 3) := by decide +kernel
theorem dX1_gather_40 : decode cX1_gather 40 = .ok (.aload_n 0, 1) := by decide +kernel
theorem dX1_gather_41 : decode cX1_gather 41 = .ok (.getfield 29, 3) := by decide +kernel
theorem dX1_gather_44 : decode cX1_gather 44 = .ok (.ifCond .lt 35, 3) := by decide +kernel
theorem dX1_gather_47 : decode cX1_gather 47 = .ok (.aload_n 0, 1) := by decide +kernel
theorem dX1_gather_48 : decode cX1_gather 48 = .ok (.getfield 29, 3) := by decide +kernel
theorem dX1_gather_51 : decode cX1_gather 51 = .ok (.aload_n 0, 1) := by decide +kernel
theorem dX1_gather_52 : decode cX1_gather 52 = .ok (.getfield 18, 3) := by decide +kernel
theorem dX1_gather_55 : decode cX1_gather 55 = .ok (.arraylength, 1) := by decide +kernel
theorem dX1_gather_56 : decode cX1_gather 56 = .ok (.if_icmp .ge 23, 3) := by decide +kernel
theorem dX1_gather_59 : decode cX1_gather 59 = .ok (.aload_n 0, 1) := by decide +kernel
theorem dX1_gather_60 : decode cX1_gather 60 = .ok (.getfield 18, 3) := by decide +kernel
theorem dX1_gather_63 : decode cX1_gather 63 = .ok (.aload_n 0, 1) := by decide +kernel
theorem dX1_gather_64 : decode cX1_gather 64 = .ok (.getfield 29, 3) := by decide +kernel
theorem dX1_gather_67 : decode cX1_gather 67 = .ok (.iload_n 2, 1) := by decide +kernel
theorem dX1_gather_68 : decode cX1_gather 68 = .ok (.iastore, 1) := by decide +kernel
theorem dX1_gather_69 : decode cX1_gather 69 = .ok (.aload_n 0, 1) := by decide +kernel
theorem dX1_gather_70 : decode cX1_gather 70 = .ok (.dup, 1) := by decide +kernel
theorem dX1_gather_71 : decode cX1_gather 71 = .ok (.getfield 29, 3) := by decide +kernel
theorem dX1_gather_74 : decode cX1_gather 74 = .ok (.iconst 1, 1) := by decide +kernel
theorem dX1_gather_75 : decode cX1_gather 75 = .ok (.iadd, 1) := by decide +kernel
theorem dX1_gather_76 : decode cX1_gather 76 = .ok (.putfield 29, 3) := by decide +kernel
theorem dX1_gather_79 : decode cX1_gather 79 = .ok (.iinc 2 1, 3) := by decide +kernel
theorem dX1_gather_82 : decode cX1_gather 82 = .ok (.goto (-75), 3) := by decide +kernel
theorem dX1_gather_85 : decode cX1_gather 85 = .ok (.aload_n 0, 1) := by decide +kernel
theorem dX1_gather_86 : decode cX1_gather 86 = .ok (.getfield 29, 3) := by decide +kernel
theorem dX1_gather_89 : decode cX1_gather 89 = .ok (.ireturn, 1) := by decide +kernel
def fX1_gather_L7 : Nat → AH → Nat → Nat → Int32 → Option (Int32 × AH)
  | 0, _, _, _, _ => none
  | n + 1, h, v0, v1, v2 =>
    if 192 ≤ v2 then (
      (gI h 1 v0 4).bind fun x1 =>
      some ((x1, h))
    ) else (
      (jdiv v2 8).bind fun x2 =>
      (jrem v2 8).bind fun x3 =>
      (fX9_holds h v1 x2 x3).bind fun q4 =>
      if q4 = true then (
        (fX1_fitsAll h v0 v1 v2).bind fun q5 =>
        if q5 = true then (
          (gI h 1 v0 4).bind fun x6 =>
          if x6 < 0 then (
            letF (v2 + 1 : Int32) fun x7 =>
            fX1_gather_L7 n h v0 v1 x7
          ) else (
            (gI h 1 v0 4).bind fun x8 =>
            (gR h 1 v0 2).bind fun x9 =>
            (aL h 0 x9).bind fun x10 =>
            if x10 ≤ x8 then (
              letF (v2 + 1 : Int32) fun x11 =>
              fX1_gather_L7 n h v0 v1 x11
            ) else (
              (gR h 1 v0 2).bind fun x12 =>
              (gI h 1 v0 4).bind fun x13 =>
              (sI h 0 x12 x13 v2).bind fun h14 =>
              (gI h14 1 v0 4).bind fun x15 =>
              (pF h14 1 v0 4 (.int (x15 + 1))).bind fun h16 =>
              letF (v2 + 1 : Int32) fun x17 =>
              fX1_gather_L7 n h16 v0 v1 x17
            )
          )
        ) else (
          letF (v2 + 1 : Int32) fun x18 =>
          fX1_gather_L7 n h v0 v1 x18
        )
      ) else (
        letF (v2 + 1 : Int32) fun x19 =>
        fX1_gather_L7 n h v0 v1 x19
      )
    )
def fX1_gather (h : AH) (a0 : Nat) (a1 : Nat) : Option (Int32 × AH) :=
  if hasC h 1 a0 = true then (
    (pF h 1 a0 4 (.int 0)).bind fun h20 =>
    fX1_gather_L7 FU h20 a0 a1 0
  ) else none
set_option maxHeartbeats 4000000 in
theorem gX1_gather_L7 {Y : YT} {X : XT} (C : CT Y X RX1 cX1_gather 4) (O : RO X 6 0 0) {r : Int32 × AH} (E : RX Y X (some .int) (some (.int r.1)) r.2 0 0) : ∀ (n : Nat) (h : AH) (v0 : Nat) (v1 : Nat) (v2 : Int32), GO Y X 4 r h 0 0 7 [(0, .ref v0), (1, .ref v1), (2, .int v2)] [] (fX1_gather_L7 n h v0 v1 v2) := by
  intro n
  induction n with
  | zero => intros; exact go_none _ _ _
  | succ n ih =>
    intro h v0 v1 v2
    rw [fX1_gather_L7]
    refine go_iload_n (pc := 7) C 2 dX1_gather_7 rfl ?_
    refine go_sipush (pc := 8) C dX1_gather_8 ks_192 ?_
    refine go_icmp_ge (pc := 11) C 85 dX1_gather_11 (by decide) (fun _ => ?_) (fun _ => ?_)
    · refine go_aload_n (pc := 85) C 0 dX1_gather_85 rfl ?_
      refine go_gI (pc := 86) C fdX1_29 dX1_gather_86 (fun x1 => ?_)
      exact go_iret (w := wIh) (pc := 89) C E ((x1, h)) x1 dX1_gather_89 rfl
    · refine go_aload_n (pc := 14) C 1 dX1_gather_14 rfl ?_
      refine go_iload_n (pc := 15) C 2 dX1_gather_15 rfl ?_
      refine go_bipush (pc := 16) C dX1_gather_16 kb_8 ?_
      refine go_idiv (pc := 18) C dX1_gather_18 (fun x2 => ?_)
      refine go_iload_n (pc := 19) C 2 dX1_gather_19 rfl ?_
      refine go_bipush (pc := 20) C dX1_gather_20 kb_8 ?_
      refine go_irem (pc := 22) C dX1_gather_22 (fun x3 => ?_)
      refine go_bind (fun q4 hq4 => ?_)
      refine go_callV (rest := []) (st' := [.int (b2i q4)]) (c' := 0) (s' := 0) (pc := 23) C O miX1_32 mvX9_holds [.int x2, .int x3] rfl (mX9_holds hq4).1 (mX9_holds hq4).2 dX1_gather_23 ⟨by decide, by decide, by decide, by decide⟩ rfl (Nat.le_of_ble_eq_true rfl) rfl ⟨rfl, rfl⟩ ?_
      refine go_istore_n (ls' := [(3, .int (b2i q4)), (0, .ref v0), (1, .ref v1), (2, .int v2)]) (pc := 26) C dX1_gather_26 (by decide) rfl ?_
      refine go_iload_n (pc := 27) C 0 dX1_gather_27 rfl ?_
      refine go_ifZ_eq (pc := 28) C 79 dX1_gather_28 (by decide) (fun _ => ?_) (fun _ => ?_)
      · refine go_aload_n (pc := 31) C 1 dX1_gather_31 rfl ?_
        refine go_aload_n (pc := 32) C 2 dX1_gather_32 rfl ?_
        refine go_iload_n (pc := 33) C 3 dX1_gather_33 rfl ?_
        refine go_bind (fun q5 hq5 => ?_)
        refine go_callV (rest := []) (st' := [.int (b2i q5)]) (c' := 0) (s' := 0) (pc := 34) C O miX1_38 mvX1_fitsAll [.ref v1, .int v2] rfl (mX1_fitsAll hq5).1 (mX1_fitsAll hq5).2 dX1_gather_34 ⟨by decide, by decide, by decide, by decide⟩ rfl (Nat.le_of_ble_eq_true rfl) rfl ⟨rfl, rfl⟩ ?_
        refine go_ifZ_eq (pc := 37) C 79 dX1_gather_37 (by decide) (fun _ => ?_) (fun _ => ?_)
        · refine go_aload_n (pc := 40) C 1 dX1_gather_40 rfl ?_
          refine go_gI (pc := 41) C fdX1_29 dX1_gather_41 (fun x6 => ?_)
          refine go_if_lt (pc := 44) C 79 dX1_gather_44 (by decide) (fun _ => ?_) (fun _ => ?_)
          · refine go_iincL (pc := 79) C 3 dX1_gather_79 rfl ki_1 (by decide) (fun x7 => [(2, .int x7), (3, .int (b2i q4)), (0, .ref v0), (1, .ref v1)]) (fun _ => rfl) (fun x7 => ?_)
            refine go_goto (pc := 82) C 7 dX1_gather_82 (by decide) ?_
            refine go_sub (ls' := [(0, .ref v0), (1, .ref v1), (2, .int x7)]) [2, 3, 0] rfl ?_
            exact ih h v0 v1 x7
          · refine go_aload_n (pc := 47) C 1 dX1_gather_47 rfl ?_
            refine go_gI (pc := 48) C fdX1_29 dX1_gather_48 (fun x8 => ?_)
            refine go_aload_n (pc := 51) C 1 dX1_gather_51 rfl ?_
            refine go_gR (pc := 52) C fdX1_18 dX1_gather_52 (fun x9 => ?_)
            refine go_alen (pc := 55) C 0 (by decide) dX1_gather_55 (fun x10 => ?_)
            refine go_icmp_ge (pc := 56) C 79 dX1_gather_56 (by decide) (fun _ => ?_) (fun _ => ?_)
            · refine go_iincL (pc := 79) C 3 dX1_gather_79 rfl ki_1 (by decide) (fun x11 => [(2, .int x11), (3, .int (b2i q4)), (0, .ref v0), (1, .ref v1)]) (fun _ => rfl) (fun x11 => ?_)
              refine go_goto (pc := 82) C 7 dX1_gather_82 (by decide) ?_
              refine go_sub (ls' := [(0, .ref v0), (1, .ref v1), (2, .int x11)]) [2, 3, 0] rfl ?_
              exact ih h v0 v1 x11
            · refine go_aload_n (pc := 59) C 1 dX1_gather_59 rfl ?_
              refine go_gR (pc := 60) C fdX1_18 dX1_gather_60 (fun x12 => ?_)
              refine go_aload_n (pc := 63) C 1 dX1_gather_63 rfl ?_
              refine go_gI (pc := 64) C fdX1_29 dX1_gather_64 (fun x13 => ?_)
              refine go_iload_n (pc := 67) C 3 dX1_gather_67 rfl ?_
              refine go_iast (pc := 68) C dX1_gather_68 (fun h14 => ?_)
              refine go_aload_n (pc := 69) C 1 dX1_gather_69 rfl ?_
              refine go_dup (pc := 70) C dX1_gather_70 rfl ?_
              refine go_gI (pc := 71) C fdX1_29 dX1_gather_71 (fun x15 => ?_)
              refine go_iconst (pc := 74) C dX1_gather_74 ki_1 ?_
              refine go_iadd (pc := 75) C dX1_gather_75 ?_
              refine go_pI (pc := 76) C fpX1_29 dX1_gather_76 (fun h16 => ?_)
              refine go_iincL (pc := 79) C 3 dX1_gather_79 rfl ki_1 (by decide) (fun x17 => [(2, .int x17), (3, .int (b2i q4)), (0, .ref v0), (1, .ref v1)]) (fun _ => rfl) (fun x17 => ?_)
              refine go_goto (pc := 82) C 7 dX1_gather_82 (by decide) ?_
              refine go_sub (ls' := [(0, .ref v0), (1, .ref v1), (2, .int x17)]) [2, 3, 0] rfl ?_
              exact ih h16 v0 v1 x17
        · refine go_iincL (pc := 79) C 3 dX1_gather_79 rfl ki_1 (by decide) (fun x18 => [(2, .int x18), (3, .int (b2i q4)), (0, .ref v0), (1, .ref v1)]) (fun _ => rfl) (fun x18 => ?_)
          refine go_goto (pc := 82) C 7 dX1_gather_82 (by decide) ?_
          refine go_sub (ls' := [(0, .ref v0), (1, .ref v1), (2, .int x18)]) [2, 3, 0] rfl ?_
          exact ih h v0 v1 x18
      · refine go_iincL (pc := 79) C 3 dX1_gather_79 rfl ki_1 (by decide) (fun x19 => [(2, .int x19), (3, .int (b2i q4)), (0, .ref v0), (1, .ref v1)]) (fun _ => rfl) (fun x19 => ?_)
        refine go_goto (pc := 82) C 7 dX1_gather_82 (by decide) ?_
        refine go_sub (ls' := [(0, .ref v0), (1, .ref v1), (2, .int x19)]) [2, 3, 0] rfl ?_
        exact ih h v0 v1 x19
set_option maxHeartbeats 4000000 in
theorem mX1_gather {h : AH} {a0 : Nat} {a1 : Nat} {r : Int32 × AH} (hr : fX1_gather h a0 a1 = some r) : hasC h 1 a0 = true ∧ MC yX1_gather cX1_gather 4 (some .int) 6 0 0 [.ref a0, .ref a1] h (some (.int r.1)) r.2 := by
  unfold fX1_gather at hr
  obtain ⟨hc, hr⟩ := if_some hr
  refine ⟨hc, mc_of (l0 := [(0, .ref a0), (1, .ref a1)]) rfl pn_X1 (Nat.le_of_ble_eq_true rfl) (fun Y X C E O hnm => go_run hr ?_)⟩
  have C : CT Y X RX1 cX1_gather 4 := C
  refine go_aload_n (pc := 0) C 0 dX1_gather_0 rfl ?_
  refine go_iconst (pc := 1) C dX1_gather_1 ki_0 ?_
  refine go_pI (pc := 2) C fpX1_29 dX1_gather_2 (fun h20 => ?_)
  refine go_iconst (pc := 5) C dX1_gather_5 ki_0 ?_
  refine go_istore_n (ls' := [(2, .int 0), (0, .ref a0), (1, .ref a1)]) (pc := 6) C dX1_gather_6 (by decide) rfl ?_
  refine go_sub (ls' := [(0, .ref a0), (1, .ref a1), (2, .int 0)]) [1, 2, 0] rfl ?_
  refine gX1_gather_L7 C O E FU h20 a0 a1 0
theorem dX1_gatheredObject_0 : decode cX1_gatheredObject 0 = .ok (.iload_n 1, 1) := by decide +kernel
theorem dX1_gatheredObject_1 : decode cX1_gatheredObject 1 = .ok (.ifCond .lt 24, 3) := by decide +kernel
theorem dX1_gatheredObject_4 : decode cX1_gatheredObject 4 = .ok (.iload_n 1, 1) := by decide +kernel
theorem dX1_gatheredObject_5 : decode cX1_gatheredObject 5 = .ok (.aload_n 0, 1) := by decide +kernel
theorem dX1_gatheredObject_6 : decode cX1_gatheredObject 6 = .ok (.getfield 18, 3) := by decide +kernel
theorem dX1_gatheredObject_9 : decode cX1_gatheredObject 9 = .ok (.arraylength, 1) := by decide +kernel
theorem dX1_gatheredObject_10 : decode cX1_gatheredObject 10 = .ok (.if_icmp .ge 15, 3) := by decide +kernel
theorem dX1_gatheredObject_13 : decode cX1_gatheredObject 13 = .ok (.aload_n 0, 1) := by decide +kernel
theorem dX1_gatheredObject_14 : decode cX1_gatheredObject 14 = .ok (.getfield 18, 3) := by decide +kernel
theorem dX1_gatheredObject_17 : decode cX1_gatheredObject 17 = .ok (.iload_n 1, 1) := by decide +kernel
theorem dX1_gatheredObject_18 : decode cX1_gatheredObject 18 = .ok (.iaload, 1) := by decide +kernel
theorem dX1_gatheredObject_19 : decode cX1_gatheredObject 19 = .ok (.bipush 8, 2) := by decide +kernel
theorem dX1_gatheredObject_21 : decode cX1_gatheredObject 21 = .ok (.idiv, 1) := by decide +kernel
theorem dX1_gatheredObject_22 : decode cX1_gatheredObject 22 = .ok (.goto 4, 3) := by decide +kernel
theorem dX1_gatheredObject_25 : decode cX1_gatheredObject 25 = .ok (.iconst 0, 1) := by decide +kernel
theorem dX1_gatheredObject_26 : decode cX1_gatheredObject 26 = .ok (.ireturn, 1) := by decide +kernel
def fX1_gatheredObject (h : AH) (a0 : Nat) (a1 : Int32) : Option (Int32) :=
  if hasC h 1 a0 = true then (
    if a1 < 0 then (
      some 0
    ) else (
      (gR h 1 a0 2).bind fun x1 =>
      (aL h 0 x1).bind fun x2 =>
      if x2 ≤ a1 then (
        some 0
      ) else (
        (gR h 1 a0 2).bind fun x3 =>
        (aI h 0 x3 a1).bind fun x4 =>
        (jdiv x4 8).bind fun x5 =>
        some x5
      )
    )
  ) else none
set_option maxHeartbeats 4000000 in
theorem mX1_gatheredObject {h : AH} {a0 : Nat} {a1 : Int32} {r : Int32} (hr : fX1_gatheredObject h a0 a1 = some r) : hasC h 1 a0 = true ∧ MC yX1_gatheredObject cX1_gatheredObject 2 (some .int) 1 0 0 [.ref a0, .int a1] h (some (.int r)) h := by
  unfold fX1_gatheredObject at hr
  obtain ⟨hc, hr⟩ := if_some hr
  refine ⟨hc, mc_of (l0 := [(0, .ref a0), (1, .int a1)]) rfl pn_X1 (Nat.le_of_ble_eq_true rfl) (fun Y X C E O hnm => go_run hr ?_)⟩
  have C : CT Y X RX1 cX1_gatheredObject 2 := C
  refine go_iload_n (pc := 0) C 1 dX1_gatheredObject_0 rfl ?_
  refine go_if_lt (pc := 1) C 25 dX1_gatheredObject_1 (by decide) (fun _ => ?_) (fun _ => ?_)
  · refine go_iconst (pc := 25) C dX1_gatheredObject_25 ki_0 ?_
    exact go_iret (w := (wI h)) (pc := 26) C E 0 0 dX1_gatheredObject_26 rfl
  · refine go_iload_n (pc := 4) C 1 dX1_gatheredObject_4 rfl ?_
    refine go_aload_n (pc := 5) C 0 dX1_gatheredObject_5 rfl ?_
    refine go_gR (pc := 6) C fdX1_18 dX1_gatheredObject_6 (fun x1 => ?_)
    refine go_alen (pc := 9) C 0 (by decide) dX1_gatheredObject_9 (fun x2 => ?_)
    refine go_icmp_ge (pc := 10) C 25 dX1_gatheredObject_10 (by decide) (fun _ => ?_) (fun _ => ?_)
    · refine go_iconst (pc := 25) C dX1_gatheredObject_25 ki_0 ?_
      exact go_iret (w := (wI h)) (pc := 26) C E 0 0 dX1_gatheredObject_26 rfl
    · refine go_aload_n (pc := 13) C 0 dX1_gatheredObject_13 rfl ?_
      refine go_gR (pc := 14) C fdX1_18 dX1_gatheredObject_14 (fun x3 => ?_)
      refine go_iload_n (pc := 17) C 1 dX1_gatheredObject_17 rfl ?_
      refine go_iald (pc := 18) C dX1_gatheredObject_18 (fun x4 => ?_)
      refine go_bipush (pc := 19) C dX1_gatheredObject_19 kb_8 ?_
      refine go_idiv (pc := 21) C dX1_gatheredObject_21 (fun x5 => ?_)
      refine go_goto (pc := 22) C 26 dX1_gatheredObject_22 (by decide) ?_
      exact go_iret (w := (wI h)) (pc := 26) C E x5 x5 dX1_gatheredObject_26 rfl
theorem dX1_gatheredPage_0 : decode cX1_gatheredPage 0 = .ok (.iload_n 1, 1) := by decide +kernel
theorem dX1_gatheredPage_1 : decode cX1_gatheredPage 1 = .ok (.ifCond .lt 24, 3) := by decide +kernel
theorem dX1_gatheredPage_4 : decode cX1_gatheredPage 4 = .ok (.iload_n 1, 1) := by decide +kernel
theorem dX1_gatheredPage_5 : decode cX1_gatheredPage 5 = .ok (.aload_n 0, 1) := by decide +kernel
theorem dX1_gatheredPage_6 : decode cX1_gatheredPage 6 = .ok (.getfield 18, 3) := by decide +kernel
theorem dX1_gatheredPage_9 : decode cX1_gatheredPage 9 = .ok (.arraylength, 1) := by decide +kernel
theorem dX1_gatheredPage_10 : decode cX1_gatheredPage 10 = .ok (.if_icmp .ge 15, 3) := by decide +kernel
theorem dX1_gatheredPage_13 : decode cX1_gatheredPage 13 = .ok (.aload_n 0, 1) := by decide +kernel
theorem dX1_gatheredPage_14 : decode cX1_gatheredPage 14 = .ok (.getfield 18, 3) := by decide +kernel
theorem dX1_gatheredPage_17 : decode cX1_gatheredPage 17 = .ok (.iload_n 1, 1) := by decide +kernel
theorem dX1_gatheredPage_18 : decode cX1_gatheredPage 18 = .ok (.iaload, 1) := by decide +kernel
theorem dX1_gatheredPage_19 : decode cX1_gatheredPage 19 = .ok (.bipush 8, 2) := by decide +kernel
theorem dX1_gatheredPage_21 : decode cX1_gatheredPage 21 = .ok (.irem, 1) := by decide +kernel
theorem dX1_gatheredPage_22 : decode cX1_gatheredPage 22 = .ok (.goto 4, 3) := by decide +kernel
theorem dX1_gatheredPage_25 : decode cX1_gatheredPage 25 = .ok (.iconst 0, 1) := by decide +kernel
theorem dX1_gatheredPage_26 : decode cX1_gatheredPage 26 = .ok (.ireturn, 1) := by decide +kernel
def fX1_gatheredPage (h : AH) (a0 : Nat) (a1 : Int32) : Option (Int32) :=
  if hasC h 1 a0 = true then (
    if a1 < 0 then (
      some 0
    ) else (
      (gR h 1 a0 2).bind fun x1 =>
      (aL h 0 x1).bind fun x2 =>
      if x2 ≤ a1 then (
        some 0
      ) else (
        (gR h 1 a0 2).bind fun x3 =>
        (aI h 0 x3 a1).bind fun x4 =>
        (jrem x4 8).bind fun x5 =>
        some x5
      )
    )
  ) else none
set_option maxHeartbeats 4000000 in
theorem mX1_gatheredPage {h : AH} {a0 : Nat} {a1 : Int32} {r : Int32} (hr : fX1_gatheredPage h a0 a1 = some r) : hasC h 1 a0 = true ∧ MC yX1_gatheredPage cX1_gatheredPage 2 (some .int) 1 0 0 [.ref a0, .int a1] h (some (.int r)) h := by
  unfold fX1_gatheredPage at hr
  obtain ⟨hc, hr⟩ := if_some hr
  refine ⟨hc, mc_of (l0 := [(0, .ref a0), (1, .int a1)]) rfl pn_X1 (Nat.le_of_ble_eq_true rfl) (fun Y X C E O hnm => go_run hr ?_)⟩
  have C : CT Y X RX1 cX1_gatheredPage 2 := C
  refine go_iload_n (pc := 0) C 1 dX1_gatheredPage_0 rfl ?_
  refine go_if_lt (pc := 1) C 25 dX1_gatheredPage_1 (by decide) (fun _ => ?_) (fun _ => ?_)
  · refine go_iconst (pc := 25) C dX1_gatheredPage_25 ki_0 ?_
    exact go_iret (w := (wI h)) (pc := 26) C E 0 0 dX1_gatheredPage_26 rfl
  · refine go_iload_n (pc := 4) C 1 dX1_gatheredPage_4 rfl ?_
    refine go_aload_n (pc := 5) C 0 dX1_gatheredPage_5 rfl ?_
    refine go_gR (pc := 6) C fdX1_18 dX1_gatheredPage_6 (fun x1 => ?_)
    refine go_alen (pc := 9) C 0 (by decide) dX1_gatheredPage_9 (fun x2 => ?_)
    refine go_icmp_ge (pc := 10) C 25 dX1_gatheredPage_10 (by decide) (fun _ => ?_) (fun _ => ?_)
    · refine go_iconst (pc := 25) C dX1_gatheredPage_25 ki_0 ?_
      exact go_iret (w := (wI h)) (pc := 26) C E 0 0 dX1_gatheredPage_26 rfl
    · refine go_aload_n (pc := 13) C 0 dX1_gatheredPage_13 rfl ?_
      refine go_gR (pc := 14) C fdX1_18 dX1_gatheredPage_14 (fun x3 => ?_)
      refine go_iload_n (pc := 17) C 1 dX1_gatheredPage_17 rfl ?_
      refine go_iald (pc := 18) C dX1_gatheredPage_18 (fun x4 => ?_)
      refine go_bipush (pc := 19) C dX1_gatheredPage_19 kb_8 ?_
      refine go_irem (pc := 21) C dX1_gatheredPage_21 (fun x5 => ?_)
      refine go_goto (pc := 22) C 26 dX1_gatheredPage_22 (by decide) ?_
      exact go_iret (w := (wI h)) (pc := 26) C E x5 x5 dX1_gatheredPage_26 rfl
theorem dX1_agreeing_0 : decode cX1_agreeing 0 = .ok (.iconst 0, 1) := by decide +kernel
theorem dX1_agreeing_1 : decode cX1_agreeing 1 = .ok (.istore 4, 2) := by decide +kernel
theorem dX1_agreeing_3 : decode cX1_agreeing 3 = .ok (.iconst 0, 1) := by decide +kernel
theorem dX1_agreeing_4 : decode cX1_agreeing 4 = .ok (.istore 5, 2) := by decide +kernel
theorem dX1_agreeing_6 : decode cX1_agreeing 6 = .ok (.iload 5, 2) := by decide +kernel
theorem dX1_agreeing_8 : decode cX1_agreeing 8 = .ok (.aload_n 0, 1) := by decide +kernel
theorem dX1_agreeing_9 : decode cX1_agreeing 9 = .ok (.getfield 29, 3) := by decide +kernel
theorem dX1_agreeing_12 : decode cX1_agreeing 12 = .ok (.if_icmp .ge 45, 3) := by decide +kernel
theorem dX1_agreeing_15 : decode cX1_agreeing 15 = .ok (.iload 5, 2) := by decide +kernel
theorem dX1_agreeing_17 : decode cX1_agreeing 17 = .ok (.aload_n 0, 1) := by decide +kernel
theorem dX1_agreeing_18 : decode cX1_agreeing 18 = .ok (.getfield 18, 3) := by decide +kernel
theorem dX1_agreeing_21 : decode cX1_agreeing 21 = .ok (.arraylength, 1) := by decide +kernel
theorem dX1_agreeing_22 : decode cX1_agreeing 22 = .ok (.if_icmp .ge 35, 3) := by decide +kernel
theorem dX1_agreeing_25 : decode cX1_agreeing 25 = .ok (.iload 4, 2) := by decide +kernel
theorem dX1_agreeing_27 : decode cX1_agreeing 27 = .ok (.aload_n 1, 1) := by decide +kernel
theorem dX1_agreeing_28 : decode cX1_agreeing 28 = .ok (.iload_n 2, 1) := by decide +kernel
theorem dX1_agreeing_29 : decode cX1_agreeing 29 = .ok (.iload_n 3, 1) := by decide +kernel
theorem dX1_agreeing_30 : decode cX1_agreeing 30 = .ok (.aload_n 0, 1) := by decide +kernel
theorem dX1_agreeing_31 : decode cX1_agreeing 31 = .ok (.getfield 18, 3) := by decide +kernel
theorem dX1_agreeing_34 : decode cX1_agreeing 34 = .ok (.iload 5, 2) := by decide +kernel
theorem dX1_agreeing_36 : decode cX1_agreeing 36 = .ok (.iaload, 1) := by decide +kernel
theorem dX1_agreeing_37 : decode cX1_agreeing 37 = .ok (.invokestatic 42, 3) := by decide +kernel
theorem dX1_agreeing_40 : decode cX1_agreeing 40 = .ok (.ifCond .eq 7, 3) := by decide +kernel
theorem dX1_agreeing_43 : decode cX1_agreeing 43 = .ok (.iconst 1, 1) := by decide +kernel
theorem dX1_agreeing_44 : decode cX1_agreeing 44 = .ok (.goto 4, 3) := by decide +kernel
theorem dX1_agreeing_47 : decode cX1_agreeing 47 = .ok (.iconst 0, 1) := by decide +kernel
theorem dX1_agreeing_48 : decode cX1_agreeing 48 = .ok (.iadd, 1) := by decide +kernel
theorem dX1_agreeing_49 : decode cX1_agreeing 49 = .ok (.istore 4, 2) := by decide +kernel
theorem dX1_agreeing_51 : decode cX1_agreeing 51 = .ok (.iinc 5 1, 3) := by decide +kernel
theorem dX1_agreeing_54 : decode cX1_agreeing 54 = .ok (.goto (-48), 3) := by decide +kernel
theorem dX1_agreeing_57 : decode cX1_agreeing 57 = .ok (.iload 4, 2) := by decide +kernel
theorem dX1_agreeing_59 : decode cX1_agreeing 59 = .ok (.ireturn, 1) := by decide +kernel
def fX1_agreeing_J48 (h : AH) (k6 : Nat → Nat → Int32 → Int32 → Int32 → Int32 → Option (Int32)) (v0 : Nat) (v1 : Nat) (v2 : Int32) (v3 : Int32) (v5 : Int32) (s0 : Int32) (s1 : Int32) : Option (Int32) :=
    letF (s1 + s0 : Int32) fun x1 =>
    letF (v5 + 1 : Int32) fun x2 =>
    k6 v0 v1 v2 v3 x1 x2
def fX1_agreeing_L6 (h : AH) : Nat → Nat → Nat → Int32 → Int32 → Int32 → Int32 → Option (Int32)
  | 0, _, _, _, _, _, _ => none
  | n + 1, v0, v1, v2, v3, v4, v5 =>
    (gI h 1 v0 4).bind fun x3 =>
    if x3 ≤ v5 then (
      some v4
    ) else (
      (gR h 1 v0 2).bind fun x4 =>
      (aL h 0 x4).bind fun x5 =>
      if x5 ≤ v5 then (
        some v4
      ) else (
        (gR h 1 v0 2).bind fun x6 =>
        (aI h 0 x6 v5).bind fun x7 =>
        (fX1_agrees h v1 v2 v3 x7).bind fun q8 =>
        if q8 = true then (
          fX1_agreeing_J48 h (fX1_agreeing_L6 h n) v0 v1 v2 v3 v5 1 v4
        ) else (
          fX1_agreeing_J48 h (fX1_agreeing_L6 h n) v0 v1 v2 v3 v5 0 v4
        )
      )
    )
def fX1_agreeing (h : AH) (a0 : Nat) (a1 : Nat) (a2 : Int32) (a3 : Int32) : Option (Int32) :=
  if hasC h 1 a0 = true then (
    fX1_agreeing_L6 h FU a0 a1 a2 a3 0 0
  ) else none
set_option maxHeartbeats 4000000 in
theorem gX1_agreeing_J48 {Y : YT} {X : XT} (C : CT Y X RX1 cX1_agreeing 6) (O : RO X 5 0 0) {h : AH} {r : Int32} (E : RX Y X (some .int) (some (.int r)) h 0 0) {k6 : Nat → Nat → Int32 → Int32 → Int32 → Int32 → Option (Int32)} (hk6 : ∀ (v0 : Nat) (v1 : Nat) (v2 : Int32) (v3 : Int32) (v4 : Int32) (v5 : Int32), GO Y X 6 r h 0 0 6 [(0, .ref v0), (1, .ref v1), (2, .int v2), (3, .int v3), (4, .int v4), (5, .int v5)] [] (k6 v0 v1 v2 v3 v4 v5)) : ∀ (v0 : Nat) (v1 : Nat) (v2 : Int32) (v3 : Int32) (v5 : Int32) (s0 : Int32) (s1 : Int32), GO Y X 6 r h 0 0 48 [(0, .ref v0), (1, .ref v1), (2, .int v2), (3, .int v3), (5, .int v5)] [.int s0, .int s1] (fX1_agreeing_J48 h k6 v0 v1 v2 v3 v5 s0 s1) := by
  intro v0 v1 v2 v3 v5 s0 s1
  unfold fX1_agreeing_J48
  refine go_iadd (pc := 48) C dX1_agreeing_48 ?_
  refine go_istoreL (pc := 49) C dX1_agreeing_49 (by decide) (fun x1 => [(4, .int x1), (0, .ref v0), (1, .ref v1), (2, .int v2), (3, .int v3), (5, .int v5)]) (fun _ => rfl) (fun x1 => ?_)
  refine go_iincL (pc := 51) C 5 dX1_agreeing_51 rfl ki_1 (by decide) (fun x2 => [(5, .int x2), (4, .int x1), (0, .ref v0), (1, .ref v1), (2, .int v2), (3, .int v3)]) (fun _ => rfl) (fun x2 => ?_)
  refine go_goto (pc := 54) C 6 dX1_agreeing_54 (by decide) ?_
  refine go_sub (ls' := [(0, .ref v0), (1, .ref v1), (2, .int v2), (3, .int v3), (4, .int x1), (5, .int x2)]) [2, 3, 4, 5, 1, 0] rfl ?_
  exact hk6 v0 v1 v2 v3 x1 x2
set_option maxHeartbeats 4000000 in
theorem gX1_agreeing_L6 {Y : YT} {X : XT} (C : CT Y X RX1 cX1_agreeing 6) (O : RO X 5 0 0) {h : AH} {r : Int32} (E : RX Y X (some .int) (some (.int r)) h 0 0) : ∀ (n : Nat) (v0 : Nat) (v1 : Nat) (v2 : Int32) (v3 : Int32) (v4 : Int32) (v5 : Int32), GO Y X 6 r h 0 0 6 [(0, .ref v0), (1, .ref v1), (2, .int v2), (3, .int v3), (4, .int v4), (5, .int v5)] [] (fX1_agreeing_L6 h n v0 v1 v2 v3 v4 v5) := by
  intro n
  induction n with
  | zero => intros; exact go_none _ _ _
  | succ n ih =>
    intro v0 v1 v2 v3 v4 v5
    rw [fX1_agreeing_L6]
    refine go_iload (pc := 6) C 5 dX1_agreeing_6 rfl ?_
    refine go_aload_n (pc := 8) C 0 dX1_agreeing_8 rfl ?_
    refine go_gI (pc := 9) C fdX1_29 dX1_agreeing_9 (fun x3 => ?_)
    refine go_icmp_ge (pc := 12) C 57 dX1_agreeing_12 (by decide) (fun _ => ?_) (fun _ => ?_)
    · refine go_iload (pc := 57) C 4 dX1_agreeing_57 rfl ?_
      exact go_iret (w := (wI h)) (pc := 59) C E v4 v4 dX1_agreeing_59 rfl
    · refine go_iload (pc := 15) C 5 dX1_agreeing_15 rfl ?_
      refine go_aload_n (pc := 17) C 0 dX1_agreeing_17 rfl ?_
      refine go_gR (pc := 18) C fdX1_18 dX1_agreeing_18 (fun x4 => ?_)
      refine go_alen (pc := 21) C 0 (by decide) dX1_agreeing_21 (fun x5 => ?_)
      refine go_icmp_ge (pc := 22) C 57 dX1_agreeing_22 (by decide) (fun _ => ?_) (fun _ => ?_)
      · refine go_iload (pc := 57) C 4 dX1_agreeing_57 rfl ?_
        exact go_iret (w := (wI h)) (pc := 59) C E v4 v4 dX1_agreeing_59 rfl
      · refine go_iload (pc := 25) C 4 dX1_agreeing_25 rfl ?_
        refine go_aload_n (pc := 27) C 1 dX1_agreeing_27 rfl ?_
        refine go_iload_n (pc := 28) C 2 dX1_agreeing_28 rfl ?_
        refine go_iload_n (pc := 29) C 3 dX1_agreeing_29 rfl ?_
        refine go_aload_n (pc := 30) C 0 dX1_agreeing_30 rfl ?_
        refine go_gR (pc := 31) C fdX1_18 dX1_agreeing_31 (fun x6 => ?_)
        refine go_iload (pc := 34) C 5 dX1_agreeing_34 rfl ?_
        refine go_iald (pc := 36) C dX1_agreeing_36 (fun x7 => ?_)
        refine go_bind (fun q8 hq8 => ?_)
        refine go_callS (rest := [.int v4]) (st' := [.int (b2i q8), .int v4]) (c' := 0) (s' := 0) (pc := 37) C O miX1_42 w_1023 [.ref v1, .int v2, .int v3, .int x7] rfl (mX1_agrees hq8) dX1_agreeing_37 ⟨by decide, by decide, by decide, by decide⟩ rfl (Nat.le_of_ble_eq_true rfl) rfl ⟨rfl, rfl⟩ ?_
        refine go_ifZ_eq (pc := 40) C 47 dX1_agreeing_40 (by decide) (fun _ => ?_) (fun _ => ?_)
        · refine go_iconst (pc := 43) C dX1_agreeing_43 ki_1 ?_
          refine go_goto (pc := 44) C 48 dX1_agreeing_44 (by decide) ?_
          refine go_sub (ls' := [(0, .ref v0), (1, .ref v1), (2, .int v2), (3, .int v3), (5, .int v5)]) [0, 1, 2, 3, 5] rfl ?_
          refine gX1_agreeing_J48 C O E (ih) v0 v1 v2 v3 v5 1 v4
        · refine go_iconst (pc := 47) C dX1_agreeing_47 ki_0 ?_
          refine go_sub (ls' := [(0, .ref v0), (1, .ref v1), (2, .int v2), (3, .int v3), (5, .int v5)]) [0, 1, 2, 3, 5] rfl ?_
          refine gX1_agreeing_J48 C O E (ih) v0 v1 v2 v3 v5 0 v4
set_option maxHeartbeats 4000000 in
theorem mX1_agreeing {h : AH} {a0 : Nat} {a1 : Nat} {a2 : Int32} {a3 : Int32} {r : Int32} (hr : fX1_agreeing h a0 a1 a2 a3 = some r) : hasC h 1 a0 = true ∧ MC yX1_agreeing cX1_agreeing 6 (some .int) 5 0 0 [.ref a0, .ref a1, .int a2, .int a3] h (some (.int r)) h := by
  unfold fX1_agreeing at hr
  obtain ⟨hc, hr⟩ := if_some hr
  refine ⟨hc, mc_of (l0 := [(0, .ref a0), (1, .ref a1), (2, .int a2), (3, .int a3)]) rfl pn_X1 (Nat.le_of_ble_eq_true rfl) (fun Y X C E O hnm => go_run hr ?_)⟩
  have C : CT Y X RX1 cX1_agreeing 6 := C
  refine go_iconst (pc := 0) C dX1_agreeing_0 ki_0 ?_
  refine go_istore (ls' := [(4, .int 0), (0, .ref a0), (1, .ref a1), (2, .int a2), (3, .int a3)]) (pc := 1) C dX1_agreeing_1 (by decide) rfl ?_
  refine go_iconst (pc := 3) C dX1_agreeing_3 ki_0 ?_
  refine go_istore (ls' := [(5, .int 0), (4, .int 0), (0, .ref a0), (1, .ref a1), (2, .int a2), (3, .int a3)]) (pc := 4) C dX1_agreeing_4 (by decide) rfl ?_
  refine go_sub (ls' := [(0, .ref a0), (1, .ref a1), (2, .int a2), (3, .int a3), (4, .int 0), (5, .int 0)]) [2, 3, 4, 5, 1, 0] rfl ?_
  refine gX1_agreeing_L6 C O E FU a0 a1 a2 a3 0 0
theorem dX9_init_0 : decode cX9_init 0 = .ok (.aload_n 0, 1) := by decide +kernel
theorem dX9_init_1 : decode cX9_init 1 = .ok (.invokespecial 3, 3) := by decide +kernel
theorem dX9_init_4 : decode cX9_init 4 = .ok (.aload_n 0, 1) := by decide +kernel
theorem dX9_init_5 : decode cX9_init 5 = .ok (.bipush 6, 2) := by decide +kernel
theorem dX9_init_7 : decode cX9_init 7 = .ok (.newarray .int, 2) := by decide +kernel
theorem dX9_init_9 : decode cX9_init 9 = .ok (.putfield 9, 3) := by decide +kernel
theorem dX9_init_12 : decode cX9_init 12 = .ok (.aload_n 0, 1) := by decide +kernel
theorem dX9_init_13 : decode cX9_init 13 = .ok (.bipush 24, 2) := by decide +kernel
theorem dX9_init_15 : decode cX9_init 15 = .ok (.newarray .int, 2) := by decide +kernel
theorem dX9_init_17 : decode cX9_init 17 = .ok (.putfield 15, 3) := by decide +kernel
theorem dX9_init_20 : decode cX9_init 20 = .ok (.aload_n 0, 1) := by decide +kernel
theorem dX9_init_21 : decode cX9_init 21 = .ok (.bipush 24, 2) := by decide +kernel
theorem dX9_init_23 : decode cX9_init 23 = .ok (.newarray .int, 2) := by decide +kernel
theorem dX9_init_25 : decode cX9_init 25 = .ok (.putfield 18, 3) := by decide +kernel
theorem dX9_init_28 : decode cX9_init 28 = .ok (.aload_n 0, 1) := by decide +kernel
theorem dX9_init_29 : decode cX9_init 29 = .ok (.bipush 24, 2) := by decide +kernel
theorem dX9_init_31 : decode cX9_init 31 = .ok (.newarray .int, 2) := by decide +kernel
theorem dX9_init_33 : decode cX9_init 33 = .ok (.putfield 21, 3) := by decide +kernel
theorem dX9_init_36 : decode cX9_init 36 = .ok (.aload_n 0, 1) := by decide +kernel
theorem dX9_init_37 : decode cX9_init 37 = .ok (.bipush 24, 2) := by decide +kernel
theorem dX9_init_39 : decode cX9_init 39 = .ok (.newarray .int, 2) := by decide +kernel
theorem dX9_init_41 : decode cX9_init 41 = .ok (.putfield 24, 3) := by decide +kernel
theorem dX9_init_44 : decode cX9_init 44 = .ok (.aload_n 0, 1) := by decide +kernel
theorem dX9_init_45 : decode cX9_init 45 = .ok (.bipush 24, 2) := by decide +kernel
theorem dX9_init_47 : decode cX9_init 47 = .ok (.newarray .int, 2) := by decide +kernel
theorem dX9_init_49 : decode cX9_init 49 = .ok (.putfield 27, 3) := by decide +kernel
theorem dX9_init_52 : decode cX9_init 52 = .ok (.aload_n 0, 1) := by decide +kernel
theorem dX9_init_53 : decode cX9_init 53 = .ok (.bipush 24, 2) := by decide +kernel
theorem dX9_init_55 : decode cX9_init 55 = .ok (.newarray .int, 2) := by decide +kernel
theorem dX9_init_57 : decode cX9_init 57 = .ok (.putfield 30, 3) := by decide +kernel
theorem dX9_init_60 : decode cX9_init 60 = .ok (.aload_n 0, 1) := by decide +kernel
theorem dX9_init_61 : decode cX9_init 61 = .ok (.sipush 192, 3) := by decide +kernel
theorem dX9_init_64 : decode cX9_init 64 = .ok (.newarray .int, 2) := by decide +kernel
theorem dX9_init_66 : decode cX9_init 66 = .ok (.putfield 33, 3) := by decide +kernel
theorem dX9_init_69 : decode cX9_init 69 = .ok (.iconst 0, 1) := by decide +kernel
theorem dX9_init_70 : decode cX9_init 70 = .ok (.istore_n 1, 1) := by decide +kernel
theorem dX9_init_71 : decode cX9_init 71 = .ok (.iload_n 1, 1) := by decide +kernel
theorem dX9_init_72 : decode cX9_init 72 = .ok (.bipush 6, 2) := by decide +kernel
theorem dX9_init_74 : decode cX9_init 74 = .ok (.if_icmp .ge 17, 3) := by decide +kernel
theorem dX9_init_77 : decode cX9_init 77 = .ok (.aload_n 0, 1) := by decide +kernel
theorem dX9_init_78 : decode cX9_init 78 = .ok (.getfield 9, 3) := by decide +kernel
theorem dX9_init_81 : decode cX9_init 81 = .ok (.iload_n 1, 1) := by decide +kernel
theorem dX9_init_82 : decode cX9_init 82 = .ok (.bipush 24, 2) := by decide +kernel
theorem dX9_init_84 : decode cX9_init 84 = .ok (.iastore, 1) := by decide +kernel
theorem dX9_init_85 : decode cX9_init 85 = .ok (.iinc 1 1, 3) := by decide +kernel
theorem dX9_init_88 : decode cX9_init 88 = .ok (.goto (-17), 3) := by decide +kernel
theorem dX9_init_91 : decode cX9_init 91 = .ok (.iconst 0, 1) := by decide +kernel
theorem dX9_init_92 : decode cX9_init 92 = .ok (.istore_n 1, 1) := by decide +kernel
theorem dX9_init_93 : decode cX9_init 93 = .ok (.iload_n 1, 1) := by decide +kernel
theorem dX9_init_94 : decode cX9_init 94 = .ok (.bipush 24, 2) := by decide +kernel
theorem dX9_init_96 : decode cX9_init 96 = .ok (.if_icmp .ge 25, 3) := by decide +kernel
theorem dX9_init_99 : decode cX9_init 99 = .ok (.aload_n 0, 1) := by decide +kernel
theorem dX9_init_100 : decode cX9_init 100 = .ok (.getfield 21, 3) := by decide +kernel
theorem dX9_init_103 : decode cX9_init 103 = .ok (.iload_n 1, 1) := by decide +kernel
theorem dX9_init_104 : decode cX9_init 104 = .ok (.bipush 24, 2) := by decide +kernel
theorem dX9_init_106 : decode cX9_init 106 = .ok (.iastore, 1) := by decide +kernel
theorem dX9_init_107 : decode cX9_init 107 = .ok (.aload_n 0, 1) := by decide +kernel
theorem dX9_init_108 : decode cX9_init 108 = .ok (.getfield 24, 3) := by decide +kernel
theorem dX9_init_111 : decode cX9_init 111 = .ok (.iload_n 1, 1) := by decide +kernel
theorem dX9_init_112 : decode cX9_init 112 = .ok (.bipush 24, 2) := by decide +kernel
theorem dX9_init_114 : decode cX9_init 114 = .ok (.iastore, 1) := by decide +kernel
theorem dX9_init_115 : decode cX9_init 115 = .ok (.iinc 1 1, 3) := by decide +kernel
theorem dX9_init_118 : decode cX9_init 118 = .ok (.goto (-25), 3) := by decide +kernel
theorem dX9_init_121 : decode cX9_init 121 = .ok (.return_, 1) := by decide +kernel
def fX9_init_L71 (k91 : AH → Nat → Option (AH)) : Nat → AH → Nat → Int32 → Option (AH)
  | 0, _, _, _ => none
  | n + 1, h, v0, v1 =>
    if 6 ≤ v1 then (
      k91 h v0
    ) else (
      (gR h 9 v0 4).bind fun x1 =>
      (sI h 0 x1 v1 24).bind fun h2 =>
      letF (v1 + 1 : Int32) fun x3 =>
      fX9_init_L71 k91 n h2 v0 x3
    )
def fX9_init_L93 : Nat → AH → Nat → Int32 → Option (AH)
  | 0, _, _, _ => none
  | n + 1, h, v0, v1 =>
    if 24 ≤ v1 then (
      some h
    ) else (
      (gR h 9 v0 7).bind fun x4 =>
      (sI h 0 x4 v1 24).bind fun h5 =>
      (gR h5 9 v0 8).bind fun x6 =>
      (sI h5 0 x6 v1 24).bind fun h7 =>
      letF (v1 + 1 : Int32) fun x8 =>
      fX9_init_L93 n h7 v0 x8
    )
def fX9_init (h : AH) (a0 : Nat) : Option (AH) :=
  letF (hnew h (.inl (0, newD 0 6))) fun h9 =>
  (pF h9 9 a0 4 (.ref h.2)).bind fun h10 =>
  letF (hnew h10 (.inl (0, newD 0 24))) fun h11 =>
  (pF h11 9 a0 5 (.ref h10.2)).bind fun h12 =>
  letF (hnew h12 (.inl (0, newD 0 24))) fun h13 =>
  (pF h13 9 a0 6 (.ref h12.2)).bind fun h14 =>
  letF (hnew h14 (.inl (0, newD 0 24))) fun h15 =>
  (pF h15 9 a0 7 (.ref h14.2)).bind fun h16 =>
  letF (hnew h16 (.inl (0, newD 0 24))) fun h17 =>
  (pF h17 9 a0 8 (.ref h16.2)).bind fun h18 =>
  letF (hnew h18 (.inl (0, newD 0 24))) fun h19 =>
  (pF h19 9 a0 9 (.ref h18.2)).bind fun h20 =>
  letF (hnew h20 (.inl (0, newD 0 24))) fun h21 =>
  (pF h21 9 a0 10 (.ref h20.2)).bind fun h22 =>
  letF (hnew h22 (.inl (0, newD 0 192))) fun h23 =>
  (pF h23 9 a0 11 (.ref h22.2)).bind fun h24 =>
  fX9_init_L71
    (fun h26 x25 =>
      fX9_init_L93 FU h26 x25 0)
    FU h24 a0 0
set_option maxHeartbeats 4000000 in
theorem gX9_init_L71 {Y : YT} {X : XT} (C : CT Y X RX9 cX9_init 2) (O : RO X 1 8 342) {r : AH} (E : RX Y X none none r 8 342) {k91 : AH → Nat → Option (AH)} (hk91 : ∀ (h : AH) (v0 : Nat), GO Y X 2 r h 8 342 91 [(0, .ref v0)] [] (k91 h v0)) : ∀ (n : Nat) (h : AH) (v0 : Nat) (v1 : Int32), GO Y X 2 r h 8 342 71 [(0, .ref v0), (1, .int v1)] [] (fX9_init_L71 k91 n h v0 v1) := by
  intro n
  induction n with
  | zero => intros; exact go_none _ _ _
  | succ n ih =>
    intro h v0 v1
    rw [fX9_init_L71]
    refine go_iload_n (pc := 71) C 1 dX9_init_71 rfl ?_
    refine go_bipush (pc := 72) C dX9_init_72 kb_6 ?_
    refine go_icmp_ge (pc := 74) C 91 dX9_init_74 (by decide) (fun _ => ?_) (fun _ => ?_)
    · refine go_sub (ls' := [(0, .ref v0)]) [0] rfl ?_
      exact hk91 h v0
    · refine go_aload_n (pc := 77) C 0 dX9_init_77 rfl ?_
      refine go_gR (pc := 78) C fdX9_9 dX9_init_78 (fun x1 => ?_)
      refine go_iload_n (pc := 81) C 1 dX9_init_81 rfl ?_
      refine go_bipush (pc := 82) C dX9_init_82 kb_24 ?_
      refine go_iast (pc := 84) C dX9_init_84 (fun h2 => ?_)
      refine go_iincL (pc := 85) C 1 dX9_init_85 rfl ki_1 (by decide) (fun x3 => [(1, .int x3), (0, .ref v0)]) (fun _ => rfl) (fun x3 => ?_)
      refine go_goto (pc := 88) C 71 dX9_init_88 (by decide) ?_
      refine go_sub (ls' := [(0, .ref v0), (1, .int x3)]) [1, 0] rfl ?_
      exact ih h2 v0 x3
set_option maxHeartbeats 4000000 in
theorem gX9_init_L93 {Y : YT} {X : XT} (C : CT Y X RX9 cX9_init 2) (O : RO X 1 8 342) {r : AH} (E : RX Y X none none r 8 342) : ∀ (n : Nat) (h : AH) (v0 : Nat) (v1 : Int32), GO Y X 2 r h 8 342 93 [(0, .ref v0), (1, .int v1)] [] (fX9_init_L93 n h v0 v1) := by
  intro n
  induction n with
  | zero => intros; exact go_none _ _ _
  | succ n ih =>
    intro h v0 v1
    rw [fX9_init_L93]
    refine go_iload_n (pc := 93) C 1 dX9_init_93 rfl ?_
    refine go_bipush (pc := 94) C dX9_init_94 kb_24 ?_
    refine go_icmp_ge (pc := 96) C 121 dX9_init_96 (by decide) (fun _ => ?_) (fun _ => ?_)
    · exact go_vret (w := wV) (pc := 121) C E h dX9_init_121 rfl
    · refine go_aload_n (pc := 99) C 0 dX9_init_99 rfl ?_
      refine go_gR (pc := 100) C fdX9_21 dX9_init_100 (fun x4 => ?_)
      refine go_iload_n (pc := 103) C 1 dX9_init_103 rfl ?_
      refine go_bipush (pc := 104) C dX9_init_104 kb_24 ?_
      refine go_iast (pc := 106) C dX9_init_106 (fun h5 => ?_)
      refine go_aload_n (pc := 107) C 0 dX9_init_107 rfl ?_
      refine go_gR (pc := 108) C fdX9_24 dX9_init_108 (fun x6 => ?_)
      refine go_iload_n (pc := 111) C 1 dX9_init_111 rfl ?_
      refine go_bipush (pc := 112) C dX9_init_112 kb_24 ?_
      refine go_iast (pc := 114) C dX9_init_114 (fun h7 => ?_)
      refine go_iincL (pc := 115) C 1 dX9_init_115 rfl ki_1 (by decide) (fun x8 => [(1, .int x8), (0, .ref v0)]) (fun _ => rfl) (fun x8 => ?_)
      refine go_goto (pc := 118) C 93 dX9_init_118 (by decide) ?_
      refine go_sub (ls' := [(0, .ref v0), (1, .int x8)]) [1, 0] rfl ?_
      exact ih h7 v0 x8
set_option maxHeartbeats 4000000 in
theorem mX9_init {h : AH} {a0 : Nat} {r : AH} (hr : fX9_init h a0 = some r) : MC yX9_init cX9_init 2 none 1 8 342 [.ref a0] h none r := by
  unfold fX9_init at hr
  refine mc_of (l0 := [(0, .ref a0)]) rfl pn_X9 (Nat.le_of_ble_eq_true rfl) (fun Y X C E O hnm => go_run hr ?_)
  have C : CT Y X RX9 cX9_init 2 := C
  refine go_aload_n (pc := 0) C 0 dX9_init_0 rfl ?_
  refine go_objInit (pc := 1) C O w_127 w_120 w_121 dX9_init_1 (by decide) (Nat.le_of_ble_eq_true rfl) ?_
  refine go_aload_n (pc := 4) C 0 dX9_init_4 rfl ?_
  refine go_bipush (pc := 5) C dX9_init_5 kb_6 ?_
  refine go_newa (atype := .int) (t := 0) (c' := 1) (s' := 6) (pc := 7) 6 C O ⟨rfl, by decide⟩ w_172 (by decide) (by decide) (by decide) dX9_init_7 ⟨by decide, by decide⟩ ⟨rfl, rfl⟩ (fun h9 => ?_)
  refine go_pRF (pc := 9) C hnm fpX9_9 dX9_init_9 (fun _ => rfl) (fun _ => rfl) (fun h10 => ?_)
  refine go_aload_n (pc := 12) C 0 dX9_init_12 rfl ?_
  refine go_bipush (pc := 13) C dX9_init_13 kb_24 ?_
  refine go_newa (atype := .int) (t := 0) (c' := 2) (s' := 30) (pc := 15) 24 C O ⟨rfl, by decide⟩ w_172 (by decide) (by decide) (by decide) dX9_init_15 ⟨by decide, by decide⟩ ⟨rfl, rfl⟩ (fun h11 => ?_)
  refine go_pRF (pc := 17) C hnm fpX9_15 dX9_init_17 (fun _ => rfl) (fun _ => rfl) (fun h12 => ?_)
  refine go_aload_n (pc := 20) C 0 dX9_init_20 rfl ?_
  refine go_bipush (pc := 21) C dX9_init_21 kb_24 ?_
  refine go_newa (atype := .int) (t := 0) (c' := 3) (s' := 54) (pc := 23) 24 C O ⟨rfl, by decide⟩ w_172 (by decide) (by decide) (by decide) dX9_init_23 ⟨by decide, by decide⟩ ⟨rfl, rfl⟩ (fun h13 => ?_)
  refine go_pRF (pc := 25) C hnm fpX9_18 dX9_init_25 (fun _ => rfl) (fun _ => rfl) (fun h14 => ?_)
  refine go_aload_n (pc := 28) C 0 dX9_init_28 rfl ?_
  refine go_bipush (pc := 29) C dX9_init_29 kb_24 ?_
  refine go_newa (atype := .int) (t := 0) (c' := 4) (s' := 78) (pc := 31) 24 C O ⟨rfl, by decide⟩ w_172 (by decide) (by decide) (by decide) dX9_init_31 ⟨by decide, by decide⟩ ⟨rfl, rfl⟩ (fun h15 => ?_)
  refine go_pRF (pc := 33) C hnm fpX9_21 dX9_init_33 (fun _ => rfl) (fun _ => rfl) (fun h16 => ?_)
  refine go_aload_n (pc := 36) C 0 dX9_init_36 rfl ?_
  refine go_bipush (pc := 37) C dX9_init_37 kb_24 ?_
  refine go_newa (atype := .int) (t := 0) (c' := 5) (s' := 102) (pc := 39) 24 C O ⟨rfl, by decide⟩ w_172 (by decide) (by decide) (by decide) dX9_init_39 ⟨by decide, by decide⟩ ⟨rfl, rfl⟩ (fun h17 => ?_)
  refine go_pRF (pc := 41) C hnm fpX9_24 dX9_init_41 (fun _ => rfl) (fun _ => rfl) (fun h18 => ?_)
  refine go_aload_n (pc := 44) C 0 dX9_init_44 rfl ?_
  refine go_bipush (pc := 45) C dX9_init_45 kb_24 ?_
  refine go_newa (atype := .int) (t := 0) (c' := 6) (s' := 126) (pc := 47) 24 C O ⟨rfl, by decide⟩ w_172 (by decide) (by decide) (by decide) dX9_init_47 ⟨by decide, by decide⟩ ⟨rfl, rfl⟩ (fun h19 => ?_)
  refine go_pRF (pc := 49) C hnm fpX9_27 dX9_init_49 (fun _ => rfl) (fun _ => rfl) (fun h20 => ?_)
  refine go_aload_n (pc := 52) C 0 dX9_init_52 rfl ?_
  refine go_bipush (pc := 53) C dX9_init_53 kb_24 ?_
  refine go_newa (atype := .int) (t := 0) (c' := 7) (s' := 150) (pc := 55) 24 C O ⟨rfl, by decide⟩ w_172 (by decide) (by decide) (by decide) dX9_init_55 ⟨by decide, by decide⟩ ⟨rfl, rfl⟩ (fun h21 => ?_)
  refine go_pRF (pc := 57) C hnm fpX9_30 dX9_init_57 (fun _ => rfl) (fun _ => rfl) (fun h22 => ?_)
  refine go_aload_n (pc := 60) C 0 dX9_init_60 rfl ?_
  refine go_sipush (pc := 61) C dX9_init_61 ks_192 ?_
  refine go_newa (atype := .int) (t := 0) (c' := 8) (s' := 342) (pc := 64) 192 C O ⟨rfl, by decide⟩ w_172 (by decide) (by decide) (by decide) dX9_init_64 ⟨by decide, by decide⟩ ⟨rfl, rfl⟩ (fun h23 => ?_)
  refine go_pRF (pc := 66) C hnm fpX9_33 dX9_init_66 (fun _ => rfl) (fun _ => rfl) (fun h24 => ?_)
  refine go_iconst (pc := 69) C dX9_init_69 ki_0 ?_
  refine go_istore_n (ls' := [(1, .int 0), (0, .ref a0)]) (pc := 70) C dX9_init_70 (by decide) rfl ?_
  refine go_sub (ls' := [(0, .ref a0), (1, .int 0)]) [1, 0] rfl ?_
  refine gX9_init_L71 C O E (fun h26 x25 => ?_) FU h24 a0 0
  · refine go_iconst (pc := 91) C dX9_init_91 ki_0 ?_
    refine go_istore_n (ls' := [(1, .int 0), (0, .ref x25)]) (pc := 92) C dX9_init_92 (by decide) rfl ?_
    refine go_sub (ls' := [(0, .ref x25), (1, .int 0)]) [1, 0] rfl ?_
    refine gX9_init_L93 C O E FU h26 x25 0
theorem dX2_total_0 : decode cX2_total 0 = .ok (.aload_n 0, 1) := by decide +kernel
theorem dX2_total_1 : decode cX2_total 1 = .ok (.getfield 23, 3) := by decide +kernel
theorem dX2_total_4 : decode cX2_total 4 = .ok (.ireturn, 1) := by decide +kernel
def fX2_total (h : AH) (a0 : Nat) : Option (Int32) :=
  if hasC h 2 a0 = true then (
    (gI h 2 a0 4).bind fun x1 =>
    some x1
  ) else none
set_option maxHeartbeats 4000000 in
theorem mX2_total {h : AH} {a0 : Nat} {r : Int32} (hr : fX2_total h a0 = some r) : hasC h 2 a0 = true ∧ MC yX2_total cX2_total 1 (some .int) 1 0 0 [.ref a0] h (some (.int r)) h := by
  unfold fX2_total at hr
  obtain ⟨hc, hr⟩ := if_some hr
  refine ⟨hc, mc_of (l0 := [(0, .ref a0)]) rfl pn_X2 (Nat.le_of_ble_eq_true rfl) (fun Y X C E O hnm => go_run hr ?_)⟩
  have C : CT Y X RX2 cX2_total 1 := C
  refine go_aload_n (pc := 0) C 0 dX2_total_0 rfl ?_
  refine go_gI (pc := 1) C fdX2_23 dX2_total_1 (fun x1 => ?_)
  exact go_iret (w := (wI h)) (pc := 4) C E x1 x1 dX2_total_4 rfl
theorem dX9_copyFrom_0 : decode cX9_copyFrom 0 = .ok (.aload_n 0, 1) := by decide +kernel
theorem dX9_copyFrom_1 : decode cX9_copyFrom 1 = .ok (.aload_n 1, 1) := by decide +kernel
theorem dX9_copyFrom_2 : decode cX9_copyFrom 2 = .ok (.getfield 36, 3) := by decide +kernel
theorem dX9_copyFrom_5 : decode cX9_copyFrom 5 = .ok (.putfield 36, 3) := by decide +kernel
theorem dX9_copyFrom_8 : decode cX9_copyFrom 8 = .ok (.aload_n 0, 1) := by decide +kernel
theorem dX9_copyFrom_9 : decode cX9_copyFrom 9 = .ok (.aload_n 1, 1) := by decide +kernel
theorem dX9_copyFrom_10 : decode cX9_copyFrom 10 = .ok (.getfield 40, 3) := by decide +kernel
theorem dX9_copyFrom_13 : decode cX9_copyFrom 13 = .ok (.putfield 40, 3) := by decide +kernel
theorem dX9_copyFrom_16 : decode cX9_copyFrom 16 = .ok (.aload_n 0, 1) := by decide +kernel
theorem dX9_copyFrom_17 : decode cX9_copyFrom 17 = .ok (.aload_n 1, 1) := by decide +kernel
theorem dX9_copyFrom_18 : decode cX9_copyFrom 18 = .ok (.getfield 43, 3) := by decide +kernel
theorem dX9_copyFrom_21 : decode cX9_copyFrom 21 = .ok (.putfield 43, 3) := by decide +kernel
theorem dX9_copyFrom_24 : decode cX9_copyFrom 24 = .ok (.aload_n 0, 1) := by decide +kernel
theorem dX9_copyFrom_25 : decode cX9_copyFrom 25 = .ok (.aload_n 1, 1) := by decide +kernel
theorem dX9_copyFrom_26 : decode cX9_copyFrom 26 = .ok (.getfield 46, 3) := by decide +kernel
theorem dX9_copyFrom_29 : decode cX9_copyFrom 29 = .ok (.putfield 46, 3) := by decide +kernel
theorem dX9_copyFrom_32 : decode cX9_copyFrom 32 = .ok (.aload_n 1, 1) := by decide +kernel
theorem dX9_copyFrom_33 : decode cX9_copyFrom 33 = .ok (.getfield 9, 3) := by decide +kernel
theorem dX9_copyFrom_36 : decode cX9_copyFrom 36 = .ok (.iconst 0, 1) := by decide +kernel
theorem dX9_copyFrom_37 : decode cX9_copyFrom 37 = .ok (.aload_n 0, 1) := by decide +kernel
theorem dX9_copyFrom_38 : decode cX9_copyFrom 38 = .ok (.getfield 9, 3) := by decide +kernel
theorem dX9_copyFrom_41 : decode cX9_copyFrom 41 = .ok (.iconst 0, 1) := by decide +kernel
theorem dX9_copyFrom_42 : decode cX9_copyFrom 42 = .ok (.bipush 6, 2) := by decide +kernel
theorem dX9_copyFrom_44 : decode cX9_copyFrom 44 = .ok (.invokestatic 49, 3) := by decide +kernel
theorem dX9_copyFrom_47 : decode cX9_copyFrom 47 = .ok (.aload_n 1, 1) := by decide +kernel
theorem dX9_copyFrom_48 : decode cX9_copyFrom 48 = .ok (.getfield 15, 3) := by decide +kernel
theorem dX9_copyFrom_51 : decode cX9_copyFrom 51 = .ok (.iconst 0, 1) := by decide +kernel
theorem dX9_copyFrom_52 : decode cX9_copyFrom 52 = .ok (.aload_n 0, 1) := by decide +kernel
theorem dX9_copyFrom_53 : decode cX9_copyFrom 53 = .ok (.getfield 15, 3) := by decide +kernel
theorem dX9_copyFrom_56 : decode cX9_copyFrom 56 = .ok (.iconst 0, 1) := by decide +kernel
theorem dX9_copyFrom_57 : decode cX9_copyFrom 57 = .ok (.bipush 24, 2) := by decide +kernel
theorem dX9_copyFrom_59 : decode cX9_copyFrom 59 = .ok (.invokestatic 49, 3) := by decide +kernel
theorem dX9_copyFrom_62 : decode cX9_copyFrom 62 = .ok (.aload_n 1, 1) := by decide +kernel
theorem dX9_copyFrom_63 : decode cX9_copyFrom 63 = .ok (.getfield 18, 3) := by decide +kernel
theorem dX9_copyFrom_66 : decode cX9_copyFrom 66 = .ok (.iconst 0, 1) := by decide +kernel
theorem dX9_copyFrom_67 : decode cX9_copyFrom 67 = .ok (.aload_n 0, 1) := by decide +kernel
theorem dX9_copyFrom_68 : decode cX9_copyFrom 68 = .ok (.getfield 18, 3) := by decide +kernel
theorem dX9_copyFrom_71 : decode cX9_copyFrom 71 = .ok (.iconst 0, 1) := by decide +kernel
theorem dX9_copyFrom_72 : decode cX9_copyFrom 72 = .ok (.bipush 24, 2) := by decide +kernel
theorem dX9_copyFrom_74 : decode cX9_copyFrom 74 = .ok (.invokestatic 49, 3) := by decide +kernel
theorem dX9_copyFrom_77 : decode cX9_copyFrom 77 = .ok (.aload_n 1, 1) := by decide +kernel
theorem dX9_copyFrom_78 : decode cX9_copyFrom 78 = .ok (.getfield 21, 3) := by decide +kernel
theorem dX9_copyFrom_81 : decode cX9_copyFrom 81 = .ok (.iconst 0, 1) := by decide +kernel
theorem dX9_copyFrom_82 : decode cX9_copyFrom 82 = .ok (.aload_n 0, 1) := by decide +kernel
theorem dX9_copyFrom_83 : decode cX9_copyFrom 83 = .ok (.getfield 21, 3) := by decide +kernel
theorem dX9_copyFrom_86 : decode cX9_copyFrom 86 = .ok (.iconst 0, 1) := by decide +kernel
theorem dX9_copyFrom_87 : decode cX9_copyFrom 87 = .ok (.bipush 24, 2) := by decide +kernel
theorem dX9_copyFrom_89 : decode cX9_copyFrom 89 = .ok (.invokestatic 49, 3) := by decide +kernel
theorem dX9_copyFrom_92 : decode cX9_copyFrom 92 = .ok (.aload_n 1, 1) := by decide +kernel
theorem dX9_copyFrom_93 : decode cX9_copyFrom 93 = .ok (.getfield 24, 3) := by decide +kernel
theorem dX9_copyFrom_96 : decode cX9_copyFrom 96 = .ok (.iconst 0, 1) := by decide +kernel
theorem dX9_copyFrom_97 : decode cX9_copyFrom 97 = .ok (.aload_n 0, 1) := by decide +kernel
theorem dX9_copyFrom_98 : decode cX9_copyFrom 98 = .ok (.getfield 24, 3) := by decide +kernel
theorem dX9_copyFrom_101 : decode cX9_copyFrom 101 = .ok (.iconst 0, 1) := by decide +kernel
theorem dX9_copyFrom_102 : decode cX9_copyFrom 102 = .ok (.bipush 24, 2) := by decide +kernel
theorem dX9_copyFrom_104 : decode cX9_copyFrom 104 = .ok (.invokestatic 49, 3) := by decide +kernel
theorem dX9_copyFrom_107 : decode cX9_copyFrom 107 = .ok (.aload_n 1, 1) := by decide +kernel
theorem dX9_copyFrom_108 : decode cX9_copyFrom 108 = .ok (.getfield 27, 3) := by decide +kernel
theorem dX9_copyFrom_111 : decode cX9_copyFrom 111 = .ok (.iconst 0, 1) := by decide +kernel
theorem dX9_copyFrom_112 : decode cX9_copyFrom 112 = .ok (.aload_n 0, 1) := by decide +kernel
theorem dX9_copyFrom_113 : decode cX9_copyFrom 113 = .ok (.getfield 27, 3) := by decide +kernel
theorem dX9_copyFrom_116 : decode cX9_copyFrom 116 = .ok (.iconst 0, 1) := by decide +kernel
theorem dX9_copyFrom_117 : decode cX9_copyFrom 117 = .ok (.bipush 24, 2) := by decide +kernel
theorem dX9_copyFrom_119 : decode cX9_copyFrom 119 = .ok (.invokestatic 49, 3) := by decide +kernel
theorem dX9_copyFrom_122 : decode cX9_copyFrom 122 = .ok (.aload_n 1, 1) := by decide +kernel
theorem dX9_copyFrom_123 : decode cX9_copyFrom 123 = .ok (.getfield 30, 3) := by decide +kernel
theorem dX9_copyFrom_126 : decode cX9_copyFrom 126 = .ok (.iconst 0, 1) := by decide +kernel
theorem dX9_copyFrom_127 : decode cX9_copyFrom 127 = .ok (.aload_n 0, 1) := by decide +kernel
theorem dX9_copyFrom_128 : decode cX9_copyFrom 128 = .ok (.getfield 30, 3) := by decide +kernel
theorem dX9_copyFrom_131 : decode cX9_copyFrom 131 = .ok (.iconst 0, 1) := by decide +kernel
theorem dX9_copyFrom_132 : decode cX9_copyFrom 132 = .ok (.bipush 24, 2) := by decide +kernel
theorem dX9_copyFrom_134 : decode cX9_copyFrom 134 = .ok (.invokestatic 49, 3) := by decide +kernel
theorem dX9_copyFrom_137 : decode cX9_copyFrom 137 = .ok (.aload_n 1, 1) := by decide +kernel
theorem dX9_copyFrom_138 : decode cX9_copyFrom 138 = .ok (.getfield 33, 3) := by decide +kernel
theorem dX9_copyFrom_141 : decode cX9_copyFrom 141 = .ok (.iconst 0, 1) := by decide +kernel
theorem dX9_copyFrom_142 : decode cX9_copyFrom 142 = .ok (.aload_n 0, 1) := by decide +kernel
theorem dX9_copyFrom_143 : decode cX9_copyFrom 143 = .ok (.getfield 33, 3) := by decide +kernel
theorem dX9_copyFrom_146 : decode cX9_copyFrom 146 = .ok (.iconst 0, 1) := by decide +kernel
theorem dX9_copyFrom_147 : decode cX9_copyFrom 147 = .ok (.sipush 192, 3) := by decide +kernel
theorem dX9_copyFrom_150 : decode cX9_copyFrom 150 = .ok (.invokestatic 49, 3) := by decide +kernel
theorem dX9_copyFrom_153 : decode cX9_copyFrom 153 = .ok (.return_, 1) := by decide +kernel
def fX9_copyFrom (h : AH) (a0 : Nat) (a1 : Nat) : Option (AH) :=
  if hasC h 9 a0 = true then (
    (gI h 9 a1 0).bind fun x1 =>
    (pF h 9 a0 0 (.int x1)).bind fun h2 =>
    (gI h2 9 a1 1).bind fun x3 =>
    (pF h2 9 a0 1 (.int x3)).bind fun h4 =>
    (gI h4 9 a1 2).bind fun x5 =>
    (pF h4 9 a0 2 (.int x5)).bind fun h6 =>
    (gI h6 9 a1 3).bind fun x7 =>
    (pF h6 9 a0 3 (.int x7)).bind fun h8 =>
    (gR h8 9 a1 4).bind fun x9 =>
    (gR h8 9 a0 4).bind fun x10 =>
    (acI h8 x9 0 x10 0 6).bind fun h11 =>
    (gR h11 9 a1 5).bind fun x12 =>
    (gR h11 9 a0 5).bind fun x13 =>
    (acI h11 x12 0 x13 0 24).bind fun h14 =>
    (gR h14 9 a1 6).bind fun x15 =>
    (gR h14 9 a0 6).bind fun x16 =>
    (acI h14 x15 0 x16 0 24).bind fun h17 =>
    (gR h17 9 a1 7).bind fun x18 =>
    (gR h17 9 a0 7).bind fun x19 =>
    (acI h17 x18 0 x19 0 24).bind fun h20 =>
    (gR h20 9 a1 8).bind fun x21 =>
    (gR h20 9 a0 8).bind fun x22 =>
    (acI h20 x21 0 x22 0 24).bind fun h23 =>
    (gR h23 9 a1 9).bind fun x24 =>
    (gR h23 9 a0 9).bind fun x25 =>
    (acI h23 x24 0 x25 0 24).bind fun h26 =>
    (gR h26 9 a1 10).bind fun x27 =>
    (gR h26 9 a0 10).bind fun x28 =>
    (acI h26 x27 0 x28 0 24).bind fun h29 =>
    (gR h29 9 a1 11).bind fun x30 =>
    (gR h29 9 a0 11).bind fun x31 =>
    (acI h29 x30 0 x31 0 192).bind fun h32 =>
    some h32
  ) else none
set_option maxHeartbeats 4000000 in
theorem mX9_copyFrom {h : AH} {a0 : Nat} {a1 : Nat} {r : AH} (hr : fX9_copyFrom h a0 a1 = some r) : hasC h 9 a0 = true ∧ MC yX9_copyFrom cX9_copyFrom 2 none 1 0 0 [.ref a0, .ref a1] h none r := by
  unfold fX9_copyFrom at hr
  obtain ⟨hc, hr⟩ := if_some hr
  refine ⟨hc, mc_of (l0 := [(0, .ref a0), (1, .ref a1)]) rfl pn_X9 (Nat.le_of_ble_eq_true rfl) (fun Y X C E O hnm => go_run hr ?_)⟩
  have C : CT Y X RX9 cX9_copyFrom 2 := C
  refine go_aload_n (pc := 0) C 0 dX9_copyFrom_0 rfl ?_
  refine go_aload_n (pc := 1) C 1 dX9_copyFrom_1 rfl ?_
  refine go_gI (pc := 2) C fdX9_36 dX9_copyFrom_2 (fun x1 => ?_)
  refine go_pI (pc := 5) C fpX9_36 dX9_copyFrom_5 (fun h2 => ?_)
  refine go_aload_n (pc := 8) C 0 dX9_copyFrom_8 rfl ?_
  refine go_aload_n (pc := 9) C 1 dX9_copyFrom_9 rfl ?_
  refine go_gI (pc := 10) C fdX9_40 dX9_copyFrom_10 (fun x3 => ?_)
  refine go_pI (pc := 13) C fpX9_40 dX9_copyFrom_13 (fun h4 => ?_)
  refine go_aload_n (pc := 16) C 0 dX9_copyFrom_16 rfl ?_
  refine go_aload_n (pc := 17) C 1 dX9_copyFrom_17 rfl ?_
  refine go_gI (pc := 18) C fdX9_43 dX9_copyFrom_18 (fun x5 => ?_)
  refine go_pI (pc := 21) C fpX9_43 dX9_copyFrom_21 (fun h6 => ?_)
  refine go_aload_n (pc := 24) C 0 dX9_copyFrom_24 rfl ?_
  refine go_aload_n (pc := 25) C 1 dX9_copyFrom_25 rfl ?_
  refine go_gI (pc := 26) C fdX9_46 dX9_copyFrom_26 (fun x7 => ?_)
  refine go_pI (pc := 29) C fpX9_46 dX9_copyFrom_29 (fun h8 => ?_)
  refine go_aload_n (pc := 32) C 1 dX9_copyFrom_32 rfl ?_
  refine go_gR (pc := 33) C fdX9_9 dX9_copyFrom_33 (fun x9 => ?_)
  refine go_iconst (pc := 36) C dX9_copyFrom_36 ki_0 ?_
  refine go_aload_n (pc := 37) C 0 dX9_copyFrom_37 rfl ?_
  refine go_gR (pc := 38) C fdX9_9 dX9_copyFrom_38 (fun x10 => ?_)
  refine go_iconst (pc := 41) C dX9_copyFrom_41 ki_0 ?_
  refine go_bipush (pc := 42) C dX9_copyFrom_42 kb_6 ?_
  refine go_acI (pc := 44) C O w_422 w_424 w_423 w_101 (by decide) (Nat.le_of_ble_eq_true rfl) dX9_copyFrom_44 (fun h11 => ?_)
  refine go_aload_n (pc := 47) C 1 dX9_copyFrom_47 rfl ?_
  refine go_gR (pc := 48) C fdX9_15 dX9_copyFrom_48 (fun x12 => ?_)
  refine go_iconst (pc := 51) C dX9_copyFrom_51 ki_0 ?_
  refine go_aload_n (pc := 52) C 0 dX9_copyFrom_52 rfl ?_
  refine go_gR (pc := 53) C fdX9_15 dX9_copyFrom_53 (fun x13 => ?_)
  refine go_iconst (pc := 56) C dX9_copyFrom_56 ki_0 ?_
  refine go_bipush (pc := 57) C dX9_copyFrom_57 kb_24 ?_
  refine go_acI (pc := 59) C O w_422 w_424 w_423 w_101 (by decide) (Nat.le_of_ble_eq_true rfl) dX9_copyFrom_59 (fun h14 => ?_)
  refine go_aload_n (pc := 62) C 1 dX9_copyFrom_62 rfl ?_
  refine go_gR (pc := 63) C fdX9_18 dX9_copyFrom_63 (fun x15 => ?_)
  refine go_iconst (pc := 66) C dX9_copyFrom_66 ki_0 ?_
  refine go_aload_n (pc := 67) C 0 dX9_copyFrom_67 rfl ?_
  refine go_gR (pc := 68) C fdX9_18 dX9_copyFrom_68 (fun x16 => ?_)
  refine go_iconst (pc := 71) C dX9_copyFrom_71 ki_0 ?_
  refine go_bipush (pc := 72) C dX9_copyFrom_72 kb_24 ?_
  refine go_acI (pc := 74) C O w_422 w_424 w_423 w_101 (by decide) (Nat.le_of_ble_eq_true rfl) dX9_copyFrom_74 (fun h17 => ?_)
  refine go_aload_n (pc := 77) C 1 dX9_copyFrom_77 rfl ?_
  refine go_gR (pc := 78) C fdX9_21 dX9_copyFrom_78 (fun x18 => ?_)
  refine go_iconst (pc := 81) C dX9_copyFrom_81 ki_0 ?_
  refine go_aload_n (pc := 82) C 0 dX9_copyFrom_82 rfl ?_
  refine go_gR (pc := 83) C fdX9_21 dX9_copyFrom_83 (fun x19 => ?_)
  refine go_iconst (pc := 86) C dX9_copyFrom_86 ki_0 ?_
  refine go_bipush (pc := 87) C dX9_copyFrom_87 kb_24 ?_
  refine go_acI (pc := 89) C O w_422 w_424 w_423 w_101 (by decide) (Nat.le_of_ble_eq_true rfl) dX9_copyFrom_89 (fun h20 => ?_)
  refine go_aload_n (pc := 92) C 1 dX9_copyFrom_92 rfl ?_
  refine go_gR (pc := 93) C fdX9_24 dX9_copyFrom_93 (fun x21 => ?_)
  refine go_iconst (pc := 96) C dX9_copyFrom_96 ki_0 ?_
  refine go_aload_n (pc := 97) C 0 dX9_copyFrom_97 rfl ?_
  refine go_gR (pc := 98) C fdX9_24 dX9_copyFrom_98 (fun x22 => ?_)
  refine go_iconst (pc := 101) C dX9_copyFrom_101 ki_0 ?_
  refine go_bipush (pc := 102) C dX9_copyFrom_102 kb_24 ?_
  refine go_acI (pc := 104) C O w_422 w_424 w_423 w_101 (by decide) (Nat.le_of_ble_eq_true rfl) dX9_copyFrom_104 (fun h23 => ?_)
  refine go_aload_n (pc := 107) C 1 dX9_copyFrom_107 rfl ?_
  refine go_gR (pc := 108) C fdX9_27 dX9_copyFrom_108 (fun x24 => ?_)
  refine go_iconst (pc := 111) C dX9_copyFrom_111 ki_0 ?_
  refine go_aload_n (pc := 112) C 0 dX9_copyFrom_112 rfl ?_
  refine go_gR (pc := 113) C fdX9_27 dX9_copyFrom_113 (fun x25 => ?_)
  refine go_iconst (pc := 116) C dX9_copyFrom_116 ki_0 ?_
  refine go_bipush (pc := 117) C dX9_copyFrom_117 kb_24 ?_
  refine go_acI (pc := 119) C O w_422 w_424 w_423 w_101 (by decide) (Nat.le_of_ble_eq_true rfl) dX9_copyFrom_119 (fun h26 => ?_)
  refine go_aload_n (pc := 122) C 1 dX9_copyFrom_122 rfl ?_
  refine go_gR (pc := 123) C fdX9_30 dX9_copyFrom_123 (fun x27 => ?_)
  refine go_iconst (pc := 126) C dX9_copyFrom_126 ki_0 ?_
  refine go_aload_n (pc := 127) C 0 dX9_copyFrom_127 rfl ?_
  refine go_gR (pc := 128) C fdX9_30 dX9_copyFrom_128 (fun x28 => ?_)
  refine go_iconst (pc := 131) C dX9_copyFrom_131 ki_0 ?_
  refine go_bipush (pc := 132) C dX9_copyFrom_132 kb_24 ?_
  refine go_acI (pc := 134) C O w_422 w_424 w_423 w_101 (by decide) (Nat.le_of_ble_eq_true rfl) dX9_copyFrom_134 (fun h29 => ?_)
  refine go_aload_n (pc := 137) C 1 dX9_copyFrom_137 rfl ?_
  refine go_gR (pc := 138) C fdX9_33 dX9_copyFrom_138 (fun x30 => ?_)
  refine go_iconst (pc := 141) C dX9_copyFrom_141 ki_0 ?_
  refine go_aload_n (pc := 142) C 0 dX9_copyFrom_142 rfl ?_
  refine go_gR (pc := 143) C fdX9_33 dX9_copyFrom_143 (fun x31 => ?_)
  refine go_iconst (pc := 146) C dX9_copyFrom_146 ki_0 ?_
  refine go_sipush (pc := 147) C dX9_copyFrom_147 ks_192 ?_
  refine go_acI (pc := 150) C O w_422 w_424 w_423 w_101 (by decide) (Nat.le_of_ble_eq_true rfl) dX9_copyFrom_150 (fun h32 => ?_)
  exact go_vret (w := wV) (pc := 153) C E h32 dX9_copyFrom_153 rfl
theorem dX2_mark_0 : decode cX2_mark 0 = .ok (.aload_n 0, 1) := by decide +kernel
theorem dX2_mark_1 : decode cX2_mark 1 = .ok (.getfield 27, 3) := by decide +kernel
theorem dX2_mark_4 : decode cX2_mark 4 = .ok (.ifCond .lt 28, 3) := by decide +kernel
theorem dX2_mark_7 : decode cX2_mark 7 = .ok (.aload_n 0, 1) := by decide +kernel
theorem dX2_mark_8 : decode cX2_mark 8 = .ok (.getfield 27, 3) := by decide +kernel
theorem dX2_mark_11 : decode cX2_mark 11 = .ok (.aload_n 0, 1) := by decide +kernel
theorem dX2_mark_12 : decode cX2_mark 12 = .ok (.getfield 11, 3) := by decide +kernel
theorem dX2_mark_15 : decode cX2_mark 15 = .ok (.arraylength, 1) := by decide +kernel
theorem dX2_mark_16 : decode cX2_mark 16 = .ok (.if_icmp .ge 16, 3) := by decide +kernel
theorem dX2_mark_19 : decode cX2_mark 19 = .ok (.aload_n 0, 1) := by decide +kernel
theorem dX2_mark_20 : decode cX2_mark 20 = .ok (.getfield 11, 3) := by decide +kernel
theorem dX2_mark_23 : decode cX2_mark 23 = .ok (.aload_n 0, 1) := by decide +kernel
theorem dX2_mark_24 : decode cX2_mark 24 = .ok (.getfield 27, 3) := by decide +kernel
theorem dX2_mark_27 : decode cX2_mark 27 = .ok (.aaload, 1) := by decide +kernel
theorem dX2_mark_28 : decode cX2_mark 28 = .ok (.aload_n 1, 1) := by decide +kernel
theorem dX2_mark_29 : decode cX2_mark 29 = .ok (.invokevirtual 30, 3) := by decide +kernel
theorem dX2_mark_32 : decode cX2_mark 32 = .ok (.return_, 1) := by decide +kernel
def fX2_mark (h : AH) (a0 : Nat) (a1 : Nat) : Option (AH) :=
  if hasC h 2 a0 = true then (
    (gI h 2 a0 3).bind fun x1 =>
    if x1 < 0 then (
      some h
    ) else (
      (gI h 2 a0 3).bind fun x2 =>
      (gR h 2 a0 0).bind fun x3 =>
      (aL h 5 x3).bind fun x4 =>
      if x4 ≤ x2 then (
        some h
      ) else (
        (gR h 2 a0 0).bind fun x5 =>
        (gI h 2 a0 3).bind fun x6 =>
        (aR h x5 x6).bind fun x7 =>
        (fX9_copyFrom h x7 a1).bind fun q8 =>
        some q8
      )
    )
  ) else none
set_option maxHeartbeats 4000000 in
theorem mX2_mark {h : AH} {a0 : Nat} {a1 : Nat} {r : AH} (hr : fX2_mark h a0 a1 = some r) : hasC h 2 a0 = true ∧ MC yX2_mark cX2_mark 2 none 2 0 0 [.ref a0, .ref a1] h none r := by
  unfold fX2_mark at hr
  obtain ⟨hc, hr⟩ := if_some hr
  refine ⟨hc, mc_of (l0 := [(0, .ref a0), (1, .ref a1)]) rfl pn_X2 (Nat.le_of_ble_eq_true rfl) (fun Y X C E O hnm => go_run hr ?_)⟩
  have C : CT Y X RX2 cX2_mark 2 := C
  refine go_aload_n (pc := 0) C 0 dX2_mark_0 rfl ?_
  refine go_gI (pc := 1) C fdX2_27 dX2_mark_1 (fun x1 => ?_)
  refine go_if_lt (pc := 4) C 32 dX2_mark_4 (by decide) (fun _ => ?_) (fun _ => ?_)
  · exact go_vret (w := wV) (pc := 32) C E h dX2_mark_32 rfl
  · refine go_aload_n (pc := 7) C 0 dX2_mark_7 rfl ?_
    refine go_gI (pc := 8) C fdX2_27 dX2_mark_8 (fun x2 => ?_)
    refine go_aload_n (pc := 11) C 0 dX2_mark_11 rfl ?_
    refine go_gR (pc := 12) C fdX2_11 dX2_mark_12 (fun x3 => ?_)
    refine go_alen (pc := 15) C 5 (by decide) dX2_mark_15 (fun x4 => ?_)
    refine go_icmp_ge (pc := 16) C 32 dX2_mark_16 (by decide) (fun _ => ?_) (fun _ => ?_)
    · exact go_vret (w := wV) (pc := 32) C E h dX2_mark_32 rfl
    · refine go_aload_n (pc := 19) C 0 dX2_mark_19 rfl ?_
      refine go_gR (pc := 20) C fdX2_11 dX2_mark_20 (fun x5 => ?_)
      refine go_aload_n (pc := 23) C 0 dX2_mark_23 rfl ?_
      refine go_gI (pc := 24) C fdX2_27 dX2_mark_24 (fun x6 => ?_)
      refine go_aald (pc := 27) C dX2_mark_27 (fun x7 => ?_)
      refine go_aload_n (pc := 28) C 1 dX2_mark_28 rfl ?_
      refine go_bind (fun q8 hq8 => ?_)
      refine go_callV (rest := []) (st' := []) (c' := 0) (s' := 0) (pc := 29) C O miX2_30 mvX9_copyFrom [.ref a1] rfl (mX9_copyFrom hq8).1 (mX9_copyFrom hq8).2 dX2_mark_29 ⟨by decide, by decide, by decide, by decide⟩ rfl (Nat.le_of_ble_eq_true rfl) rfl ⟨rfl, rfl⟩ ?_
      exact go_vret (w := wV) (pc := 32) C E q8 dX2_mark_32 rfl
theorem dX2_keepMark_0 : decode cX2_keepMark 0 = .ok (.aload_n 0, 1) := by decide +kernel
theorem dX2_keepMark_1 : decode cX2_keepMark 1 = .ok (.aload_n 0, 1) := by decide +kernel
theorem dX2_keepMark_2 : decode cX2_keepMark 2 = .ok (.getfield 27, 3) := by decide +kernel
theorem dX2_keepMark_5 : decode cX2_keepMark 5 = .ok (.iconst 1, 1) := by decide +kernel
theorem dX2_keepMark_6 : decode cX2_keepMark 6 = .ok (.iadd, 1) := by decide +kernel
theorem dX2_keepMark_7 : decode cX2_keepMark 7 = .ok (.bipush 9, 2) := by decide +kernel
theorem dX2_keepMark_9 : decode cX2_keepMark 9 = .ok (.irem, 1) := by decide +kernel
theorem dX2_keepMark_10 : decode cX2_keepMark 10 = .ok (.putfield 27, 3) := by decide +kernel
theorem dX2_keepMark_13 : decode cX2_keepMark 13 = .ok (.aload_n 0, 1) := by decide +kernel
theorem dX2_keepMark_14 : decode cX2_keepMark 14 = .ok (.bipush 8, 2) := by decide +kernel
theorem dX2_keepMark_16 : decode cX2_keepMark 16 = .ok (.aload_n 0, 1) := by decide +kernel
theorem dX2_keepMark_17 : decode cX2_keepMark 17 = .ok (.getfield 23, 3) := by decide +kernel
theorem dX2_keepMark_20 : decode cX2_keepMark 20 = .ok (.iconst 1, 1) := by decide +kernel
theorem dX2_keepMark_21 : decode cX2_keepMark 21 = .ok (.iadd, 1) := by decide +kernel
theorem dX2_keepMark_22 : decode cX2_keepMark 22 = .ok (.invokestatic 34, 3) := by decide +kernel
theorem dX2_keepMark_25 : decode cX2_keepMark 25 = .ok (.putfield 23, 3) := by decide +kernel
theorem dX2_keepMark_28 : decode cX2_keepMark 28 = .ok (.return_, 1) := by decide +kernel
def fX2_keepMark (h : AH) (a0 : Nat) : Option (AH) :=
  if hasC h 2 a0 = true then (
    (gI h 2 a0 3).bind fun x1 =>
    (jrem (x1 + 1) 9).bind fun x2 =>
    (pF h 2 a0 3 (.int x2)).bind fun h3 =>
    (gI h3 2 a0 4).bind fun x4 =>
    (pF h3 2 a0 4 (.int (jmin 8 (x4 + 1)))).bind fun h5 =>
    some h5
  ) else none
set_option maxHeartbeats 4000000 in
theorem mX2_keepMark {h : AH} {a0 : Nat} {r : AH} (hr : fX2_keepMark h a0 = some r) : hasC h 2 a0 = true ∧ MC yX2_keepMark cX2_keepMark 1 none 1 0 0 [.ref a0] h none r := by
  unfold fX2_keepMark at hr
  obtain ⟨hc, hr⟩ := if_some hr
  refine ⟨hc, mc_of (l0 := [(0, .ref a0)]) rfl pn_X2 (Nat.le_of_ble_eq_true rfl) (fun Y X C E O hnm => go_run hr ?_)⟩
  have C : CT Y X RX2 cX2_keepMark 1 := C
  refine go_aload_n (pc := 0) C 0 dX2_keepMark_0 rfl ?_
  refine go_aload_n (pc := 1) C 0 dX2_keepMark_1 rfl ?_
  refine go_gI (pc := 2) C fdX2_27 dX2_keepMark_2 (fun x1 => ?_)
  refine go_iconst (pc := 5) C dX2_keepMark_5 ki_1 ?_
  refine go_iadd (pc := 6) C dX2_keepMark_6 ?_
  refine go_bipush (pc := 7) C dX2_keepMark_7 kb_9 ?_
  refine go_irem (pc := 9) C dX2_keepMark_9 (fun x2 => ?_)
  refine go_pI (pc := 10) C fpX2_27 dX2_keepMark_10 (fun h3 => ?_)
  refine go_aload_n (pc := 13) C 0 dX2_keepMark_13 rfl ?_
  refine go_bipush (pc := 14) C dX2_keepMark_14 kb_8 ?_
  refine go_aload_n (pc := 16) C 0 dX2_keepMark_16 rfl ?_
  refine go_gI (pc := 17) C fdX2_23 dX2_keepMark_17 (fun x4 => ?_)
  refine go_iconst (pc := 20) C dX2_keepMark_20 ki_1 ?_
  refine go_iadd (pc := 21) C dX2_keepMark_21 ?_
  refine go_mmin (pc := 22) C O w_462 w_441 w_102 w_442 ⟨by decide, by decide, by decide⟩ (Nat.le_of_ble_eq_true rfl) dX2_keepMark_22 ?_
  refine go_pI (pc := 25) C fpX2_23 dX2_keepMark_25 (fun h5 => ?_)
  exact go_vret (w := wV) (pc := 28) C E h5 dX2_keepMark_28 rfl
theorem dX2_bringBack_0 : decode cX2_bringBack 0 = .ok (.aload_n 0, 1) := by decide +kernel
theorem dX2_bringBack_1 : decode cX2_bringBack 1 = .ok (.getfield 23, 3) := by decide +kernel
theorem dX2_bringBack_4 : decode cX2_bringBack 4 = .ok (.ifCond .ne 5, 3) := by decide +kernel
theorem dX2_bringBack_7 : decode cX2_bringBack 7 = .ok (.iconst 0, 1) := by decide +kernel
theorem dX2_bringBack_8 : decode cX2_bringBack 8 = .ok (.ireturn, 1) := by decide +kernel
theorem dX2_bringBack_9 : decode cX2_bringBack 9 = .ok (.aload_n 0, 1) := by decide +kernel
theorem dX2_bringBack_10 : decode cX2_bringBack 10 = .ok (.aload_n 0, 1) := by decide +kernel
theorem dX2_bringBack_11 : decode cX2_bringBack 11 = .ok (.getfield 27, 3) := by decide +kernel
theorem dX2_bringBack_14 : decode cX2_bringBack 14 = .ok (.bipush 8, 2) := by decide +kernel
theorem dX2_bringBack_16 : decode cX2_bringBack 16 = .ok (.iadd, 1) := by decide +kernel
theorem dX2_bringBack_17 : decode cX2_bringBack 17 = .ok (.bipush 9, 2) := by decide +kernel
theorem dX2_bringBack_19 : decode cX2_bringBack 19 = .ok (.irem, 1) := by decide +kernel
theorem dX2_bringBack_20 : decode cX2_bringBack 20 = .ok (.putfield 27, 3) := by decide +kernel
theorem dX2_bringBack_23 : decode cX2_bringBack 23 = .ok (.aload_n 0, 1) := by decide +kernel
theorem dX2_bringBack_24 : decode cX2_bringBack 24 = .ok (.dup, 1) := by decide +kernel
theorem dX2_bringBack_25 : decode cX2_bringBack 25 = .ok (.getfield 23, 3) := by decide +kernel
theorem dX2_bringBack_28 : decode cX2_bringBack 28 = .ok (.iconst 1, 1) := by decide +kernel
theorem dX2_bringBack_29 : decode cX2_bringBack 29 = .ok (.isub, 1) := by decide +kernel
theorem dX2_bringBack_30 : decode cX2_bringBack 30 = .ok (.putfield 23, 3) := by decide +kernel
theorem dX2_bringBack_33 : decode cX2_bringBack 33 = .ok (.aload_n 0, 1) := by decide +kernel
theorem dX2_bringBack_34 : decode cX2_bringBack 34 = .ok (.getfield 27, 3) := by decide +kernel
theorem dX2_bringBack_37 : decode cX2_bringBack 37 = .ok (.ifCond .lt 28, 3) := by decide +kernel
theorem dX2_bringBack_40 : decode cX2_bringBack 40 = .ok (.aload_n 0, 1) := by decide +kernel
theorem dX2_bringBack_41 : decode cX2_bringBack 41 = .ok (.getfield 27, 3) := by decide +kernel
theorem dX2_bringBack_44 : decode cX2_bringBack 44 = .ok (.aload_n 0, 1) := by decide +kernel
theorem dX2_bringBack_45 : decode cX2_bringBack 45 = .ok (.getfield 11, 3) := by decide +kernel
theorem dX2_bringBack_48 : decode cX2_bringBack 48 = .ok (.arraylength, 1) := by decide +kernel
theorem dX2_bringBack_49 : decode cX2_bringBack 49 = .ok (.if_icmp .ge 16, 3) := by decide +kernel
theorem dX2_bringBack_52 : decode cX2_bringBack 52 = .ok (.aload_n 1, 1) := by decide +kernel
theorem dX2_bringBack_53 : decode cX2_bringBack 53 = .ok (.aload_n 0, 1) := by decide +kernel
theorem dX2_bringBack_54 : decode cX2_bringBack 54 = .ok (.getfield 11, 3) := by decide +kernel
theorem dX2_bringBack_57 : decode cX2_bringBack 57 = .ok (.aload_n 0, 1) := by decide +kernel
theorem dX2_bringBack_58 : decode cX2_bringBack 58 = .ok (.getfield 27, 3) := by decide +kernel
theorem dX2_bringBack_61 : decode cX2_bringBack 61 = .ok (.aaload, 1) := by decide +kernel
theorem dX2_bringBack_62 : decode cX2_bringBack 62 = .ok (.invokevirtual 30, 3) := by decide +kernel
theorem dX2_bringBack_65 : decode cX2_bringBack 65 = .ok (.iconst 1, 1) := by decide +kernel
theorem dX2_bringBack_66 : decode cX2_bringBack 66 = .ok (.ireturn, 1) := by decide +kernel
def fX2_bringBack (h : AH) (a0 : Nat) (a1 : Nat) : Option (Bool × AH) :=
  if hasC h 2 a0 = true then (
    (gI h 2 a0 4).bind fun x1 =>
    if x1 = 0 then (
      some ((false, h))
    ) else (
      (gI h 2 a0 3).bind fun x2 =>
      (jrem (x2 + 8) 9).bind fun x3 =>
      (pF h 2 a0 3 (.int x3)).bind fun h4 =>
      (gI h4 2 a0 4).bind fun x5 =>
      (pF h4 2 a0 4 (.int (x5 - 1))).bind fun h6 =>
      (gI h6 2 a0 3).bind fun x7 =>
      if x7 < 0 then (
        some ((true, h6))
      ) else (
        (gI h6 2 a0 3).bind fun x8 =>
        (gR h6 2 a0 0).bind fun x9 =>
        (aL h6 5 x9).bind fun x10 =>
        if x10 ≤ x8 then (
          some ((true, h6))
        ) else (
          (gR h6 2 a0 0).bind fun x11 =>
          (gI h6 2 a0 3).bind fun x12 =>
          (aR h6 x11 x12).bind fun x13 =>
          (fX9_copyFrom h6 a1 x13).bind fun q14 =>
          some ((true, q14))
        )
      )
    )
  ) else none
set_option maxHeartbeats 4000000 in
theorem mX2_bringBack {h : AH} {a0 : Nat} {a1 : Nat} {r : Bool × AH} (hr : fX2_bringBack h a0 a1 = some r) : hasC h 2 a0 = true ∧ MC yX2_bringBack cX2_bringBack 2 (some .boolean) 2 0 0 [.ref a0, .ref a1] h (some (.int (b2i r.1))) r.2 := by
  unfold fX2_bringBack at hr
  obtain ⟨hc, hr⟩ := if_some hr
  refine ⟨hc, mc_of (l0 := [(0, .ref a0), (1, .ref a1)]) rfl pn_X2 (Nat.le_of_ble_eq_true rfl) (fun Y X C E O hnm => go_run hr ?_)⟩
  have C : CT Y X RX2 cX2_bringBack 2 := C
  refine go_aload_n (pc := 0) C 0 dX2_bringBack_0 rfl ?_
  refine go_gI (pc := 1) C fdX2_23 dX2_bringBack_1 (fun x1 => ?_)
  refine go_if_ne (pc := 4) C 9 dX2_bringBack_4 (by decide) (fun _ => ?_) (fun _ => ?_)
  · refine go_iconst (pc := 7) C dX2_bringBack_7 ki_0 ?_
    exact go_bret (w := wZh) (pc := 8) C E ((false, h)) 0 false rfl dX2_bringBack_8 rfl
  · refine go_aload_n (pc := 9) C 0 dX2_bringBack_9 rfl ?_
    refine go_aload_n (pc := 10) C 0 dX2_bringBack_10 rfl ?_
    refine go_gI (pc := 11) C fdX2_27 dX2_bringBack_11 (fun x2 => ?_)
    refine go_bipush (pc := 14) C dX2_bringBack_14 kb_8 ?_
    refine go_iadd (pc := 16) C dX2_bringBack_16 ?_
    refine go_bipush (pc := 17) C dX2_bringBack_17 kb_9 ?_
    refine go_irem (pc := 19) C dX2_bringBack_19 (fun x3 => ?_)
    refine go_pI (pc := 20) C fpX2_27 dX2_bringBack_20 (fun h4 => ?_)
    refine go_aload_n (pc := 23) C 0 dX2_bringBack_23 rfl ?_
    refine go_dup (pc := 24) C dX2_bringBack_24 rfl ?_
    refine go_gI (pc := 25) C fdX2_23 dX2_bringBack_25 (fun x5 => ?_)
    refine go_iconst (pc := 28) C dX2_bringBack_28 ki_1 ?_
    refine go_isub (pc := 29) C dX2_bringBack_29 ?_
    refine go_pI (pc := 30) C fpX2_23 dX2_bringBack_30 (fun h6 => ?_)
    refine go_aload_n (pc := 33) C 0 dX2_bringBack_33 rfl ?_
    refine go_gI (pc := 34) C fdX2_27 dX2_bringBack_34 (fun x7 => ?_)
    refine go_if_lt (pc := 37) C 65 dX2_bringBack_37 (by decide) (fun _ => ?_) (fun _ => ?_)
    · refine go_iconst (pc := 65) C dX2_bringBack_65 ki_1 ?_
      exact go_bret (w := wZh) (pc := 66) C E ((true, h6)) 1 true rfl dX2_bringBack_66 rfl
    · refine go_aload_n (pc := 40) C 0 dX2_bringBack_40 rfl ?_
      refine go_gI (pc := 41) C fdX2_27 dX2_bringBack_41 (fun x8 => ?_)
      refine go_aload_n (pc := 44) C 0 dX2_bringBack_44 rfl ?_
      refine go_gR (pc := 45) C fdX2_11 dX2_bringBack_45 (fun x9 => ?_)
      refine go_alen (pc := 48) C 5 (by decide) dX2_bringBack_48 (fun x10 => ?_)
      refine go_icmp_ge (pc := 49) C 65 dX2_bringBack_49 (by decide) (fun _ => ?_) (fun _ => ?_)
      · refine go_iconst (pc := 65) C dX2_bringBack_65 ki_1 ?_
        exact go_bret (w := wZh) (pc := 66) C E ((true, h6)) 1 true rfl dX2_bringBack_66 rfl
      · refine go_aload_n (pc := 52) C 1 dX2_bringBack_52 rfl ?_
        refine go_aload_n (pc := 53) C 0 dX2_bringBack_53 rfl ?_
        refine go_gR (pc := 54) C fdX2_11 dX2_bringBack_54 (fun x11 => ?_)
        refine go_aload_n (pc := 57) C 0 dX2_bringBack_57 rfl ?_
        refine go_gI (pc := 58) C fdX2_27 dX2_bringBack_58 (fun x12 => ?_)
        refine go_aald (pc := 61) C dX2_bringBack_61 (fun x13 => ?_)
        refine go_bind (fun q14 hq14 => ?_)
        refine go_callV (rest := []) (st' := []) (c' := 0) (s' := 0) (pc := 62) C O miX2_30 mvX9_copyFrom [.ref x13] rfl (mX9_copyFrom hq14).1 (mX9_copyFrom hq14).2 dX2_bringBack_62 ⟨by decide, by decide, by decide, by decide⟩ rfl (Nat.le_of_ble_eq_true rfl) rfl ⟨rfl, rfl⟩ ?_
        refine go_iconst (pc := 65) C dX2_bringBack_65 ki_1 ?_
        exact go_bret (w := wZh) (pc := 66) C E ((true, q14)) 1 true rfl dX2_bringBack_66 rfl
theorem dX2_store_0 : decode cX2_store 0 = .ok (.iload_n 1, 1) := by decide +kernel
theorem dX2_store_1 : decode cX2_store 1 = .ok (.ifCond .lt 8, 3) := by decide +kernel
theorem dX2_store_4 : decode cX2_store 4 = .ok (.iload_n 1, 1) := by decide +kernel
theorem dX2_store_5 : decode cX2_store 5 = .ok (.iconst 2, 1) := by decide +kernel
theorem dX2_store_6 : decode cX2_store 6 = .ok (.if_icmp .lt 5, 3) := by decide +kernel
theorem dX2_store_9 : decode cX2_store 9 = .ok (.iconst 0, 1) := by decide +kernel
theorem dX2_store_10 : decode cX2_store 10 = .ok (.ireturn, 1) := by decide +kernel
theorem dX2_store_11 : decode cX2_store 11 = .ok (.aload_n 0, 1) := by decide +kernel
theorem dX2_store_12 : decode cX2_store 12 = .ok (.getfield 15, 3) := by decide +kernel
theorem dX2_store_15 : decode cX2_store 15 = .ok (.iload_n 1, 1) := by decide +kernel
theorem dX2_store_16 : decode cX2_store 16 = .ok (.aaload, 1) := by decide +kernel
theorem dX2_store_17 : decode cX2_store 17 = .ok (.aload_n 2, 1) := by decide +kernel
theorem dX2_store_18 : decode cX2_store 18 = .ok (.invokevirtual 30, 3) := by decide +kernel
theorem dX2_store_21 : decode cX2_store 21 = .ok (.aload_n 0, 1) := by decide +kernel
theorem dX2_store_22 : decode cX2_store 22 = .ok (.getfield 18, 3) := by decide +kernel
theorem dX2_store_25 : decode cX2_store 25 = .ok (.iload_n 1, 1) := by decide +kernel
theorem dX2_store_26 : decode cX2_store 26 = .ok (.iconst 1, 1) := by decide +kernel
theorem dX2_store_27 : decode cX2_store 27 = .ok (.bastore, 1) := by decide +kernel
theorem dX2_store_28 : decode cX2_store 28 = .ok (.iconst 1, 1) := by decide +kernel
theorem dX2_store_29 : decode cX2_store 29 = .ok (.ireturn, 1) := by decide +kernel
def fX2_store (h : AH) (a0 : Nat) (a1 : Int32) (a2 : Nat) : Option (Bool × AH) :=
  if hasC h 2 a0 = true then (
    if a1 < 0 then (
      some ((false, h))
    ) else (
      if a1 < 2 then (
        (gR h 2 a0 1).bind fun x1 =>
        (aR h x1 a1).bind fun x2 =>
        (fX9_copyFrom h x2 a2).bind fun q3 =>
        (gR q3 2 a0 2).bind fun x4 =>
        (sI q3 4 x4 a1 1).bind fun h5 =>
        some ((true, h5))
      ) else (
        some ((false, h))
      )
    )
  ) else none
set_option maxHeartbeats 4000000 in
theorem mX2_store {h : AH} {a0 : Nat} {a1 : Int32} {a2 : Nat} {r : Bool × AH} (hr : fX2_store h a0 a1 a2 = some r) : hasC h 2 a0 = true ∧ MC yX2_store cX2_store 3 (some .boolean) 2 0 0 [.ref a0, .int a1, .ref a2] h (some (.int (b2i r.1))) r.2 := by
  unfold fX2_store at hr
  obtain ⟨hc, hr⟩ := if_some hr
  refine ⟨hc, mc_of (l0 := [(0, .ref a0), (1, .int a1), (2, .ref a2)]) rfl pn_X2 (Nat.le_of_ble_eq_true rfl) (fun Y X C E O hnm => go_run hr ?_)⟩
  have C : CT Y X RX2 cX2_store 3 := C
  refine go_iload_n (pc := 0) C 1 dX2_store_0 rfl ?_
  refine go_if_lt (pc := 1) C 9 dX2_store_1 (by decide) (fun _ => ?_) (fun _ => ?_)
  · refine go_iconst (pc := 9) C dX2_store_9 ki_0 ?_
    exact go_bret (w := wZh) (pc := 10) C E ((false, h)) 0 false rfl dX2_store_10 rfl
  · refine go_iload_n (pc := 4) C 1 dX2_store_4 rfl ?_
    refine go_iconst (pc := 5) C dX2_store_5 ki_2 ?_
    refine go_icmp_lt (pc := 6) C 11 dX2_store_6 (by decide) (fun _ => ?_) (fun _ => ?_)
    · refine go_aload_n (pc := 11) C 0 dX2_store_11 rfl ?_
      refine go_gR (pc := 12) C fdX2_15 dX2_store_12 (fun x1 => ?_)
      refine go_iload_n (pc := 15) C 1 dX2_store_15 rfl ?_
      refine go_aald (pc := 16) C dX2_store_16 (fun x2 => ?_)
      refine go_aload_n (pc := 17) C 2 dX2_store_17 rfl ?_
      refine go_bind (fun q3 hq3 => ?_)
      refine go_callV (rest := []) (st' := []) (c' := 0) (s' := 0) (pc := 18) C O miX2_30 mvX9_copyFrom [.ref a2] rfl (mX9_copyFrom hq3).1 (mX9_copyFrom hq3).2 dX2_store_18 ⟨by decide, by decide, by decide, by decide⟩ rfl (Nat.le_of_ble_eq_true rfl) rfl ⟨rfl, rfl⟩ ?_
      refine go_aload_n (pc := 21) C 0 dX2_store_21 rfl ?_
      refine go_gR (pc := 22) C fdX2_18 dX2_store_22 (fun x4 => ?_)
      refine go_iload_n (pc := 25) C 1 dX2_store_25 rfl ?_
      refine go_iconst (pc := 26) C dX2_store_26 ki_1 ?_
      refine go_zast (pc := 27) C dX2_store_27 (fun h5 => ?_)
      refine go_iconst (pc := 28) C dX2_store_28 ki_1 ?_
      exact go_bret (w := wZh) (pc := 29) C E ((true, h5)) 1 true rfl dX2_store_29 rfl
    · refine go_iconst (pc := 9) C dX2_store_9 ki_0 ?_
      exact go_bret (w := wZh) (pc := 10) C E ((false, h)) 0 false rfl dX2_store_10 rfl
theorem dX2_fetchStored_0 : decode cX2_fetchStored 0 = .ok (.iload_n 1, 1) := by decide +kernel
theorem dX2_fetchStored_1 : decode cX2_fetchStored 1 = .ok (.ifCond .lt 17, 3) := by decide +kernel
theorem dX2_fetchStored_4 : decode cX2_fetchStored 4 = .ok (.iload_n 1, 1) := by decide +kernel
theorem dX2_fetchStored_5 : decode cX2_fetchStored 5 = .ok (.iconst 2, 1) := by decide +kernel
theorem dX2_fetchStored_6 : decode cX2_fetchStored 6 = .ok (.if_icmp .ge 12, 3) := by decide +kernel
theorem dX2_fetchStored_9 : decode cX2_fetchStored 9 = .ok (.aload_n 0, 1) := by decide +kernel
theorem dX2_fetchStored_10 : decode cX2_fetchStored 10 = .ok (.getfield 18, 3) := by decide +kernel
theorem dX2_fetchStored_13 : decode cX2_fetchStored 13 = .ok (.iload_n 1, 1) := by decide +kernel
theorem dX2_fetchStored_14 : decode cX2_fetchStored 14 = .ok (.baload, 1) := by decide +kernel
theorem dX2_fetchStored_15 : decode cX2_fetchStored 15 = .ok (.ifCond .ne 5, 3) := by decide +kernel
theorem dX2_fetchStored_18 : decode cX2_fetchStored 18 = .ok (.iconst 0, 1) := by decide +kernel
theorem dX2_fetchStored_19 : decode cX2_fetchStored 19 = .ok (.ireturn, 1) := by decide +kernel
theorem dX2_fetchStored_20 : decode cX2_fetchStored 20 = .ok (.aload_n 2, 1) := by decide +kernel
theorem dX2_fetchStored_21 : decode cX2_fetchStored 21 = .ok (.aload_n 0, 1) := by decide +kernel
theorem dX2_fetchStored_22 : decode cX2_fetchStored 22 = .ok (.getfield 15, 3) := by decide +kernel
theorem dX2_fetchStored_25 : decode cX2_fetchStored 25 = .ok (.iload_n 1, 1) := by decide +kernel
theorem dX2_fetchStored_26 : decode cX2_fetchStored 26 = .ok (.aaload, 1) := by decide +kernel
theorem dX2_fetchStored_27 : decode cX2_fetchStored 27 = .ok (.invokevirtual 30, 3) := by decide +kernel
theorem dX2_fetchStored_30 : decode cX2_fetchStored 30 = .ok (.aload_n 0, 1) := by decide +kernel
theorem dX2_fetchStored_31 : decode cX2_fetchStored 31 = .ok (.iconst 0, 1) := by decide +kernel
theorem dX2_fetchStored_32 : decode cX2_fetchStored 32 = .ok (.putfield 23, 3) := by decide +kernel
theorem dX2_fetchStored_35 : decode cX2_fetchStored 35 = .ok (.iconst 1, 1) := by decide +kernel
theorem dX2_fetchStored_36 : decode cX2_fetchStored 36 = .ok (.ireturn, 1) := by decide +kernel
def fX2_fetchStored (h : AH) (a0 : Nat) (a1 : Int32) (a2 : Nat) : Option (Bool × AH) :=
  if hasC h 2 a0 = true then (
    if a1 < 0 then (
      some ((false, h))
    ) else (
      if 2 ≤ a1 then (
        some ((false, h))
      ) else (
        (gR h 2 a0 2).bind fun x1 =>
        (aZ h x1 a1).bind fun x2 =>
        if x2 = true then (
          (gR h 2 a0 1).bind fun x3 =>
          (aR h x3 a1).bind fun x4 =>
          (fX9_copyFrom h a2 x4).bind fun q5 =>
          (pF q5 2 a0 4 (.int 0)).bind fun h6 =>
          some ((true, h6))
        ) else (
          some ((false, h))
        )
      )
    )
  ) else none
set_option maxHeartbeats 4000000 in
theorem mX2_fetchStored {h : AH} {a0 : Nat} {a1 : Int32} {a2 : Nat} {r : Bool × AH} (hr : fX2_fetchStored h a0 a1 a2 = some r) : hasC h 2 a0 = true ∧ MC yX2_fetchStored cX2_fetchStored 3 (some .boolean) 2 0 0 [.ref a0, .int a1, .ref a2] h (some (.int (b2i r.1))) r.2 := by
  unfold fX2_fetchStored at hr
  obtain ⟨hc, hr⟩ := if_some hr
  refine ⟨hc, mc_of (l0 := [(0, .ref a0), (1, .int a1), (2, .ref a2)]) rfl pn_X2 (Nat.le_of_ble_eq_true rfl) (fun Y X C E O hnm => go_run hr ?_)⟩
  have C : CT Y X RX2 cX2_fetchStored 3 := C
  refine go_iload_n (pc := 0) C 1 dX2_fetchStored_0 rfl ?_
  refine go_if_lt (pc := 1) C 18 dX2_fetchStored_1 (by decide) (fun _ => ?_) (fun _ => ?_)
  · refine go_iconst (pc := 18) C dX2_fetchStored_18 ki_0 ?_
    exact go_bret (w := wZh) (pc := 19) C E ((false, h)) 0 false rfl dX2_fetchStored_19 rfl
  · refine go_iload_n (pc := 4) C 1 dX2_fetchStored_4 rfl ?_
    refine go_iconst (pc := 5) C dX2_fetchStored_5 ki_2 ?_
    refine go_icmp_ge (pc := 6) C 18 dX2_fetchStored_6 (by decide) (fun _ => ?_) (fun _ => ?_)
    · refine go_iconst (pc := 18) C dX2_fetchStored_18 ki_0 ?_
      exact go_bret (w := wZh) (pc := 19) C E ((false, h)) 0 false rfl dX2_fetchStored_19 rfl
    · refine go_aload_n (pc := 9) C 0 dX2_fetchStored_9 rfl ?_
      refine go_gR (pc := 10) C fdX2_18 dX2_fetchStored_10 (fun x1 => ?_)
      refine go_iload_n (pc := 13) C 1 dX2_fetchStored_13 rfl ?_
      refine go_zald (pc := 14) C dX2_fetchStored_14 (fun x2 => ?_)
      refine go_ifZ_ne (pc := 15) C 20 dX2_fetchStored_15 (by decide) (fun _ => ?_) (fun _ => ?_)
      · refine go_aload_n (pc := 20) C 2 dX2_fetchStored_20 rfl ?_
        refine go_aload_n (pc := 21) C 0 dX2_fetchStored_21 rfl ?_
        refine go_gR (pc := 22) C fdX2_15 dX2_fetchStored_22 (fun x3 => ?_)
        refine go_iload_n (pc := 25) C 1 dX2_fetchStored_25 rfl ?_
        refine go_aald (pc := 26) C dX2_fetchStored_26 (fun x4 => ?_)
        refine go_bind (fun q5 hq5 => ?_)
        refine go_callV (rest := []) (st' := []) (c' := 0) (s' := 0) (pc := 27) C O miX2_30 mvX9_copyFrom [.ref x4] rfl (mX9_copyFrom hq5).1 (mX9_copyFrom hq5).2 dX2_fetchStored_27 ⟨by decide, by decide, by decide, by decide⟩ rfl (Nat.le_of_ble_eq_true rfl) rfl ⟨rfl, rfl⟩ ?_
        refine go_aload_n (pc := 30) C 0 dX2_fetchStored_30 rfl ?_
        refine go_iconst (pc := 31) C dX2_fetchStored_31 ki_0 ?_
        refine go_pI (pc := 32) C fpX2_23 dX2_fetchStored_32 (fun h6 => ?_)
        refine go_iconst (pc := 35) C dX2_fetchStored_35 ki_1 ?_
        exact go_bret (w := wZh) (pc := 36) C E ((true, h6)) 1 true rfl dX2_fetchStored_36 rfl
      · refine go_iconst (pc := 18) C dX2_fetchStored_18 ki_0 ?_
        exact go_bret (w := wZh) (pc := 19) C E ((false, h)) 0 false rfl dX2_fetchStored_19 rfl
theorem dX3_init_0 : decode cX3_init 0 = .ok (.aload_n 0, 1) := by decide +kernel
theorem dX3_init_1 : decode cX3_init 1 = .ok (.invokespecial 1, 3) := by decide +kernel
theorem dX3_init_4 : decode cX3_init 4 = .ok (.aload_n 0, 1) := by decide +kernel
theorem dX3_init_5 : decode cX3_init 5 = .ok (.bipush 61, 2) := by decide +kernel
theorem dX3_init_7 : decode cX3_init 7 = .ok (.newarray .int, 2) := by decide +kernel
theorem dX3_init_9 : decode cX3_init 9 = .ok (.putfield 9, 3) := by decide +kernel
theorem dX3_init_12 : decode cX3_init 12 = .ok (.return_, 1) := by decide +kernel
def fX3_init (h : AH) (a0 : Nat) : Option (AH) :=
  letF (hnew h (.inl (0, newD 0 61))) fun h1 =>
  (pF h1 3 a0 0 (.ref h.2)).bind fun h2 =>
  some h2
set_option maxHeartbeats 4000000 in
theorem mX3_init {h : AH} {a0 : Nat} {r : AH} (hr : fX3_init h a0 = some r) : MC yX3_init cX3_init 1 none 1 1 61 [.ref a0] h none r := by
  unfold fX3_init at hr
  refine mc_of (l0 := [(0, .ref a0)]) rfl pn_X3 (Nat.le_of_ble_eq_true rfl) (fun Y X C E O hnm => go_run hr ?_)
  have C : CT Y X RX3 cX3_init 1 := C
  refine go_aload_n (pc := 0) C 0 dX3_init_0 rfl ?_
  refine go_objInit (pc := 1) C O w_303 w_120 w_121 dX3_init_1 (by decide) (Nat.le_of_ble_eq_true rfl) ?_
  refine go_aload_n (pc := 4) C 0 dX3_init_4 rfl ?_
  refine go_bipush (pc := 5) C dX3_init_5 kb_61 ?_
  refine go_newa (atype := .int) (t := 0) (c' := 1) (s' := 61) (pc := 7) 61 C O ⟨rfl, by decide⟩ w_172 (by decide) (by decide) (by decide) dX3_init_7 ⟨by decide, by decide⟩ ⟨rfl, rfl⟩ (fun h1 => ?_)
  refine go_pRF (pc := 9) C hnm fpX3_9 dX3_init_9 (fun _ => rfl) (fun _ => rfl) (fun h2 => ?_)
  exact go_vret (w := wV) (pc := 12) C E h2 dX3_init_12 rfl
theorem dX3_worthOf_0 : decode cX3_worthOf 0 = .ok (.iload_n 1, 1) := by decide +kernel
theorem dX3_worthOf_1 : decode cX3_worthOf 1 = .ok (.ifCond .lt 21, 3) := by decide +kernel
theorem dX3_worthOf_4 : decode cX3_worthOf 4 = .ok (.iload_n 1, 1) := by decide +kernel
theorem dX3_worthOf_5 : decode cX3_worthOf 5 = .ok (.aload_n 0, 1) := by decide +kernel
theorem dX3_worthOf_6 : decode cX3_worthOf 6 = .ok (.getfield 9, 3) := by decide +kernel
theorem dX3_worthOf_9 : decode cX3_worthOf 9 = .ok (.arraylength, 1) := by decide +kernel
theorem dX3_worthOf_10 : decode cX3_worthOf 10 = .ok (.if_icmp .ge 12, 3) := by decide +kernel
theorem dX3_worthOf_13 : decode cX3_worthOf 13 = .ok (.aload_n 0, 1) := by decide +kernel
theorem dX3_worthOf_14 : decode cX3_worthOf 14 = .ok (.getfield 9, 3) := by decide +kernel
theorem dX3_worthOf_17 : decode cX3_worthOf 17 = .ok (.iload_n 1, 1) := by decide +kernel
theorem dX3_worthOf_18 : decode cX3_worthOf 18 = .ok (.iaload, 1) := by decide +kernel
theorem dX3_worthOf_19 : decode cX3_worthOf 19 = .ok (.goto 4, 3) := by decide +kernel
theorem dX3_worthOf_22 : decode cX3_worthOf 22 = .ok (.iconst 0, 1) := by decide +kernel
theorem dX3_worthOf_23 : decode cX3_worthOf 23 = .ok (.ireturn, 1) := by decide +kernel
def fX3_worthOf (h : AH) (a0 : Nat) (a1 : Int32) : Option (Int32) :=
  if hasC h 3 a0 = true then (
    if a1 < 0 then (
      some 0
    ) else (
      (gR h 3 a0 0).bind fun x1 =>
      (aL h 0 x1).bind fun x2 =>
      if x2 ≤ a1 then (
        some 0
      ) else (
        (gR h 3 a0 0).bind fun x3 =>
        (aI h 0 x3 a1).bind fun x4 =>
        some x4
      )
    )
  ) else none
set_option maxHeartbeats 4000000 in
theorem mX3_worthOf {h : AH} {a0 : Nat} {a1 : Int32} {r : Int32} (hr : fX3_worthOf h a0 a1 = some r) : hasC h 3 a0 = true ∧ MC yX3_worthOf cX3_worthOf 2 (some .int) 1 0 0 [.ref a0, .int a1] h (some (.int r)) h := by
  unfold fX3_worthOf at hr
  obtain ⟨hc, hr⟩ := if_some hr
  refine ⟨hc, mc_of (l0 := [(0, .ref a0), (1, .int a1)]) rfl pn_X3 (Nat.le_of_ble_eq_true rfl) (fun Y X C E O hnm => go_run hr ?_)⟩
  have C : CT Y X RX3 cX3_worthOf 2 := C
  refine go_iload_n (pc := 0) C 1 dX3_worthOf_0 rfl ?_
  refine go_if_lt (pc := 1) C 22 dX3_worthOf_1 (by decide) (fun _ => ?_) (fun _ => ?_)
  · refine go_iconst (pc := 22) C dX3_worthOf_22 ki_0 ?_
    exact go_iret (w := (wI h)) (pc := 23) C E 0 0 dX3_worthOf_23 rfl
  · refine go_iload_n (pc := 4) C 1 dX3_worthOf_4 rfl ?_
    refine go_aload_n (pc := 5) C 0 dX3_worthOf_5 rfl ?_
    refine go_gR (pc := 6) C fdX3_9 dX3_worthOf_6 (fun x1 => ?_)
    refine go_alen (pc := 9) C 0 (by decide) dX3_worthOf_9 (fun x2 => ?_)
    refine go_icmp_ge (pc := 10) C 22 dX3_worthOf_10 (by decide) (fun _ => ?_) (fun _ => ?_)
    · refine go_iconst (pc := 22) C dX3_worthOf_22 ki_0 ?_
      exact go_iret (w := (wI h)) (pc := 23) C E 0 0 dX3_worthOf_23 rfl
    · refine go_aload_n (pc := 13) C 0 dX3_worthOf_13 rfl ?_
      refine go_gR (pc := 14) C fdX3_9 dX3_worthOf_14 (fun x3 => ?_)
      refine go_iload_n (pc := 17) C 1 dX3_worthOf_17 rfl ?_
      refine go_iald (pc := 18) C dX3_worthOf_18 (fun x4 => ?_)
      refine go_goto (pc := 19) C 23 dX3_worthOf_19 (by decide) ?_
      exact go_iret (w := (wI h)) (pc := 23) C E x4 x4 dX3_worthOf_23 rfl
theorem dJ6_numberOfTrailingZeros_0f7a4_0 : decode cJ6_numberOfTrailingZeros_0f7a4 0 = .ok (.iload_n 0, 1) := by decide +kernel
theorem dJ6_numberOfTrailingZeros_0f7a4_1 : decode cJ6_numberOfTrailingZeros_0f7a4 1 = .ok (.iconst (-1), 1) := by decide +kernel
theorem dJ6_numberOfTrailingZeros_0f7a4_2 : decode cJ6_numberOfTrailingZeros_0f7a4 2 = .ok (.ixor, 1) := by decide +kernel
theorem dJ6_numberOfTrailingZeros_0f7a4_3 : decode cJ6_numberOfTrailingZeros_0f7a4 3 = .ok (.iload_n 0, 1) := by decide +kernel
theorem dJ6_numberOfTrailingZeros_0f7a4_4 : decode cJ6_numberOfTrailingZeros_0f7a4 4 = .ok (.iconst 1, 1) := by decide +kernel
theorem dJ6_numberOfTrailingZeros_0f7a4_5 : decode cJ6_numberOfTrailingZeros_0f7a4 5 = .ok (.isub, 1) := by decide +kernel
theorem dJ6_numberOfTrailingZeros_0f7a4_6 : decode cJ6_numberOfTrailingZeros_0f7a4 6 = .ok (.iand, 1) := by decide +kernel
theorem dJ6_numberOfTrailingZeros_0f7a4_7 : decode cJ6_numberOfTrailingZeros_0f7a4 7 = .ok (.istore_n 0, 1) := by decide +kernel
theorem dJ6_numberOfTrailingZeros_0f7a4_8 : decode cJ6_numberOfTrailingZeros_0f7a4 8 = .ok (.iload_n 0, 1) := by decide +kernel
theorem dJ6_numberOfTrailingZeros_0f7a4_9 : decode cJ6_numberOfTrailingZeros_0f7a4 9 = .ok (.ifCond .gt 8, 3) := by decide +kernel
theorem dJ6_numberOfTrailingZeros_0f7a4_12 : decode cJ6_numberOfTrailingZeros_0f7a4 12 = .ok (.iload_n 0, 1) := by decide +kernel
theorem dJ6_numberOfTrailingZeros_0f7a4_13 : decode cJ6_numberOfTrailingZeros_0f7a4 13 = .ok (.bipush 32, 2) := by decide +kernel
theorem dJ6_numberOfTrailingZeros_0f7a4_15 : decode cJ6_numberOfTrailingZeros_0f7a4 15 = .ok (.iand, 1) := by decide +kernel
theorem dJ6_numberOfTrailingZeros_0f7a4_16 : decode cJ6_numberOfTrailingZeros_0f7a4 16 = .ok (.ireturn, 1) := by decide +kernel
theorem dJ6_numberOfTrailingZeros_0f7a4_17 : decode cJ6_numberOfTrailingZeros_0f7a4 17 = .ok (.iconst 1, 1) := by decide +kernel
theorem dJ6_numberOfTrailingZeros_0f7a4_18 : decode cJ6_numberOfTrailingZeros_0f7a4 18 = .ok (.istore_n 1, 1) := by decide +kernel
theorem dJ6_numberOfTrailingZeros_0f7a4_19 : decode cJ6_numberOfTrailingZeros_0f7a4 19 = .ok (.iload_n 0, 1) := by decide +kernel
theorem dJ6_numberOfTrailingZeros_0f7a4_20 : decode cJ6_numberOfTrailingZeros_0f7a4 20 = .ok (.ldc_w 264, 3) := by decide +kernel
theorem dJ6_numberOfTrailingZeros_0f7a4_23 : decode cJ6_numberOfTrailingZeros_0f7a4 23 = .ok (.if_icmp .le 11, 3) := by decide +kernel
theorem dJ6_numberOfTrailingZeros_0f7a4_26 : decode cJ6_numberOfTrailingZeros_0f7a4 26 = .ok (.iinc 1 16, 3) := by decide +kernel
theorem dJ6_numberOfTrailingZeros_0f7a4_29 : decode cJ6_numberOfTrailingZeros_0f7a4 29 = .ok (.iload_n 0, 1) := by decide +kernel
theorem dJ6_numberOfTrailingZeros_0f7a4_30 : decode cJ6_numberOfTrailingZeros_0f7a4 30 = .ok (.bipush 16, 2) := by decide +kernel
theorem dJ6_numberOfTrailingZeros_0f7a4_32 : decode cJ6_numberOfTrailingZeros_0f7a4 32 = .ok (.iushr, 1) := by decide +kernel
theorem dJ6_numberOfTrailingZeros_0f7a4_33 : decode cJ6_numberOfTrailingZeros_0f7a4 33 = .ok (.istore_n 0, 1) := by decide +kernel
theorem dJ6_numberOfTrailingZeros_0f7a4_34 : decode cJ6_numberOfTrailingZeros_0f7a4 34 = .ok (.iload_n 0, 1) := by decide +kernel
theorem dJ6_numberOfTrailingZeros_0f7a4_35 : decode cJ6_numberOfTrailingZeros_0f7a4 35 = .ok (.sipush 256, 3) := by decide +kernel
theorem dJ6_numberOfTrailingZeros_0f7a4_38 : decode cJ6_numberOfTrailingZeros_0f7a4 38 = .ok (.if_icmp .le 11, 3) := by decide +kernel
theorem dJ6_numberOfTrailingZeros_0f7a4_41 : decode cJ6_numberOfTrailingZeros_0f7a4 41 = .ok (.iinc 1 8, 3) := by decide +kernel
theorem dJ6_numberOfTrailingZeros_0f7a4_44 : decode cJ6_numberOfTrailingZeros_0f7a4 44 = .ok (.iload_n 0, 1) := by decide +kernel
theorem dJ6_numberOfTrailingZeros_0f7a4_45 : decode cJ6_numberOfTrailingZeros_0f7a4 45 = .ok (.bipush 8, 2) := by decide +kernel
theorem dJ6_numberOfTrailingZeros_0f7a4_47 : decode cJ6_numberOfTrailingZeros_0f7a4 47 = .ok (.iushr, 1) := by decide +kernel
theorem dJ6_numberOfTrailingZeros_0f7a4_48 : decode cJ6_numberOfTrailingZeros_0f7a4 48 = .ok (.istore_n 0, 1) := by decide +kernel
theorem dJ6_numberOfTrailingZeros_0f7a4_49 : decode cJ6_numberOfTrailingZeros_0f7a4 49 = .ok (.iload_n 0, 1) := by decide +kernel
theorem dJ6_numberOfTrailingZeros_0f7a4_50 : decode cJ6_numberOfTrailingZeros_0f7a4 50 = .ok (.bipush 16, 2) := by decide +kernel
theorem dJ6_numberOfTrailingZeros_0f7a4_52 : decode cJ6_numberOfTrailingZeros_0f7a4 52 = .ok (.if_icmp .le 10, 3) := by decide +kernel
theorem dJ6_numberOfTrailingZeros_0f7a4_55 : decode cJ6_numberOfTrailingZeros_0f7a4 55 = .ok (.iinc 1 4, 3) := by decide +kernel
theorem dJ6_numberOfTrailingZeros_0f7a4_58 : decode cJ6_numberOfTrailingZeros_0f7a4 58 = .ok (.iload_n 0, 1) := by decide +kernel
theorem dJ6_numberOfTrailingZeros_0f7a4_59 : decode cJ6_numberOfTrailingZeros_0f7a4 59 = .ok (.iconst 4, 1) := by decide +kernel
theorem dJ6_numberOfTrailingZeros_0f7a4_60 : decode cJ6_numberOfTrailingZeros_0f7a4 60 = .ok (.iushr, 1) := by decide +kernel
theorem dJ6_numberOfTrailingZeros_0f7a4_61 : decode cJ6_numberOfTrailingZeros_0f7a4 61 = .ok (.istore_n 0, 1) := by decide +kernel
theorem dJ6_numberOfTrailingZeros_0f7a4_62 : decode cJ6_numberOfTrailingZeros_0f7a4 62 = .ok (.iload_n 0, 1) := by decide +kernel
theorem dJ6_numberOfTrailingZeros_0f7a4_63 : decode cJ6_numberOfTrailingZeros_0f7a4 63 = .ok (.iconst 4, 1) := by decide +kernel
theorem dJ6_numberOfTrailingZeros_0f7a4_64 : decode cJ6_numberOfTrailingZeros_0f7a4 64 = .ok (.if_icmp .le 10, 3) := by decide +kernel
theorem dJ6_numberOfTrailingZeros_0f7a4_67 : decode cJ6_numberOfTrailingZeros_0f7a4 67 = .ok (.iinc 1 2, 3) := by decide +kernel
theorem dJ6_numberOfTrailingZeros_0f7a4_70 : decode cJ6_numberOfTrailingZeros_0f7a4 70 = .ok (.iload_n 0, 1) := by decide +kernel
theorem dJ6_numberOfTrailingZeros_0f7a4_71 : decode cJ6_numberOfTrailingZeros_0f7a4 71 = .ok (.iconst 2, 1) := by decide +kernel
theorem dJ6_numberOfTrailingZeros_0f7a4_72 : decode cJ6_numberOfTrailingZeros_0f7a4 72 = .ok (.iushr, 1) := by decide +kernel
theorem dJ6_numberOfTrailingZeros_0f7a4_73 : decode cJ6_numberOfTrailingZeros_0f7a4 73 = .ok (.istore_n 0, 1) := by decide +kernel
theorem dJ6_numberOfTrailingZeros_0f7a4_74 : decode cJ6_numberOfTrailingZeros_0f7a4 74 = .ok (.iload_n 1, 1) := by decide +kernel
theorem dJ6_numberOfTrailingZeros_0f7a4_75 : decode cJ6_numberOfTrailingZeros_0f7a4 75 = .ok (.iload_n 0, 1) := by decide +kernel
theorem dJ6_numberOfTrailingZeros_0f7a4_76 : decode cJ6_numberOfTrailingZeros_0f7a4 76 = .ok (.iconst 1, 1) := by decide +kernel
theorem dJ6_numberOfTrailingZeros_0f7a4_77 : decode cJ6_numberOfTrailingZeros_0f7a4 77 = .ok (.iushr, 1) := by decide +kernel
theorem dJ6_numberOfTrailingZeros_0f7a4_78 : decode cJ6_numberOfTrailingZeros_0f7a4 78 = .ok (.iadd, 1) := by decide +kernel
theorem dJ6_numberOfTrailingZeros_0f7a4_79 : decode cJ6_numberOfTrailingZeros_0f7a4 79 = .ok (.ireturn, 1) := by decide +kernel
def fJ6_numberOfTrailingZeros_0f7a4_J62 (h : AH) (v0 : Int32) (v1 : Int32) : Option (Int32) :=
    if v0 ≤ 4 then (
      some (v1 + (jush v0 1))
    ) else (
      letF (v1 + 2 : Int32) fun x1 =>
      letF (jush v0 2 : Int32) fun x2 =>
      some (x1 + (jush x2 1))
    )
def fJ6_numberOfTrailingZeros_0f7a4_J49 (h : AH) (v0 : Int32) (v1 : Int32) : Option (Int32) :=
    if v0 ≤ 16 then (
      fJ6_numberOfTrailingZeros_0f7a4_J62 h v0 v1
    ) else (
      letF (v1 + 4 : Int32) fun x3 =>
      letF (jush v0 4 : Int32) fun x4 =>
      fJ6_numberOfTrailingZeros_0f7a4_J62 h x4 x3
    )
def fJ6_numberOfTrailingZeros_0f7a4_J34 (h : AH) (v0 : Int32) (v1 : Int32) : Option (Int32) :=
    if v0 ≤ 256 then (
      fJ6_numberOfTrailingZeros_0f7a4_J49 h v0 v1
    ) else (
      letF (v1 + 8 : Int32) fun x5 =>
      letF (jush v0 8 : Int32) fun x6 =>
      fJ6_numberOfTrailingZeros_0f7a4_J49 h x6 x5
    )
def fJ6_numberOfTrailingZeros_0f7a4 (h : AH) (a0 : Int32) : Option (Int32) :=
  letF ((a0 ^^^ ((-1))) &&& (a0 - 1) : Int32) fun x7 =>
  if 0 < x7 then (
    if x7 ≤ 65536 then (
      fJ6_numberOfTrailingZeros_0f7a4_J34 h x7 1
    ) else (
      letF (1 + 16 : Int32) fun x8 =>
      letF (jush x7 16 : Int32) fun x9 =>
      fJ6_numberOfTrailingZeros_0f7a4_J34 h x9 x8
    )
  ) else (
    some (x7 &&& 32)
  )
set_option maxHeartbeats 4000000 in
theorem gJ6_numberOfTrailingZeros_0f7a4_J62 {Y : YT} {X : XT} (C : CT Y X RJ6 cJ6_numberOfTrailingZeros_0f7a4 2) (O : RO X 1 0 0) {h : AH} {r : Int32} (E : RX Y X (some .int) (some (.int r)) h 0 0) : ∀ (v0 : Int32) (v1 : Int32), GO Y X 2 r h 0 0 62 [(0, .int v0), (1, .int v1)] [] (fJ6_numberOfTrailingZeros_0f7a4_J62 h v0 v1) := by
  intro v0 v1
  unfold fJ6_numberOfTrailingZeros_0f7a4_J62
  refine go_iload_n (pc := 62) C 0 dJ6_numberOfTrailingZeros_0f7a4_62 rfl ?_
  refine go_iconst (pc := 63) C dJ6_numberOfTrailingZeros_0f7a4_63 ki_4 ?_
  refine go_icmp_le (pc := 64) C 74 dJ6_numberOfTrailingZeros_0f7a4_64 (by decide) (fun _ => ?_) (fun _ => ?_)
  · refine go_iload_n (pc := 74) C 1 dJ6_numberOfTrailingZeros_0f7a4_74 rfl ?_
    refine go_iload_n (pc := 75) C 0 dJ6_numberOfTrailingZeros_0f7a4_75 rfl ?_
    refine go_iconst (pc := 76) C dJ6_numberOfTrailingZeros_0f7a4_76 ki_1 ?_
    refine go_iushr (pc := 77) C dJ6_numberOfTrailingZeros_0f7a4_77 ?_
    refine go_iadd (pc := 78) C dJ6_numberOfTrailingZeros_0f7a4_78 ?_
    exact go_iret (w := (wI h)) (pc := 79) C E (v1 + (jush v0 1)) (v1 + (jush v0 1)) dJ6_numberOfTrailingZeros_0f7a4_79 rfl
  · refine go_iincL (pc := 67) C 1 dJ6_numberOfTrailingZeros_0f7a4_67 rfl ki_2 (by decide) (fun x1 => [(1, .int x1), (0, .int v0)]) (fun _ => rfl) (fun x1 => ?_)
    refine go_iload_n (pc := 70) C 1 dJ6_numberOfTrailingZeros_0f7a4_70 rfl ?_
    refine go_iconst (pc := 71) C dJ6_numberOfTrailingZeros_0f7a4_71 ki_2 ?_
    refine go_iushr (pc := 72) C dJ6_numberOfTrailingZeros_0f7a4_72 ?_
    refine go_istore_nL (pc := 73) C dJ6_numberOfTrailingZeros_0f7a4_73 (by decide) (fun x2 => [(0, .int x2), (1, .int x1)]) (fun _ => rfl) (fun x2 => ?_)
    refine go_iload_n (pc := 74) C 1 dJ6_numberOfTrailingZeros_0f7a4_74 rfl ?_
    refine go_iload_n (pc := 75) C 0 dJ6_numberOfTrailingZeros_0f7a4_75 rfl ?_
    refine go_iconst (pc := 76) C dJ6_numberOfTrailingZeros_0f7a4_76 ki_1 ?_
    refine go_iushr (pc := 77) C dJ6_numberOfTrailingZeros_0f7a4_77 ?_
    refine go_iadd (pc := 78) C dJ6_numberOfTrailingZeros_0f7a4_78 ?_
    exact go_iret (w := (wI h)) (pc := 79) C E (x1 + (jush x2 1)) (x1 + (jush x2 1)) dJ6_numberOfTrailingZeros_0f7a4_79 rfl
set_option maxHeartbeats 4000000 in
theorem gJ6_numberOfTrailingZeros_0f7a4_J49 {Y : YT} {X : XT} (C : CT Y X RJ6 cJ6_numberOfTrailingZeros_0f7a4 2) (O : RO X 1 0 0) {h : AH} {r : Int32} (E : RX Y X (some .int) (some (.int r)) h 0 0) : ∀ (v0 : Int32) (v1 : Int32), GO Y X 2 r h 0 0 49 [(0, .int v0), (1, .int v1)] [] (fJ6_numberOfTrailingZeros_0f7a4_J49 h v0 v1) := by
  intro v0 v1
  unfold fJ6_numberOfTrailingZeros_0f7a4_J49
  refine go_iload_n (pc := 49) C 0 dJ6_numberOfTrailingZeros_0f7a4_49 rfl ?_
  refine go_bipush (pc := 50) C dJ6_numberOfTrailingZeros_0f7a4_50 kb_16 ?_
  refine go_icmp_le (pc := 52) C 62 dJ6_numberOfTrailingZeros_0f7a4_52 (by decide) (fun _ => ?_) (fun _ => ?_)
  · refine go_sub (ls' := [(0, .int v0), (1, .int v1)]) [0, 1] rfl ?_
    refine gJ6_numberOfTrailingZeros_0f7a4_J62 C O E v0 v1
  · refine go_iincL (pc := 55) C 1 dJ6_numberOfTrailingZeros_0f7a4_55 rfl ki_4 (by decide) (fun x3 => [(1, .int x3), (0, .int v0)]) (fun _ => rfl) (fun x3 => ?_)
    refine go_iload_n (pc := 58) C 1 dJ6_numberOfTrailingZeros_0f7a4_58 rfl ?_
    refine go_iconst (pc := 59) C dJ6_numberOfTrailingZeros_0f7a4_59 ki_4 ?_
    refine go_iushr (pc := 60) C dJ6_numberOfTrailingZeros_0f7a4_60 ?_
    refine go_istore_nL (pc := 61) C dJ6_numberOfTrailingZeros_0f7a4_61 (by decide) (fun x4 => [(0, .int x4), (1, .int x3)]) (fun _ => rfl) (fun x4 => ?_)
    refine go_sub (ls' := [(0, .int x4), (1, .int x3)]) [0, 1] rfl ?_
    refine gJ6_numberOfTrailingZeros_0f7a4_J62 C O E x4 x3
set_option maxHeartbeats 4000000 in
theorem gJ6_numberOfTrailingZeros_0f7a4_J34 {Y : YT} {X : XT} (C : CT Y X RJ6 cJ6_numberOfTrailingZeros_0f7a4 2) (O : RO X 1 0 0) {h : AH} {r : Int32} (E : RX Y X (some .int) (some (.int r)) h 0 0) : ∀ (v0 : Int32) (v1 : Int32), GO Y X 2 r h 0 0 34 [(0, .int v0), (1, .int v1)] [] (fJ6_numberOfTrailingZeros_0f7a4_J34 h v0 v1) := by
  intro v0 v1
  unfold fJ6_numberOfTrailingZeros_0f7a4_J34
  refine go_iload_n (pc := 34) C 0 dJ6_numberOfTrailingZeros_0f7a4_34 rfl ?_
  refine go_sipush (pc := 35) C dJ6_numberOfTrailingZeros_0f7a4_35 ks_256 ?_
  refine go_icmp_le (pc := 38) C 49 dJ6_numberOfTrailingZeros_0f7a4_38 (by decide) (fun _ => ?_) (fun _ => ?_)
  · refine go_sub (ls' := [(0, .int v0), (1, .int v1)]) [0, 1] rfl ?_
    refine gJ6_numberOfTrailingZeros_0f7a4_J49 C O E v0 v1
  · refine go_iincL (pc := 41) C 1 dJ6_numberOfTrailingZeros_0f7a4_41 rfl ki_8 (by decide) (fun x5 => [(1, .int x5), (0, .int v0)]) (fun _ => rfl) (fun x5 => ?_)
    refine go_iload_n (pc := 44) C 1 dJ6_numberOfTrailingZeros_0f7a4_44 rfl ?_
    refine go_bipush (pc := 45) C dJ6_numberOfTrailingZeros_0f7a4_45 kb_8 ?_
    refine go_iushr (pc := 47) C dJ6_numberOfTrailingZeros_0f7a4_47 ?_
    refine go_istore_nL (pc := 48) C dJ6_numberOfTrailingZeros_0f7a4_48 (by decide) (fun x6 => [(0, .int x6), (1, .int x5)]) (fun _ => rfl) (fun x6 => ?_)
    refine go_sub (ls' := [(0, .int x6), (1, .int x5)]) [0, 1] rfl ?_
    refine gJ6_numberOfTrailingZeros_0f7a4_J49 C O E x6 x5
set_option maxHeartbeats 4000000 in
theorem mJ6_numberOfTrailingZeros_0f7a4 {h : AH} {a0 : Int32} {r : Int32} (hr : fJ6_numberOfTrailingZeros_0f7a4 h a0 = some r) : MC yJ6_numberOfTrailingZeros_0f7a4 cJ6_numberOfTrailingZeros_0f7a4 2 (some .int) 1 0 0 [.int a0] h (some (.int r)) h := by
  unfold fJ6_numberOfTrailingZeros_0f7a4 at hr
  refine mc_of (l0 := [(0, .int a0)]) rfl pn_J6 (Nat.le_of_ble_eq_true rfl) (fun Y X C E O hnm => go_run hr ?_)
  have C : CT Y X RJ6 cJ6_numberOfTrailingZeros_0f7a4 2 := C
  refine go_iload_n (pc := 0) C 0 dJ6_numberOfTrailingZeros_0f7a4_0 rfl ?_
  refine go_iconst (pc := 1) C dJ6_numberOfTrailingZeros_0f7a4_1 ki_m1 ?_
  refine go_ixor (pc := 2) C dJ6_numberOfTrailingZeros_0f7a4_2 ?_
  refine go_iload_n (pc := 3) C 0 dJ6_numberOfTrailingZeros_0f7a4_3 rfl ?_
  refine go_iconst (pc := 4) C dJ6_numberOfTrailingZeros_0f7a4_4 ki_1 ?_
  refine go_isub (pc := 5) C dJ6_numberOfTrailingZeros_0f7a4_5 ?_
  refine go_iand (pc := 6) C dJ6_numberOfTrailingZeros_0f7a4_6 ?_
  refine go_istore_nL (pc := 7) C dJ6_numberOfTrailingZeros_0f7a4_7 (by decide) (fun x7 => [(0, .int x7)]) (fun _ => rfl) (fun x7 => ?_)
  refine go_iload_n (pc := 8) C 0 dJ6_numberOfTrailingZeros_0f7a4_8 rfl ?_
  refine go_if_gt (pc := 9) C 17 dJ6_numberOfTrailingZeros_0f7a4_9 (by decide) (fun _ => ?_) (fun _ => ?_)
  · refine go_iconst (pc := 17) C dJ6_numberOfTrailingZeros_0f7a4_17 ki_1 ?_
    refine go_istore_n (ls' := [(1, .int 1), (0, .int x7)]) (pc := 18) C dJ6_numberOfTrailingZeros_0f7a4_18 (by decide) rfl ?_
    refine go_iload_n (pc := 19) C 1 dJ6_numberOfTrailingZeros_0f7a4_19 rfl ?_
    refine go_ldcw (pc := 20) C w_439 dJ6_numberOfTrailingZeros_0f7a4_20 ?_
    refine go_icmp_le (pc := 23) C 34 dJ6_numberOfTrailingZeros_0f7a4_23 (by decide) (fun _ => ?_) (fun _ => ?_)
    · refine go_sub (ls' := [(0, .int x7), (1, .int 1)]) [1, 0] rfl ?_
      refine gJ6_numberOfTrailingZeros_0f7a4_J34 C O E x7 1
    · refine go_iincL (pc := 26) C 0 dJ6_numberOfTrailingZeros_0f7a4_26 rfl ki_16 (by decide) (fun x8 => [(1, .int x8), (0, .int x7)]) (fun _ => rfl) (fun x8 => ?_)
      refine go_iload_n (pc := 29) C 1 dJ6_numberOfTrailingZeros_0f7a4_29 rfl ?_
      refine go_bipush (pc := 30) C dJ6_numberOfTrailingZeros_0f7a4_30 kb_16 ?_
      refine go_iushr (pc := 32) C dJ6_numberOfTrailingZeros_0f7a4_32 ?_
      refine go_istore_nL (pc := 33) C dJ6_numberOfTrailingZeros_0f7a4_33 (by decide) (fun x9 => [(0, .int x9), (1, .int x8)]) (fun _ => rfl) (fun x9 => ?_)
      refine go_sub (ls' := [(0, .int x9), (1, .int x8)]) [0, 1] rfl ?_
      refine gJ6_numberOfTrailingZeros_0f7a4_J34 C O E x9 x8
  · refine go_iload_n (pc := 12) C 0 dJ6_numberOfTrailingZeros_0f7a4_12 rfl ?_
    refine go_bipush (pc := 13) C dJ6_numberOfTrailingZeros_0f7a4_13 kb_32 ?_
    refine go_iand (pc := 15) C dJ6_numberOfTrailingZeros_0f7a4_15 ?_
    exact go_iret (w := (wI h)) (pc := 16) C E (x7 &&& 32) (x7 &&& 32) dJ6_numberOfTrailingZeros_0f7a4_16 rfl
theorem dJ13_numberOfTrailingZeros_95d88_0 : decode cJ13_numberOfTrailingZeros_95d88 0 = .ok (.lload_n 0, 1) := by decide +kernel
theorem dJ13_numberOfTrailingZeros_95d88_1 : decode cJ13_numberOfTrailingZeros_95d88 1 = .ok (.l2i, 1) := by decide +kernel
theorem dJ13_numberOfTrailingZeros_95d88_2 : decode cJ13_numberOfTrailingZeros_95d88 2 = .ok (.istore_n 2, 1) := by decide +kernel
theorem dJ13_numberOfTrailingZeros_95d88_3 : decode cJ13_numberOfTrailingZeros_95d88 3 = .ok (.iload_n 2, 1) := by decide +kernel
theorem dJ13_numberOfTrailingZeros_95d88_4 : decode cJ13_numberOfTrailingZeros_95d88 4 = .ok (.ifCond .ne 17, 3) := by decide +kernel
theorem dJ13_numberOfTrailingZeros_95d88_7 : decode cJ13_numberOfTrailingZeros_95d88 7 = .ok (.bipush 32, 2) := by decide +kernel
theorem dJ13_numberOfTrailingZeros_95d88_9 : decode cJ13_numberOfTrailingZeros_95d88 9 = .ok (.lload_n 0, 1) := by decide +kernel
theorem dJ13_numberOfTrailingZeros_95d88_10 : decode cJ13_numberOfTrailingZeros_95d88 10 = .ok (.bipush 32, 2) := by decide +kernel
theorem dJ13_numberOfTrailingZeros_95d88_12 : decode cJ13_numberOfTrailingZeros_95d88 12 = .ok (.lushr, 1) := by decide +kernel
theorem dJ13_numberOfTrailingZeros_95d88_13 : decode cJ13_numberOfTrailingZeros_95d88 13 = .ok (.l2i, 1) := by decide +kernel
theorem dJ13_numberOfTrailingZeros_95d88_14 : decode cJ13_numberOfTrailingZeros_95d88 14 = .ok (.invokestatic 311, 3) := by decide +kernel
theorem dJ13_numberOfTrailingZeros_95d88_17 : decode cJ13_numberOfTrailingZeros_95d88 17 = .ok (.iadd, 1) := by decide +kernel
theorem dJ13_numberOfTrailingZeros_95d88_18 : decode cJ13_numberOfTrailingZeros_95d88 18 = .ok (.goto 7, 3) := by decide +kernel
theorem dJ13_numberOfTrailingZeros_95d88_21 : decode cJ13_numberOfTrailingZeros_95d88 21 = .ok (.iload_n 2, 1) := by decide +kernel
theorem dJ13_numberOfTrailingZeros_95d88_22 : decode cJ13_numberOfTrailingZeros_95d88 22 = .ok (.invokestatic 311, 3) := by decide +kernel
theorem dJ13_numberOfTrailingZeros_95d88_25 : decode cJ13_numberOfTrailingZeros_95d88 25 = .ok (.ireturn, 1) := by decide +kernel
def fJ13_numberOfTrailingZeros_95d88 (h : AH) (a0 : Int64) : Option (Int32) :=
  letF (Int64.toInt32 a0 : Int32) fun x1 =>
  if x1 = 0 then (
    (fJ6_numberOfTrailingZeros_0f7a4 h (Int64.toInt32 (jushL a0 32))).bind fun q2 =>
    some (32 + q2)
  ) else (
    (fJ6_numberOfTrailingZeros_0f7a4 h x1).bind fun q3 =>
    some q3
  )
set_option maxHeartbeats 4000000 in
theorem mJ13_numberOfTrailingZeros_95d88 {h : AH} {a0 : Int64} {r : Int32} (hr : fJ13_numberOfTrailingZeros_95d88 h a0 = some r) : MC yJ13_numberOfTrailingZeros_95d88 cJ13_numberOfTrailingZeros_95d88 3 (some .int) 2 0 0 [.long a0] h (some (.int r)) h := by
  unfold fJ13_numberOfTrailingZeros_95d88 at hr
  refine mc_of (l0 := [(0, .long a0)]) rfl pn_J13 (Nat.le_of_ble_eq_true rfl) (fun Y X C E O hnm => go_run hr ?_)
  have C : CT Y X RJ13 cJ13_numberOfTrailingZeros_95d88 3 := C
  refine go_lload_n (pc := 0) C 0 dJ13_numberOfTrailingZeros_95d88_0 rfl ?_
  refine go_l2i (pc := 1) C dJ13_numberOfTrailingZeros_95d88_1 ?_
  refine go_istore_nL (pc := 2) C dJ13_numberOfTrailingZeros_95d88_2 (by decide) (fun x1 => [(2, .int x1), (0, .long a0)]) (fun _ => rfl) (fun x1 => ?_)
  refine go_iload_n (pc := 3) C 0 dJ13_numberOfTrailingZeros_95d88_3 rfl ?_
  refine go_if_ne (pc := 4) C 21 dJ13_numberOfTrailingZeros_95d88_4 (by decide) (fun _ => ?_) (fun _ => ?_)
  · refine go_bipush (pc := 7) C dJ13_numberOfTrailingZeros_95d88_7 kb_32 ?_
    refine go_lload_n (pc := 9) C 1 dJ13_numberOfTrailingZeros_95d88_9 rfl ?_
    refine go_bipush (pc := 10) C dJ13_numberOfTrailingZeros_95d88_10 kb_32 ?_
    refine go_lushr (pc := 12) C dJ13_numberOfTrailingZeros_95d88_12 ?_
    refine go_l2i (pc := 13) C dJ13_numberOfTrailingZeros_95d88_13 ?_
    refine go_bind (fun q2 hq2 => ?_)
    refine go_callS (rest := [.int 32]) (st' := [.int q2, .int 32]) (c' := 0) (s' := 0) (pc := 14) C O miJ13_311 w_437 [.int (Int64.toInt32 (jushL a0 32))] rfl (mJ6_numberOfTrailingZeros_0f7a4 hq2) dJ13_numberOfTrailingZeros_95d88_14 ⟨by decide, by decide, by decide, by decide⟩ rfl (Nat.le_of_ble_eq_true rfl) rfl ⟨rfl, rfl⟩ ?_
    refine go_iadd (pc := 17) C dJ13_numberOfTrailingZeros_95d88_17 ?_
    refine go_goto (pc := 18) C 25 dJ13_numberOfTrailingZeros_95d88_18 (by decide) ?_
    exact go_iret (w := (wI h)) (pc := 25) C E (32 + q2) (32 + q2) dJ13_numberOfTrailingZeros_95d88_25 rfl
  · refine go_iload_n (pc := 21) C 0 dJ13_numberOfTrailingZeros_95d88_21 rfl ?_
    refine go_bind (fun q3 hq3 => ?_)
    refine go_callS (rest := []) (st' := [.int q3]) (c' := 0) (s' := 0) (pc := 22) C O miJ13_311 w_437 [.int x1] rfl (mJ6_numberOfTrailingZeros_0f7a4 hq3) dJ13_numberOfTrailingZeros_95d88_22 ⟨by decide, by decide, by decide, by decide⟩ rfl (Nat.le_of_ble_eq_true rfl) rfl ⟨rfl, rfl⟩ ?_
    exact go_iret (w := (wI h)) (pc := 25) C E q3 q3 dJ13_numberOfTrailingZeros_95d88_25 rfl
theorem dX3_leastWorthNotReached_0 : decode cX3_leastWorthNotReached 0 = .ok (.lconst 0, 1) := by decide +kernel
theorem dX3_leastWorthNotReached_1 : decode cX3_leastWorthNotReached 1 = .ok (.lstore_n 2, 1) := by decide +kernel
theorem dX3_leastWorthNotReached_2 : decode cX3_leastWorthNotReached 2 = .ok (.iconst 1, 1) := by decide +kernel
theorem dX3_leastWorthNotReached_3 : decode cX3_leastWorthNotReached 3 = .ok (.istore 4, 2) := by decide +kernel
theorem dX3_leastWorthNotReached_5 : decode cX3_leastWorthNotReached 5 = .ok (.iload 4, 2) := by decide +kernel
theorem dX3_leastWorthNotReached_7 : decode cX3_leastWorthNotReached 7 = .ok (.iconst 3, 1) := by decide +kernel
theorem dX3_leastWorthNotReached_8 : decode cX3_leastWorthNotReached 8 = .ok (.if_icmp .gt 56, 3) := by decide +kernel
theorem dX3_leastWorthNotReached_11 : decode cX3_leastWorthNotReached 11 = .ok (.iload 4, 2) := by decide +kernel
theorem dX3_leastWorthNotReached_13 : decode cX3_leastWorthNotReached 13 = .ok (.iload_n 1, 1) := by decide +kernel
theorem dX3_leastWorthNotReached_14 : decode cX3_leastWorthNotReached 14 = .ok (.if_icmp .gt 50, 3) := by decide +kernel
theorem dX3_leastWorthNotReached_17 : decode cX3_leastWorthNotReached 17 = .ok (.iconst 0, 1) := by decide +kernel
theorem dX3_leastWorthNotReached_18 : decode cX3_leastWorthNotReached 18 = .ok (.istore 5, 2) := by decide +kernel
theorem dX3_leastWorthNotReached_20 : decode cX3_leastWorthNotReached 20 = .ok (.iload 5, 2) := by decide +kernel
theorem dX3_leastWorthNotReached_22 : decode cX3_leastWorthNotReached 22 = .ok (.iload_n 1, 1) := by decide +kernel
theorem dX3_leastWorthNotReached_23 : decode cX3_leastWorthNotReached 23 = .ok (.iload 4, 2) := by decide +kernel
theorem dX3_leastWorthNotReached_25 : decode cX3_leastWorthNotReached 25 = .ok (.isub, 1) := by decide +kernel
theorem dX3_leastWorthNotReached_26 : decode cX3_leastWorthNotReached 26 = .ok (.if_icmp .gt 32, 3) := by decide +kernel
theorem dX3_leastWorthNotReached_29 : decode cX3_leastWorthNotReached 29 = .ok (.lload_n 2, 1) := by decide +kernel
theorem dX3_leastWorthNotReached_30 : decode cX3_leastWorthNotReached 30 = .ok (.lconst 1, 1) := by decide +kernel
theorem dX3_leastWorthNotReached_31 : decode cX3_leastWorthNotReached 31 = .ok (.aload_n 0, 1) := by decide +kernel
theorem dX3_leastWorthNotReached_32 : decode cX3_leastWorthNotReached 32 = .ok (.iload 5, 2) := by decide +kernel
theorem dX3_leastWorthNotReached_34 : decode cX3_leastWorthNotReached 34 = .ok (.invokevirtual 17, 3) := by decide +kernel
theorem dX3_leastWorthNotReached_37 : decode cX3_leastWorthNotReached 37 = .ok (.aload_n 0, 1) := by decide +kernel
theorem dX3_leastWorthNotReached_38 : decode cX3_leastWorthNotReached 38 = .ok (.iload_n 1, 1) := by decide +kernel
theorem dX3_leastWorthNotReached_39 : decode cX3_leastWorthNotReached 39 = .ok (.iload 4, 2) := by decide +kernel
theorem dX3_leastWorthNotReached_41 : decode cX3_leastWorthNotReached 41 = .ok (.isub, 1) := by decide +kernel
theorem dX3_leastWorthNotReached_42 : decode cX3_leastWorthNotReached 42 = .ok (.iload 5, 2) := by decide +kernel
theorem dX3_leastWorthNotReached_44 : decode cX3_leastWorthNotReached 44 = .ok (.isub, 1) := by decide +kernel
theorem dX3_leastWorthNotReached_45 : decode cX3_leastWorthNotReached 45 = .ok (.invokevirtual 17, 3) := by decide +kernel
theorem dX3_leastWorthNotReached_48 : decode cX3_leastWorthNotReached 48 = .ok (.ixor, 1) := by decide +kernel
theorem dX3_leastWorthNotReached_49 : decode cX3_leastWorthNotReached 49 = .ok (.lshl, 1) := by decide +kernel
theorem dX3_leastWorthNotReached_50 : decode cX3_leastWorthNotReached 50 = .ok (.lor, 1) := by decide +kernel
theorem dX3_leastWorthNotReached_51 : decode cX3_leastWorthNotReached 51 = .ok (.lstore_n 2, 1) := by decide +kernel
theorem dX3_leastWorthNotReached_52 : decode cX3_leastWorthNotReached 52 = .ok (.iinc 5 1, 3) := by decide +kernel
theorem dX3_leastWorthNotReached_55 : decode cX3_leastWorthNotReached 55 = .ok (.goto (-35), 3) := by decide +kernel
theorem dX3_leastWorthNotReached_58 : decode cX3_leastWorthNotReached 58 = .ok (.iinc 4 1, 3) := by decide +kernel
theorem dX3_leastWorthNotReached_61 : decode cX3_leastWorthNotReached 61 = .ok (.goto (-56), 3) := by decide +kernel
theorem dX3_leastWorthNotReached_64 : decode cX3_leastWorthNotReached 64 = .ok (.lload_n 2, 1) := by decide +kernel
theorem dX3_leastWorthNotReached_65 : decode cX3_leastWorthNotReached 65 = .ok (.ldc2_w 20, 3) := by decide +kernel
theorem dX3_leastWorthNotReached_68 : decode cX3_leastWorthNotReached 68 = .ok (.lxor, 1) := by decide +kernel
theorem dX3_leastWorthNotReached_69 : decode cX3_leastWorthNotReached 69 = .ok (.invokestatic 22, 3) := by decide +kernel
theorem dX3_leastWorthNotReached_72 : decode cX3_leastWorthNotReached 72 = .ok (.ireturn, 1) := by decide +kernel
def fX3_leastWorthNotReached_L20 (h : AH) (k58 : Nat → Int32 → Int64 → Int32 → Option (Int32)) : Nat → Nat → Int32 → Int64 → Int32 → Int32 → Option (Int32)
  | 0, _, _, _, _, _ => none
  | n + 1, v0, v1, v2, v4, v5 =>
    if (v1 - v4) < v5 then (
      k58 v0 v1 v2 v4
    ) else (
      (fX3_worthOf h v0 v5).bind fun q1 =>
      (fX3_worthOf h v0 ((v1 - v4) - v5)).bind fun q2 =>
      letF (v2 ||| (jshlL 1 (q1 ^^^ q2)) : Int64) fun x3 =>
      letF (v5 + 1 : Int32) fun x4 =>
      fX3_leastWorthNotReached_L20 h k58 n v0 v1 x3 v4 x4
    )
def fX3_leastWorthNotReached_L5 (h : AH) (k64 : Int64 → Option (Int32)) : Nat → Nat → Int32 → Int64 → Int32 → Option (Int32)
  | 0, _, _, _, _ => none
  | n + 1, v0, v1, v2, v4 =>
    if 3 < v4 then (
      k64 v2
    ) else (
      if v1 < v4 then (
        k64 v2
      ) else (
        fX3_leastWorthNotReached_L20 h
          (fun x5 x6 x7 x8 =>
            letF (x8 + 1 : Int32) fun x9 =>
            fX3_leastWorthNotReached_L5 h k64 n x5 x6 x7 x9)
          FU v0 v1 v2 v4 0
      )
    )
def fX3_leastWorthNotReached_J64 (h : AH) (v2 : Int64) : Option (Int32) :=
    (fJ13_numberOfTrailingZeros_95d88 h (v2 ^^^ ((-1)))).bind fun q10 =>
    some q10
def fX3_leastWorthNotReached (h : AH) (a0 : Nat) (a1 : Int32) : Option (Int32) :=
  if hasC h 3 a0 = true then (
    fX3_leastWorthNotReached_L5 h
      (fun x11 =>
        fX3_leastWorthNotReached_J64 h x11)
      FU a0 a1 0 1
  ) else none
set_option maxHeartbeats 4000000 in
theorem gX3_leastWorthNotReached_L20 {Y : YT} {X : XT} (C : CT Y X RX3 cX3_leastWorthNotReached 6) (O : RO X 3 0 0) {h : AH} {r : Int32} (E : RX Y X (some .int) (some (.int r)) h 0 0) {k58 : Nat → Int32 → Int64 → Int32 → Option (Int32)} (hk58 : ∀ (v0 : Nat) (v1 : Int32) (v2 : Int64) (v4 : Int32), GO Y X 6 r h 0 0 58 [(0, .ref v0), (1, .int v1), (2, .long v2), (4, .int v4)] [] (k58 v0 v1 v2 v4)) : ∀ (n : Nat) (v0 : Nat) (v1 : Int32) (v2 : Int64) (v4 : Int32) (v5 : Int32), GO Y X 6 r h 0 0 20 [(0, .ref v0), (1, .int v1), (2, .long v2), (4, .int v4), (5, .int v5)] [] (fX3_leastWorthNotReached_L20 h k58 n v0 v1 v2 v4 v5) := by
  intro n
  induction n with
  | zero => intros; exact go_none _ _ _
  | succ n ih =>
    intro v0 v1 v2 v4 v5
    rw [fX3_leastWorthNotReached_L20]
    refine go_iload (pc := 20) C 4 dX3_leastWorthNotReached_20 rfl ?_
    refine go_iload_n (pc := 22) C 1 dX3_leastWorthNotReached_22 rfl ?_
    refine go_iload (pc := 23) C 3 dX3_leastWorthNotReached_23 rfl ?_
    refine go_isub (pc := 25) C dX3_leastWorthNotReached_25 ?_
    refine go_icmp_gt (pc := 26) C 58 dX3_leastWorthNotReached_26 (by decide) (fun _ => ?_) (fun _ => ?_)
    · refine go_sub (ls' := [(0, .ref v0), (1, .int v1), (2, .long v2), (4, .int v4)]) [0, 1, 2, 3] rfl ?_
      exact hk58 v0 v1 v2 v4
    · refine go_lload_n (pc := 29) C 2 dX3_leastWorthNotReached_29 rfl ?_
      refine go_lconst (v := 1) (pc := 30) C dX3_leastWorthNotReached_30 (by decide) ?_
      refine go_aload_n (pc := 31) C 0 dX3_leastWorthNotReached_31 rfl ?_
      refine go_iload (pc := 32) C 4 dX3_leastWorthNotReached_32 rfl ?_
      refine go_bind (fun q1 hq1 => ?_)
      refine go_callV (rest := [.long 1, .long v2]) (st' := [.int q1, .long 1, .long v2]) (c' := 0) (s' := 0) (pc := 34) C O miX3_17 mvX3_worthOf [.int v5] rfl (mX3_worthOf hq1).1 (mX3_worthOf hq1).2 dX3_leastWorthNotReached_34 ⟨by decide, by decide, by decide, by decide⟩ rfl (Nat.le_of_ble_eq_true rfl) rfl ⟨rfl, rfl⟩ ?_
      refine go_aload_n (pc := 37) C 0 dX3_leastWorthNotReached_37 rfl ?_
      refine go_iload_n (pc := 38) C 1 dX3_leastWorthNotReached_38 rfl ?_
      refine go_iload (pc := 39) C 3 dX3_leastWorthNotReached_39 rfl ?_
      refine go_isub (pc := 41) C dX3_leastWorthNotReached_41 ?_
      refine go_iload (pc := 42) C 4 dX3_leastWorthNotReached_42 rfl ?_
      refine go_isub (pc := 44) C dX3_leastWorthNotReached_44 ?_
      refine go_bind (fun q2 hq2 => ?_)
      refine go_callV (rest := [.int q1, .long 1, .long v2]) (st' := [.int q2, .int q1, .long 1, .long v2]) (c' := 0) (s' := 0) (pc := 45) C O miX3_17 mvX3_worthOf [.int ((v1 - v4) - v5)] rfl (mX3_worthOf hq2).1 (mX3_worthOf hq2).2 dX3_leastWorthNotReached_45 ⟨by decide, by decide, by decide, by decide⟩ rfl (Nat.le_of_ble_eq_true rfl) rfl ⟨rfl, rfl⟩ ?_
      refine go_ixor (pc := 48) C dX3_leastWorthNotReached_48 ?_
      refine go_lshl (pc := 49) C dX3_leastWorthNotReached_49 ?_
      refine go_lor (pc := 50) C dX3_leastWorthNotReached_50 ?_
      refine go_lstore_nL (pc := 51) C dX3_leastWorthNotReached_51 (by decide) (fun x3 => [(2, .long x3), (0, .ref v0), (1, .int v1), (4, .int v4), (5, .int v5)]) (fun _ => rfl) (fun x3 => ?_)
      refine go_iincL (pc := 52) C 4 dX3_leastWorthNotReached_52 rfl ki_1 (by decide) (fun x4 => [(5, .int x4), (2, .long x3), (0, .ref v0), (1, .int v1), (4, .int v4)]) (fun _ => rfl) (fun x4 => ?_)
      refine go_goto (pc := 55) C 20 dX3_leastWorthNotReached_55 (by decide) ?_
      refine go_sub (ls' := [(0, .ref v0), (1, .int v1), (2, .long x3), (4, .int v4), (5, .int x4)]) [2, 3, 1, 4, 0] rfl ?_
      exact ih v0 v1 x3 v4 x4
set_option maxHeartbeats 4000000 in
theorem gX3_leastWorthNotReached_L5 {Y : YT} {X : XT} (C : CT Y X RX3 cX3_leastWorthNotReached 6) (O : RO X 3 0 0) {h : AH} {r : Int32} (E : RX Y X (some .int) (some (.int r)) h 0 0) {k64 : Int64 → Option (Int32)} (hk64 : ∀ (v2 : Int64), GO Y X 6 r h 0 0 64 [(2, .long v2)] [] (k64 v2)) : ∀ (n : Nat) (v0 : Nat) (v1 : Int32) (v2 : Int64) (v4 : Int32), GO Y X 6 r h 0 0 5 [(0, .ref v0), (1, .int v1), (2, .long v2), (4, .int v4)] [] (fX3_leastWorthNotReached_L5 h k64 n v0 v1 v2 v4) := by
  intro n
  induction n with
  | zero => intros; exact go_none _ _ _
  | succ n ih =>
    intro v0 v1 v2 v4
    rw [fX3_leastWorthNotReached_L5]
    refine go_iload (pc := 5) C 3 dX3_leastWorthNotReached_5 rfl ?_
    refine go_iconst (pc := 7) C dX3_leastWorthNotReached_7 ki_3 ?_
    refine go_icmp_gt (pc := 8) C 64 dX3_leastWorthNotReached_8 (by decide) (fun _ => ?_) (fun _ => ?_)
    · refine go_sub (ls' := [(2, .long v2)]) [2] rfl ?_
      exact hk64 v2
    · refine go_iload (pc := 11) C 3 dX3_leastWorthNotReached_11 rfl ?_
      refine go_iload_n (pc := 13) C 1 dX3_leastWorthNotReached_13 rfl ?_
      refine go_icmp_gt (pc := 14) C 64 dX3_leastWorthNotReached_14 (by decide) (fun _ => ?_) (fun _ => ?_)
      · refine go_sub (ls' := [(2, .long v2)]) [2] rfl ?_
        exact hk64 v2
      · refine go_iconst (pc := 17) C dX3_leastWorthNotReached_17 ki_0 ?_
        refine go_istore (ls' := [(5, .int 0), (0, .ref v0), (1, .int v1), (2, .long v2), (4, .int v4)]) (pc := 18) C dX3_leastWorthNotReached_18 (by decide) rfl ?_
        refine go_sub (ls' := [(0, .ref v0), (1, .int v1), (2, .long v2), (4, .int v4), (5, .int 0)]) [1, 2, 3, 4, 0] rfl ?_
        refine gX3_leastWorthNotReached_L20 C O E (fun x5 x6 x7 x8 => ?_) FU v0 v1 v2 v4 0
        · refine go_iincL (pc := 58) C 3 dX3_leastWorthNotReached_58 rfl ki_1 (by decide) (fun x9 => [(4, .int x9), (0, .ref x5), (1, .int x6), (2, .long x7)]) (fun _ => rfl) (fun x9 => ?_)
          refine go_goto (pc := 61) C 5 dX3_leastWorthNotReached_61 (by decide) ?_
          refine go_sub (ls' := [(0, .ref x5), (1, .int x6), (2, .long x7), (4, .int x9)]) [1, 2, 3, 0] rfl ?_
          exact ih x5 x6 x7 x9
set_option maxHeartbeats 4000000 in
theorem gX3_leastWorthNotReached_J64 {Y : YT} {X : XT} (C : CT Y X RX3 cX3_leastWorthNotReached 6) (O : RO X 3 0 0) {h : AH} {r : Int32} (E : RX Y X (some .int) (some (.int r)) h 0 0) : ∀ (v2 : Int64), GO Y X 6 r h 0 0 64 [(2, .long v2)] [] (fX3_leastWorthNotReached_J64 h v2) := by
  intro v2
  unfold fX3_leastWorthNotReached_J64
  refine go_lload_n (pc := 64) C 0 dX3_leastWorthNotReached_64 rfl ?_
  refine go_ldc2 (pc := 65) C w_1100 dX3_leastWorthNotReached_65 ?_
  refine go_lxor (pc := 68) C dX3_leastWorthNotReached_68 ?_
  refine go_bind (fun q10 hq10 => ?_)
  refine go_callS (rest := []) (st' := [.int q10]) (c' := 0) (s' := 0) (pc := 69) C O miX3_22 w_1102 [.long (v2 ^^^ ((-1)))] rfl (mJ13_numberOfTrailingZeros_95d88 hq10) dX3_leastWorthNotReached_69 ⟨by decide, by decide, by decide, by decide⟩ rfl (Nat.le_of_ble_eq_true rfl) rfl ⟨rfl, rfl⟩ ?_
  exact go_iret (w := (wI h)) (pc := 72) C E q10 q10 dX3_leastWorthNotReached_72 rfl
set_option maxHeartbeats 4000000 in
theorem mX3_leastWorthNotReached {h : AH} {a0 : Nat} {a1 : Int32} {r : Int32} (hr : fX3_leastWorthNotReached h a0 a1 = some r) : hasC h 3 a0 = true ∧ MC yX3_leastWorthNotReached cX3_leastWorthNotReached 6 (some .int) 3 0 0 [.ref a0, .int a1] h (some (.int r)) h := by
  unfold fX3_leastWorthNotReached at hr
  obtain ⟨hc, hr⟩ := if_some hr
  refine ⟨hc, mc_of (l0 := [(0, .ref a0), (1, .int a1)]) rfl pn_X3 (Nat.le_of_ble_eq_true rfl) (fun Y X C E O hnm => go_run hr ?_)⟩
  have C : CT Y X RX3 cX3_leastWorthNotReached 6 := C
  refine go_lconst (v := 0) (pc := 0) C dX3_leastWorthNotReached_0 (by decide) ?_
  refine go_lstore_n (ls' := [(2, .long 0), (0, .ref a0), (1, .int a1)]) (pc := 1) C dX3_leastWorthNotReached_1 (by decide) rfl ?_
  refine go_iconst (pc := 2) C dX3_leastWorthNotReached_2 ki_1 ?_
  refine go_istore (ls' := [(4, .int 1), (2, .long 0), (0, .ref a0), (1, .int a1)]) (pc := 3) C dX3_leastWorthNotReached_3 (by decide) rfl ?_
  refine go_sub (ls' := [(0, .ref a0), (1, .int a1), (2, .long 0), (4, .int 1)]) [2, 3, 1, 0] rfl ?_
  refine gX3_leastWorthNotReached_L5 C O E (fun x11 => ?_) FU a0 a1 0 1
  · refine go_sub (ls' := [(2, .long x11)]) [0] rfl ?_
    refine gX3_leastWorthNotReached_J64 C O E x11
theorem dX3_weigh_0 : decode cX3_weigh 0 = .ok (.iconst 0, 1) := by decide +kernel
theorem dX3_weigh_1 : decode cX3_weigh 1 = .ok (.istore_n 2, 1) := by decide +kernel
theorem dX3_weigh_2 : decode cX3_weigh 2 = .ok (.iload_n 2, 1) := by decide +kernel
theorem dX3_weigh_3 : decode cX3_weigh 3 = .ok (.iload_n 1, 1) := by decide +kernel
theorem dX3_weigh_4 : decode cX3_weigh 4 = .ok (.if_icmp .gt 29, 3) := by decide +kernel
theorem dX3_weigh_7 : decode cX3_weigh 7 = .ok (.iload_n 2, 1) := by decide +kernel
theorem dX3_weigh_8 : decode cX3_weigh 8 = .ok (.aload_n 0, 1) := by decide +kernel
theorem dX3_weigh_9 : decode cX3_weigh 9 = .ok (.getfield 9, 3) := by decide +kernel
theorem dX3_weigh_12 : decode cX3_weigh 12 = .ok (.arraylength, 1) := by decide +kernel
theorem dX3_weigh_13 : decode cX3_weigh 13 = .ok (.if_icmp .ge 20, 3) := by decide +kernel
theorem dX3_weigh_16 : decode cX3_weigh 16 = .ok (.aload_n 0, 1) := by decide +kernel
theorem dX3_weigh_17 : decode cX3_weigh 17 = .ok (.getfield 9, 3) := by decide +kernel
theorem dX3_weigh_20 : decode cX3_weigh 20 = .ok (.iload_n 2, 1) := by decide +kernel
theorem dX3_weigh_21 : decode cX3_weigh 21 = .ok (.aload_n 0, 1) := by decide +kernel
theorem dX3_weigh_22 : decode cX3_weigh 22 = .ok (.iload_n 2, 1) := by decide +kernel
theorem dX3_weigh_23 : decode cX3_weigh 23 = .ok (.invokevirtual 13, 3) := by decide +kernel
theorem dX3_weigh_26 : decode cX3_weigh 26 = .ok (.iastore, 1) := by decide +kernel
theorem dX3_weigh_27 : decode cX3_weigh 27 = .ok (.iinc 2 1, 3) := by decide +kernel
theorem dX3_weigh_30 : decode cX3_weigh 30 = .ok (.goto (-28), 3) := by decide +kernel
theorem dX3_weigh_33 : decode cX3_weigh 33 = .ok (.return_, 1) := by decide +kernel
def fX3_weigh_L2 : Nat → AH → Nat → Int32 → Int32 → Option (AH)
  | 0, _, _, _, _ => none
  | n + 1, h, v0, v1, v2 =>
    if v1 < v2 then (
      some h
    ) else (
      (gR h 3 v0 0).bind fun x1 =>
      (aL h 0 x1).bind fun x2 =>
      if x2 ≤ v2 then (
        some h
      ) else (
        (gR h 3 v0 0).bind fun x3 =>
        (fX3_leastWorthNotReached h v0 v2).bind fun q4 =>
        (sI h 0 x3 v2 q4).bind fun h5 =>
        letF (v2 + 1 : Int32) fun x6 =>
        fX3_weigh_L2 n h5 v0 v1 x6
      )
    )
def fX3_weigh (h : AH) (a0 : Nat) (a1 : Int32) : Option (AH) :=
  if hasC h 3 a0 = true then (
    fX3_weigh_L2 FU h a0 a1 0
  ) else none
set_option maxHeartbeats 4000000 in
theorem gX3_weigh_L2 {Y : YT} {X : XT} (C : CT Y X RX3 cX3_weigh 3) (O : RO X 4 0 0) {r : AH} (E : RX Y X none none r 0 0) : ∀ (n : Nat) (h : AH) (v0 : Nat) (v1 : Int32) (v2 : Int32), GO Y X 3 r h 0 0 2 [(0, .ref v0), (1, .int v1), (2, .int v2)] [] (fX3_weigh_L2 n h v0 v1 v2) := by
  intro n
  induction n with
  | zero => intros; exact go_none _ _ _
  | succ n ih =>
    intro h v0 v1 v2
    rw [fX3_weigh_L2]
    refine go_iload_n (pc := 2) C 2 dX3_weigh_2 rfl ?_
    refine go_iload_n (pc := 3) C 1 dX3_weigh_3 rfl ?_
    refine go_icmp_gt (pc := 4) C 33 dX3_weigh_4 (by decide) (fun _ => ?_) (fun _ => ?_)
    · exact go_vret (w := wV) (pc := 33) C E h dX3_weigh_33 rfl
    · refine go_iload_n (pc := 7) C 2 dX3_weigh_7 rfl ?_
      refine go_aload_n (pc := 8) C 0 dX3_weigh_8 rfl ?_
      refine go_gR (pc := 9) C fdX3_9 dX3_weigh_9 (fun x1 => ?_)
      refine go_alen (pc := 12) C 0 (by decide) dX3_weigh_12 (fun x2 => ?_)
      refine go_icmp_ge (pc := 13) C 33 dX3_weigh_13 (by decide) (fun _ => ?_) (fun _ => ?_)
      · exact go_vret (w := wV) (pc := 33) C E h dX3_weigh_33 rfl
      · refine go_aload_n (pc := 16) C 0 dX3_weigh_16 rfl ?_
        refine go_gR (pc := 17) C fdX3_9 dX3_weigh_17 (fun x3 => ?_)
        refine go_iload_n (pc := 20) C 2 dX3_weigh_20 rfl ?_
        refine go_aload_n (pc := 21) C 0 dX3_weigh_21 rfl ?_
        refine go_iload_n (pc := 22) C 2 dX3_weigh_22 rfl ?_
        refine go_bind (fun q4 hq4 => ?_)
        refine go_callV (rest := [.int v2, .ref x3]) (st' := [.int q4, .int v2, .ref x3]) (c' := 0) (s' := 0) (pc := 23) C O miX3_13 mvX3_leastWorthNotReached [.int v2] rfl (mX3_leastWorthNotReached hq4).1 (mX3_leastWorthNotReached hq4).2 dX3_weigh_23 ⟨by decide, by decide, by decide, by decide⟩ rfl (Nat.le_of_ble_eq_true rfl) rfl ⟨rfl, rfl⟩ ?_
        refine go_iast (pc := 26) C dX3_weigh_26 (fun h5 => ?_)
        refine go_iincL (pc := 27) C 2 dX3_weigh_27 rfl ki_1 (by decide) (fun x6 => [(2, .int x6), (0, .ref v0), (1, .int v1)]) (fun _ => rfl) (fun x6 => ?_)
        refine go_goto (pc := 30) C 2 dX3_weigh_30 (by decide) ?_
        refine go_sub (ls' := [(0, .ref v0), (1, .int v1), (2, .int x6)]) [1, 2, 0] rfl ?_
        exact ih h5 v0 v1 x6
set_option maxHeartbeats 4000000 in
theorem mX3_weigh {h : AH} {a0 : Nat} {a1 : Int32} {r : AH} (hr : fX3_weigh h a0 a1 = some r) : hasC h 3 a0 = true ∧ MC yX3_weigh cX3_weigh 3 none 4 0 0 [.ref a0, .int a1] h none r := by
  unfold fX3_weigh at hr
  obtain ⟨hc, hr⟩ := if_some hr
  refine ⟨hc, mc_of (l0 := [(0, .ref a0), (1, .int a1)]) rfl pn_X3 (Nat.le_of_ble_eq_true rfl) (fun Y X C E O hnm => go_run hr ?_)⟩
  have C : CT Y X RX3 cX3_weigh 3 := C
  refine go_iconst (pc := 0) C dX3_weigh_0 ki_0 ?_
  refine go_istore_n (ls' := [(2, .int 0), (0, .ref a0), (1, .int a1)]) (pc := 1) C dX3_weigh_1 (by decide) rfl ?_
  refine go_sub (ls' := [(0, .ref a0), (1, .int a1), (2, .int 0)]) [1, 2, 0] rfl ?_
  refine gX3_weigh_L2 C O E FU h a0 a1 0
theorem dX3_isLost_0 : decode cX3_isLost 0 = .ok (.aload_n 0, 1) := by decide +kernel
theorem dX3_isLost_1 : decode cX3_isLost 1 = .ok (.iload_n 1, 1) := by decide +kernel
theorem dX3_isLost_2 : decode cX3_isLost 2 = .ok (.invokevirtual 17, 3) := by decide +kernel
theorem dX3_isLost_5 : decode cX3_isLost 5 = .ok (.aload_n 0, 1) := by decide +kernel
theorem dX3_isLost_6 : decode cX3_isLost 6 = .ok (.iload_n 2, 1) := by decide +kernel
theorem dX3_isLost_7 : decode cX3_isLost 7 = .ok (.invokevirtual 17, 3) := by decide +kernel
theorem dX3_isLost_10 : decode cX3_isLost 10 = .ok (.if_icmp .ne 7, 3) := by decide +kernel
theorem dX3_isLost_13 : decode cX3_isLost 13 = .ok (.iconst 1, 1) := by decide +kernel
theorem dX3_isLost_14 : decode cX3_isLost 14 = .ok (.goto 4, 3) := by decide +kernel
theorem dX3_isLost_17 : decode cX3_isLost 17 = .ok (.iconst 0, 1) := by decide +kernel
theorem dX3_isLost_18 : decode cX3_isLost 18 = .ok (.ireturn, 1) := by decide +kernel
def fX3_isLost (h : AH) (a0 : Nat) (a1 : Int32) (a2 : Int32) : Option (Bool) :=
  if hasC h 3 a0 = true then (
    (fX3_worthOf h a0 a1).bind fun q1 =>
    (fX3_worthOf h a0 a2).bind fun q2 =>
    if q1 = q2 then (
      some true
    ) else (
      some false
    )
  ) else none
set_option maxHeartbeats 4000000 in
theorem mX3_isLost {h : AH} {a0 : Nat} {a1 : Int32} {a2 : Int32} {r : Bool} (hr : fX3_isLost h a0 a1 a2 = some r) : hasC h 3 a0 = true ∧ MC yX3_isLost cX3_isLost 3 (some .boolean) 2 0 0 [.ref a0, .int a1, .int a2] h (some (.int (b2i r))) h := by
  unfold fX3_isLost at hr
  obtain ⟨hc, hr⟩ := if_some hr
  refine ⟨hc, mc_of (l0 := [(0, .ref a0), (1, .int a1), (2, .int a2)]) rfl pn_X3 (Nat.le_of_ble_eq_true rfl) (fun Y X C E O hnm => go_run hr ?_)⟩
  have C : CT Y X RX3 cX3_isLost 3 := C
  refine go_aload_n (pc := 0) C 0 dX3_isLost_0 rfl ?_
  refine go_iload_n (pc := 1) C 1 dX3_isLost_1 rfl ?_
  refine go_bind (fun q1 hq1 => ?_)
  refine go_callV (rest := []) (st' := [.int q1]) (c' := 0) (s' := 0) (pc := 2) C O miX3_17 mvX3_worthOf [.int a1] rfl (mX3_worthOf hq1).1 (mX3_worthOf hq1).2 dX3_isLost_2 ⟨by decide, by decide, by decide, by decide⟩ rfl (Nat.le_of_ble_eq_true rfl) rfl ⟨rfl, rfl⟩ ?_
  refine go_aload_n (pc := 5) C 0 dX3_isLost_5 rfl ?_
  refine go_iload_n (pc := 6) C 2 dX3_isLost_6 rfl ?_
  refine go_bind (fun q2 hq2 => ?_)
  refine go_callV (rest := [.int q1]) (st' := [.int q2, .int q1]) (c' := 0) (s' := 0) (pc := 7) C O miX3_17 mvX3_worthOf [.int a2] rfl (mX3_worthOf hq2).1 (mX3_worthOf hq2).2 dX3_isLost_7 ⟨by decide, by decide, by decide, by decide⟩ rfl (Nat.le_of_ble_eq_true rfl) rfl ⟨rfl, rfl⟩ ?_
  refine go_icmp_ne (pc := 10) C 17 dX3_isLost_10 (by decide) (fun _ => ?_) (fun _ => ?_)
  · refine go_iconst (pc := 13) C dX3_isLost_13 ki_1 ?_
    refine go_goto (pc := 14) C 18 dX3_isLost_14 (by decide) ?_
    exact go_bret (w := (wZ h)) (pc := 18) C E true 1 true rfl dX3_isLost_18 rfl
  · refine go_iconst (pc := 17) C dX3_isLost_17 ki_0 ?_
    exact go_bret (w := (wZ h)) (pc := 18) C E false 0 false rfl dX3_isLost_18 rfl
theorem dX4_gain_0 : decode cX4_gain 0 = .ok (.iload_n 1, 1) := by decide +kernel
theorem dX4_gain_1 : decode cX4_gain 1 = .ok (.iload_n 2, 1) := by decide +kernel
theorem dX4_gain_2 : decode cX4_gain 2 = .ok (.if_icmp .ge 7, 3) := by decide +kernel
theorem dX4_gain_5 : decode cX4_gain 5 = .ok (.iload_n 0, 1) := by decide +kernel
theorem dX4_gain_6 : decode cX4_gain 6 = .ok (.iload_n 1, 1) := by decide +kernel
theorem dX4_gain_7 : decode cX4_gain 7 = .ok (.isub, 1) := by decide +kernel
theorem dX4_gain_8 : decode cX4_gain 8 = .ok (.ireturn, 1) := by decide +kernel
theorem dX4_gain_9 : decode cX4_gain 9 = .ok (.iload_n 1, 1) := by decide +kernel
theorem dX4_gain_10 : decode cX4_gain 10 = .ok (.iload_n 2, 1) := by decide +kernel
theorem dX4_gain_11 : decode cX4_gain 11 = .ok (.if_icmp .le 15, 3) := by decide +kernel
theorem dX4_gain_14 : decode cX4_gain 14 = .ok (.iload_n 0, 1) := by decide +kernel
theorem dX4_gain_15 : decode cX4_gain 15 = .ok (.iconst 2, 1) := by decide +kernel
theorem dX4_gain_16 : decode cX4_gain 16 = .ok (.idiv, 1) := by decide +kernel
theorem dX4_gain_17 : decode cX4_gain 17 = .ok (.iconst 2, 1) := by decide +kernel
theorem dX4_gain_18 : decode cX4_gain 18 = .ok (.iload_n 1, 1) := by decide +kernel
theorem dX4_gain_19 : decode cX4_gain 19 = .ok (.iload_n 2, 1) := by decide +kernel
theorem dX4_gain_20 : decode cX4_gain 20 = .ok (.isub, 1) := by decide +kernel
theorem dX4_gain_21 : decode cX4_gain 21 = .ok (.imul, 1) := by decide +kernel
theorem dX4_gain_22 : decode cX4_gain 22 = .ok (.isub, 1) := by decide +kernel
theorem dX4_gain_23 : decode cX4_gain 23 = .ok (.goto 8, 3) := by decide +kernel
theorem dX4_gain_26 : decode cX4_gain 26 = .ok (.iload_n 0, 1) := by decide +kernel
theorem dX4_gain_27 : decode cX4_gain 27 = .ok (.iconst 3, 1) := by decide +kernel
theorem dX4_gain_28 : decode cX4_gain 28 = .ok (.idiv, 1) := by decide +kernel
theorem dX4_gain_29 : decode cX4_gain 29 = .ok (.iload_n 1, 1) := by decide +kernel
theorem dX4_gain_30 : decode cX4_gain 30 = .ok (.isub, 1) := by decide +kernel
theorem dX4_gain_31 : decode cX4_gain 31 = .ok (.ireturn, 1) := by decide +kernel
def fX4_gain (h : AH) (a0 : Int32) (a1 : Int32) (a2 : Int32) : Option (Int32) :=
  if a2 ≤ a1 then (
    if a1 ≤ a2 then (
      (jdiv a0 3).bind fun x1 =>
      some (x1 - a1)
    ) else (
      (jdiv a0 2).bind fun x2 =>
      some (x2 - (2 * (a1 - a2)))
    )
  ) else (
    some (a0 - a1)
  )
set_option maxHeartbeats 4000000 in
theorem mX4_gain {h : AH} {a0 : Int32} {a1 : Int32} {a2 : Int32} {r : Int32} (hr : fX4_gain h a0 a1 a2 = some r) : MC yX4_gain cX4_gain 3 (some .int) 1 0 0 [.int a0, .int a1, .int a2] h (some (.int r)) h := by
  unfold fX4_gain at hr
  refine mc_of (l0 := [(0, .int a0), (1, .int a1), (2, .int a2)]) rfl pn_X4 (Nat.le_of_ble_eq_true rfl) (fun Y X C E O hnm => go_run hr ?_)
  have C : CT Y X RX4 cX4_gain 3 := C
  refine go_iload_n (pc := 0) C 1 dX4_gain_0 rfl ?_
  refine go_iload_n (pc := 1) C 2 dX4_gain_1 rfl ?_
  refine go_icmp_ge (pc := 2) C 9 dX4_gain_2 (by decide) (fun _ => ?_) (fun _ => ?_)
  · refine go_iload_n (pc := 9) C 1 dX4_gain_9 rfl ?_
    refine go_iload_n (pc := 10) C 2 dX4_gain_10 rfl ?_
    refine go_icmp_le (pc := 11) C 26 dX4_gain_11 (by decide) (fun _ => ?_) (fun _ => ?_)
    · refine go_iload_n (pc := 26) C 0 dX4_gain_26 rfl ?_
      refine go_iconst (pc := 27) C dX4_gain_27 ki_3 ?_
      refine go_idiv (pc := 28) C dX4_gain_28 (fun x1 => ?_)
      refine go_iload_n (pc := 29) C 1 dX4_gain_29 rfl ?_
      refine go_isub (pc := 30) C dX4_gain_30 ?_
      exact go_iret (w := (wI h)) (pc := 31) C E (x1 - a1) (x1 - a1) dX4_gain_31 rfl
    · refine go_iload_n (pc := 14) C 0 dX4_gain_14 rfl ?_
      refine go_iconst (pc := 15) C dX4_gain_15 ki_2 ?_
      refine go_idiv (pc := 16) C dX4_gain_16 (fun x2 => ?_)
      refine go_iconst (pc := 17) C dX4_gain_17 ki_2 ?_
      refine go_iload_n (pc := 18) C 1 dX4_gain_18 rfl ?_
      refine go_iload_n (pc := 19) C 2 dX4_gain_19 rfl ?_
      refine go_isub (pc := 20) C dX4_gain_20 ?_
      refine go_imul (pc := 21) C dX4_gain_21 ?_
      refine go_isub (pc := 22) C dX4_gain_22 ?_
      refine go_goto (pc := 23) C 31 dX4_gain_23 (by decide) ?_
      exact go_iret (w := (wI h)) (pc := 31) C E (x2 - (2 * (a1 - a2))) (x2 - (2 * (a1 - a2))) dX4_gain_31 rfl
  · refine go_iload_n (pc := 5) C 0 dX4_gain_5 rfl ?_
    refine go_iload_n (pc := 6) C 1 dX4_gain_6 rfl ?_
    refine go_isub (pc := 7) C dX4_gain_7 ?_
    exact go_iret (w := (wI h)) (pc := 8) C E (a0 - a1) (a0 - a1) dX4_gain_8 rfl
theorem dX4_isBest_0 : decode cX4_isBest 0 = .ok (.iload_n 0, 1) := by decide +kernel
theorem dX4_isBest_1 : decode cX4_isBest 1 = .ok (.iload_n 1, 1) := by decide +kernel
theorem dX4_isBest_2 : decode cX4_isBest 2 = .ok (.iload_n 2, 1) := by decide +kernel
theorem dX4_isBest_3 : decode cX4_isBest 3 = .ok (.invokestatic 7, 3) := by decide +kernel
theorem dX4_isBest_6 : decode cX4_isBest 6 = .ok (.istore_n 3, 1) := by decide +kernel
theorem dX4_isBest_7 : decode cX4_isBest 7 = .ok (.iconst 0, 1) := by decide +kernel
theorem dX4_isBest_8 : decode cX4_isBest 8 = .ok (.istore 4, 2) := by decide +kernel
theorem dX4_isBest_10 : decode cX4_isBest 10 = .ok (.iload 4, 2) := by decide +kernel
theorem dX4_isBest_12 : decode cX4_isBest 12 = .ok (.bipush 9, 2) := by decide +kernel
theorem dX4_isBest_14 : decode cX4_isBest 14 = .ok (.if_icmp .gt 22, 3) := by decide +kernel
theorem dX4_isBest_17 : decode cX4_isBest 17 = .ok (.iload_n 0, 1) := by decide +kernel
theorem dX4_isBest_18 : decode cX4_isBest 18 = .ok (.iload 4, 2) := by decide +kernel
theorem dX4_isBest_20 : decode cX4_isBest 20 = .ok (.iload_n 2, 1) := by decide +kernel
theorem dX4_isBest_21 : decode cX4_isBest 21 = .ok (.invokestatic 7, 3) := by decide +kernel
theorem dX4_isBest_24 : decode cX4_isBest 24 = .ok (.iload_n 3, 1) := by decide +kernel
theorem dX4_isBest_25 : decode cX4_isBest 25 = .ok (.if_icmp .le 5, 3) := by decide +kernel
theorem dX4_isBest_28 : decode cX4_isBest 28 = .ok (.iconst 0, 1) := by decide +kernel
theorem dX4_isBest_29 : decode cX4_isBest 29 = .ok (.ireturn, 1) := by decide +kernel
theorem dX4_isBest_30 : decode cX4_isBest 30 = .ok (.iinc 4 1, 3) := by decide +kernel
theorem dX4_isBest_33 : decode cX4_isBest 33 = .ok (.goto (-23), 3) := by decide +kernel
theorem dX4_isBest_36 : decode cX4_isBest 36 = .ok (.iconst 1, 1) := by decide +kernel
theorem dX4_isBest_37 : decode cX4_isBest 37 = .ok (.ireturn, 1) := by decide +kernel
def fX4_isBest_L10 (h : AH) : Nat → Int32 → Int32 → Int32 → Int32 → Option (Bool)
  | 0, _, _, _, _ => none
  | n + 1, v0, v2, v3, v4 =>
    if 9 < v4 then (
      some true
    ) else (
      (fX4_gain h v0 v4 v2).bind fun q1 =>
      if q1 ≤ v3 then (
        letF (v4 + 1 : Int32) fun x2 =>
        fX4_isBest_L10 h n v0 v2 v3 x2
      ) else (
        some false
      )
    )
def fX4_isBest (h : AH) (a0 : Int32) (a1 : Int32) (a2 : Int32) : Option (Bool) :=
  (fX4_gain h a0 a1 a2).bind fun q3 =>
  fX4_isBest_L10 h FU a0 a2 q3 0
set_option maxHeartbeats 4000000 in
theorem gX4_isBest_L10 {Y : YT} {X : XT} (C : CT Y X RX4 cX4_isBest 5) (O : RO X 2 0 0) {h : AH} {r : Bool} (E : RX Y X (some .boolean) (some (.int (b2i r))) h 0 0) : ∀ (n : Nat) (v0 : Int32) (v2 : Int32) (v3 : Int32) (v4 : Int32), GO Y X 5 r h 0 0 10 [(0, .int v0), (2, .int v2), (3, .int v3), (4, .int v4)] [] (fX4_isBest_L10 h n v0 v2 v3 v4) := by
  intro n
  induction n with
  | zero => intros; exact go_none _ _ _
  | succ n ih =>
    intro v0 v2 v3 v4
    rw [fX4_isBest_L10]
    refine go_iload (pc := 10) C 3 dX4_isBest_10 rfl ?_
    refine go_bipush (pc := 12) C dX4_isBest_12 kb_9 ?_
    refine go_icmp_gt (pc := 14) C 36 dX4_isBest_14 (by decide) (fun _ => ?_) (fun _ => ?_)
    · refine go_iconst (pc := 36) C dX4_isBest_36 ki_1 ?_
      exact go_bret (w := (wZ h)) (pc := 37) C E true 1 true rfl dX4_isBest_37 rfl
    · refine go_iload_n (pc := 17) C 0 dX4_isBest_17 rfl ?_
      refine go_iload (pc := 18) C 3 dX4_isBest_18 rfl ?_
      refine go_iload_n (pc := 20) C 1 dX4_isBest_20 rfl ?_
      refine go_bind (fun q1 hq1 => ?_)
      refine go_callS (rest := []) (st' := [.int q1]) (c' := 0) (s' := 0) (pc := 21) C O miX4_7 w_1117 [.int v0, .int v4, .int v2] rfl (mX4_gain hq1) dX4_isBest_21 ⟨by decide, by decide, by decide, by decide⟩ rfl (Nat.le_of_ble_eq_true rfl) rfl ⟨rfl, rfl⟩ ?_
      refine go_iload_n (pc := 24) C 2 dX4_isBest_24 rfl ?_
      refine go_icmp_le (pc := 25) C 30 dX4_isBest_25 (by decide) (fun _ => ?_) (fun _ => ?_)
      · refine go_iincL (pc := 30) C 3 dX4_isBest_30 rfl ki_1 (by decide) (fun x2 => [(4, .int x2), (0, .int v0), (2, .int v2), (3, .int v3)]) (fun _ => rfl) (fun x2 => ?_)
        refine go_goto (pc := 33) C 10 dX4_isBest_33 (by decide) ?_
        refine go_sub (ls' := [(0, .int v0), (2, .int v2), (3, .int v3), (4, .int x2)]) [1, 2, 3, 0] rfl ?_
        exact ih v0 v2 v3 x2
      · refine go_iconst (pc := 28) C dX4_isBest_28 ki_0 ?_
        exact go_bret (w := (wZ h)) (pc := 29) C E false 0 false rfl dX4_isBest_29 rfl
set_option maxHeartbeats 4000000 in
theorem mX4_isBest {h : AH} {a0 : Int32} {a1 : Int32} {a2 : Int32} {r : Bool} (hr : fX4_isBest h a0 a1 a2 = some r) : MC yX4_isBest cX4_isBest 5 (some .boolean) 2 0 0 [.int a0, .int a1, .int a2] h (some (.int (b2i r))) h := by
  unfold fX4_isBest at hr
  refine mc_of (l0 := [(0, .int a0), (1, .int a1), (2, .int a2)]) rfl pn_X4 (Nat.le_of_ble_eq_true rfl) (fun Y X C E O hnm => go_run hr ?_)
  have C : CT Y X RX4 cX4_isBest 5 := C
  refine go_iload_n (pc := 0) C 0 dX4_isBest_0 rfl ?_
  refine go_iload_n (pc := 1) C 1 dX4_isBest_1 rfl ?_
  refine go_iload_n (pc := 2) C 2 dX4_isBest_2 rfl ?_
  refine go_bind (fun q3 hq3 => ?_)
  refine go_callS (rest := []) (st' := [.int q3]) (c' := 0) (s' := 0) (pc := 3) C O miX4_7 w_1117 [.int a0, .int a1, .int a2] rfl (mX4_gain hq3) dX4_isBest_3 ⟨by decide, by decide, by decide, by decide⟩ rfl (Nat.le_of_ble_eq_true rfl) rfl ⟨rfl, rfl⟩ ?_
  refine go_istore_n (ls' := [(3, .int q3), (0, .int a0), (1, .int a1), (2, .int a2)]) (pc := 6) C dX4_isBest_6 (by decide) rfl ?_
  refine go_iconst (pc := 7) C dX4_isBest_7 ki_0 ?_
  refine go_istore (ls' := [(4, .int 0), (3, .int q3), (0, .int a0), (1, .int a1), (2, .int a2)]) (pc := 8) C dX4_isBest_8 (by decide) rfl ?_
  refine go_sub (ls' := [(0, .int a0), (2, .int a2), (3, .int q3), (4, .int 0)]) [2, 4, 1, 0] rfl ?_
  refine gX4_isBest_L10 C O E FU a0 a2 q3 0
theorem dX5_init_0 : decode cX5_init 0 = .ok (.aload_n 0, 1) := by decide +kernel
theorem dX5_init_1 : decode cX5_init 1 = .ok (.invokespecial 3, 3) := by decide +kernel
theorem dX5_init_4 : decode cX5_init 4 = .ok (.aload_n 0, 1) := by decide +kernel
theorem dX5_init_5 : decode cX5_init 5 = .ok (.bipush 24, 2) := by decide +kernel
theorem dX5_init_7 : decode cX5_init 7 = .ok (.newarray .long, 2) := by decide +kernel
theorem dX5_init_9 : decode cX5_init 9 = .ok (.putfield 9, 3) := by decide +kernel
theorem dX5_init_12 : decode cX5_init 12 = .ok (.return_, 1) := by decide +kernel
def fX5_init (h : AH) (a0 : Nat) : Option (AH) :=
  letF (hnew h (.inl (1, newD 1 24))) fun h1 =>
  (pF h1 5 a0 0 (.ref h.2)).bind fun h2 =>
  some h2
set_option maxHeartbeats 4000000 in
theorem mX5_init {h : AH} {a0 : Nat} {r : AH} (hr : fX5_init h a0 = some r) : MC yX5_init cX5_init 1 none 1 1 24 [.ref a0] h none r := by
  unfold fX5_init at hr
  refine mc_of (l0 := [(0, .ref a0)]) rfl pn_X5 (Nat.le_of_ble_eq_true rfl) (fun Y X C E O hnm => go_run hr ?_)
  have C : CT Y X RX5 cX5_init 1 := C
  refine go_aload_n (pc := 0) C 0 dX5_init_0 rfl ?_
  refine go_objInit (pc := 1) C O w_245 w_120 w_121 dX5_init_1 (by decide) (Nat.le_of_ble_eq_true rfl) ?_
  refine go_aload_n (pc := 4) C 0 dX5_init_4 rfl ?_
  refine go_bipush (pc := 5) C dX5_init_5 kb_24 ?_
  refine go_newa (atype := .long) (t := 1) (c' := 1) (s' := 24) (pc := 7) 24 C O ⟨rfl, by decide⟩ w_253 (by decide) (by decide) (by decide) dX5_init_7 ⟨by decide, by decide⟩ ⟨rfl, rfl⟩ (fun h1 => ?_)
  refine go_pRF (pc := 9) C hnm fpX5_9 dX5_init_9 (fun _ => rfl) (fun _ => rfl) (fun h2 => ?_)
  exact go_vret (w := wV) (pc := 12) C E h2 dX5_init_12 rfl
