/-! walks, by program: X11_here X11_fine X11_fault X11_passes X11_need X11_oneOf X11_number X11_wasRight X11_valueOf X11_comes X11_lay X11_remember X11_spaces X11_letterOf X11_held X11_readRule X11_rule X11_ruleOf X11_space X11_told24 -/
theorem dX11_here_0 : decode cX11_here 0 = .ok (.aload_n 0, 1) := by decide +kernel
theorem dX11_here_1 : decode cX11_here 1 = .ok (.getfield 135, 3) := by decide +kernel
theorem dX11_here_4 : decode cX11_here 4 = .ok (.aload_n 0, 1) := by decide +kernel
theorem dX11_here_5 : decode cX11_here 5 = .ok (.getfield 129, 3) := by decide +kernel
theorem dX11_here_8 : decode cX11_here 8 = .ok (.if_icmp .ge 30, 3) := by decide +kernel
theorem dX11_here_11 : decode cX11_here 11 = .ok (.aload_n 0, 1) := by decide +kernel
theorem dX11_here_12 : decode cX11_here 12 = .ok (.getfield 135, 3) := by decide +kernel
theorem dX11_here_15 : decode cX11_here 15 = .ok (.aload_n 0, 1) := by decide +kernel
theorem dX11_here_16 : decode cX11_here 16 = .ok (.getfield 132, 3) := by decide +kernel
theorem dX11_here_19 : decode cX11_here 19 = .ok (.if_icmp .ge 19, 3) := by decide +kernel
theorem dX11_here_22 : decode cX11_here 22 = .ok (.aload_n 0, 1) := by decide +kernel
theorem dX11_here_23 : decode cX11_here 23 = .ok (.getfield 126, 3) := by decide +kernel
theorem dX11_here_26 : decode cX11_here 26 = .ok (.aload_n 0, 1) := by decide +kernel
theorem dX11_here_27 : decode cX11_here 27 = .ok (.getfield 135, 3) := by decide +kernel
theorem dX11_here_30 : decode cX11_here 30 = .ok (.baload, 1) := by decide +kernel
theorem dX11_here_31 : decode cX11_here 31 = .ok (.sipush 255, 3) := by decide +kernel
theorem dX11_here_34 : decode cX11_here 34 = .ok (.iand, 1) := by decide +kernel
theorem dX11_here_35 : decode cX11_here 35 = .ok (.goto 4, 3) := by decide +kernel
theorem dX11_here_38 : decode cX11_here 38 = .ok (.iconst (-1), 1) := by decide +kernel
theorem dX11_here_39 : decode cX11_here 39 = .ok (.ireturn, 1) := by decide +kernel
def fX11_here (h : AH) (a0 : Nat) : Option (Int32) :=
  if hasC h 11 a0 = true then (
    (gI h 11 a0 9).bind fun x1 =>
    (gI h 11 a0 7).bind fun x2 =>
    if x2 ≤ x1 then (
      some ((-1))
    ) else (
      (gI h 11 a0 9).bind fun x3 =>
      (gI h 11 a0 8).bind fun x4 =>
      if x4 ≤ x3 then (
        some ((-1))
      ) else (
        (gR h 11 a0 6).bind fun x5 =>
        (gI h 11 a0 9).bind fun x6 =>
        (aI h 3 x5 x6).bind fun x7 =>
        some (x7 &&& 255)
      )
    )
  ) else none
set_option maxHeartbeats 4000000 in
theorem mX11_here {h : AH} {a0 : Nat} {r : Int32} (hr : fX11_here h a0 = some r) : hasC h 11 a0 = true ∧ MC yX11_here cX11_here 1 (some .int) 1 0 0 [.ref a0] h (some (.int r)) h := by
  unfold fX11_here at hr
  obtain ⟨hc, hr⟩ := if_some hr
  refine ⟨hc, mc_of (l0 := [(0, .ref a0)]) rfl pn_X11 (Nat.le_of_ble_eq_true rfl) (fun Y X C E O hnm => go_run hr ?_)⟩
  have C : CT Y X RX11 cX11_here 1 := C
  refine go_aload_n (pc := 0) C 0 dX11_here_0 rfl ?_
  refine go_gI (pc := 1) C fdX11_135 dX11_here_1 (fun x1 => ?_)
  refine go_aload_n (pc := 4) C 0 dX11_here_4 rfl ?_
  refine go_gI (pc := 5) C fdX11_129 dX11_here_5 (fun x2 => ?_)
  refine go_icmp_ge (pc := 8) C 38 dX11_here_8 (by decide) (fun _ => ?_) (fun _ => ?_)
  · refine go_iconst (pc := 38) C dX11_here_38 ki_m1 ?_
    exact go_iret (w := (wI h)) (pc := 39) C E ((-1)) ((-1)) dX11_here_39 rfl
  · refine go_aload_n (pc := 11) C 0 dX11_here_11 rfl ?_
    refine go_gI (pc := 12) C fdX11_135 dX11_here_12 (fun x3 => ?_)
    refine go_aload_n (pc := 15) C 0 dX11_here_15 rfl ?_
    refine go_gI (pc := 16) C fdX11_132 dX11_here_16 (fun x4 => ?_)
    refine go_icmp_ge (pc := 19) C 38 dX11_here_19 (by decide) (fun _ => ?_) (fun _ => ?_)
    · refine go_iconst (pc := 38) C dX11_here_38 ki_m1 ?_
      exact go_iret (w := (wI h)) (pc := 39) C E ((-1)) ((-1)) dX11_here_39 rfl
    · refine go_aload_n (pc := 22) C 0 dX11_here_22 rfl ?_
      refine go_gR (pc := 23) C fdX11_126 dX11_here_23 (fun x5 => ?_)
      refine go_aload_n (pc := 26) C 0 dX11_here_26 rfl ?_
      refine go_gI (pc := 27) C fdX11_135 dX11_here_27 (fun x6 => ?_)
      refine go_bald (pc := 30) C dX11_here_30 (fun x7 => ?_)
      refine go_sipush (pc := 31) C dX11_here_31 ks_255 ?_
      refine go_iand (pc := 34) C dX11_here_34 ?_
      refine go_goto (pc := 35) C 39 dX11_here_35 (by decide) ?_
      exact go_iret (w := (wI h)) (pc := 39) C E (x7 &&& 255) (x7 &&& 255) dX11_here_39 rfl
theorem dX11_fine_0 : decode cX11_fine 0 = .ok (.aload_n 0, 1) := by decide +kernel
theorem dX11_fine_1 : decode cX11_fine 1 = .ok (.getfield 138, 3) := by decide +kernel
theorem dX11_fine_4 : decode cX11_fine 4 = .ok (.iconst (-1), 1) := by decide +kernel
theorem dX11_fine_5 : decode cX11_fine 5 = .ok (.if_icmp .ne 7, 3) := by decide +kernel
theorem dX11_fine_8 : decode cX11_fine 8 = .ok (.iconst 1, 1) := by decide +kernel
theorem dX11_fine_9 : decode cX11_fine 9 = .ok (.goto 4, 3) := by decide +kernel
theorem dX11_fine_12 : decode cX11_fine 12 = .ok (.iconst 0, 1) := by decide +kernel
theorem dX11_fine_13 : decode cX11_fine 13 = .ok (.ireturn, 1) := by decide +kernel
def fX11_fine (h : AH) (a0 : Nat) : Option (Bool) :=
  if hasC h 11 a0 = true then (
    (gI h 11 a0 10).bind fun x1 =>
    if x1 = ((-1)) then (
      some true
    ) else (
      some false
    )
  ) else none
set_option maxHeartbeats 4000000 in
theorem mX11_fine {h : AH} {a0 : Nat} {r : Bool} (hr : fX11_fine h a0 = some r) : hasC h 11 a0 = true ∧ MC yX11_fine cX11_fine 1 (some .boolean) 1 0 0 [.ref a0] h (some (.int (b2i r))) h := by
  unfold fX11_fine at hr
  obtain ⟨hc, hr⟩ := if_some hr
  refine ⟨hc, mc_of (l0 := [(0, .ref a0)]) rfl pn_X11 (Nat.le_of_ble_eq_true rfl) (fun Y X C E O hnm => go_run hr ?_)⟩
  have C : CT Y X RX11 cX11_fine 1 := C
  refine go_aload_n (pc := 0) C 0 dX11_fine_0 rfl ?_
  refine go_gI (pc := 1) C fdX11_138 dX11_fine_1 (fun x1 => ?_)
  refine go_iconst (pc := 4) C dX11_fine_4 ki_m1 ?_
  refine go_icmp_ne (pc := 5) C 12 dX11_fine_5 (by decide) (fun _ => ?_) (fun _ => ?_)
  · refine go_iconst (pc := 8) C dX11_fine_8 ki_1 ?_
    refine go_goto (pc := 9) C 13 dX11_fine_9 (by decide) ?_
    exact go_bret (w := (wZ h)) (pc := 13) C E true 1 true rfl dX11_fine_13 rfl
  · refine go_iconst (pc := 12) C dX11_fine_12 ki_0 ?_
    exact go_bret (w := (wZ h)) (pc := 13) C E false 0 false rfl dX11_fine_13 rfl
theorem dX11_fault_0 : decode cX11_fault 0 = .ok (.aload_n 0, 1) := by decide +kernel
theorem dX11_fault_1 : decode cX11_fault 1 = .ok (.invokevirtual 145, 3) := by decide +kernel
theorem dX11_fault_4 : decode cX11_fault 4 = .ok (.ifCond .eq 8, 3) := by decide +kernel
theorem dX11_fault_7 : decode cX11_fault 7 = .ok (.aload_n 0, 1) := by decide +kernel
theorem dX11_fault_8 : decode cX11_fault 8 = .ok (.iload_n 1, 1) := by decide +kernel
theorem dX11_fault_9 : decode cX11_fault 9 = .ok (.putfield 138, 3) := by decide +kernel
theorem dX11_fault_12 : decode cX11_fault 12 = .ok (.return_, 1) := by decide +kernel
def fX11_fault (h : AH) (a0 : Nat) (a1 : Int32) : Option (AH) :=
  if hasC h 11 a0 = true then (
    (fX11_fine h a0).bind fun q1 =>
    if q1 = true then (
      (pF h 11 a0 10 (.int a1)).bind fun h2 =>
      some h2
    ) else (
      some h
    )
  ) else none
set_option maxHeartbeats 4000000 in
theorem mX11_fault {h : AH} {a0 : Nat} {a1 : Int32} {r : AH} (hr : fX11_fault h a0 a1 = some r) : hasC h 11 a0 = true ∧ MC yX11_fault cX11_fault 2 none 2 0 0 [.ref a0, .int a1] h none r := by
  unfold fX11_fault at hr
  obtain ⟨hc, hr⟩ := if_some hr
  refine ⟨hc, mc_of (l0 := [(0, .ref a0), (1, .int a1)]) rfl pn_X11 (Nat.le_of_ble_eq_true rfl) (fun Y X C E O hnm => go_run hr ?_)⟩
  have C : CT Y X RX11 cX11_fault 2 := C
  refine go_aload_n (pc := 0) C 0 dX11_fault_0 rfl ?_
  refine go_bind (fun q1 hq1 => ?_)
  refine go_callV (rest := []) (st' := [.int (b2i q1)]) (c' := 0) (s' := 0) (pc := 1) C O miX11_145 mvX11_fine [] rfl (mX11_fine hq1).1 (mX11_fine hq1).2 dX11_fault_1 ⟨by decide, by decide, by decide, by decide⟩ rfl (Nat.le_of_ble_eq_true rfl) rfl ⟨rfl, rfl⟩ ?_
  refine go_ifZ_eq (pc := 4) C 12 dX11_fault_4 (by decide) (fun _ => ?_) (fun _ => ?_)
  · refine go_aload_n (pc := 7) C 0 dX11_fault_7 rfl ?_
    refine go_iload_n (pc := 8) C 1 dX11_fault_8 rfl ?_
    refine go_pI (pc := 9) C fpX11_138 dX11_fault_9 (fun h2 => ?_)
    exact go_vret (w := wV) (pc := 12) C E h2 dX11_fault_12 rfl
  · exact go_vret (w := wV) (pc := 12) C E h dX11_fault_12 rfl
theorem dX11_passes_0 : decode cX11_passes 0 = .ok (.aload_n 0, 1) := by decide +kernel
theorem dX11_passes_1 : decode cX11_passes 1 = .ok (.invokevirtual 145, 3) := by decide +kernel
theorem dX11_passes_4 : decode cX11_passes 4 = .ok (.ifCond .eq 11, 3) := by decide +kernel
theorem dX11_passes_7 : decode cX11_passes 7 = .ok (.aload_n 0, 1) := by decide +kernel
theorem dX11_passes_8 : decode cX11_passes 8 = .ok (.invokevirtual 149, 3) := by decide +kernel
theorem dX11_passes_11 : decode cX11_passes 11 = .ok (.iload_n 1, 1) := by decide +kernel
theorem dX11_passes_12 : decode cX11_passes 12 = .ok (.if_icmp .eq 5, 3) := by decide +kernel
theorem dX11_passes_15 : decode cX11_passes 15 = .ok (.iconst 0, 1) := by decide +kernel
theorem dX11_passes_16 : decode cX11_passes 16 = .ok (.ireturn, 1) := by decide +kernel
theorem dX11_passes_17 : decode cX11_passes 17 = .ok (.aload_n 0, 1) := by decide +kernel
theorem dX11_passes_18 : decode cX11_passes 18 = .ok (.dup, 1) := by decide +kernel
theorem dX11_passes_19 : decode cX11_passes 19 = .ok (.getfield 135, 3) := by decide +kernel
theorem dX11_passes_22 : decode cX11_passes 22 = .ok (.iconst 1, 1) := by decide +kernel
theorem dX11_passes_23 : decode cX11_passes 23 = .ok (.iadd, 1) := by decide +kernel
theorem dX11_passes_24 : decode cX11_passes 24 = .ok (.putfield 135, 3) := by decide +kernel
theorem dX11_passes_27 : decode cX11_passes 27 = .ok (.iconst 1, 1) := by decide +kernel
theorem dX11_passes_28 : decode cX11_passes 28 = .ok (.ireturn, 1) := by decide +kernel
def fX11_passes (h : AH) (a0 : Nat) (a1 : Int32) : Option (Bool × AH) :=
  if hasC h 11 a0 = true then (
    (fX11_fine h a0).bind fun q1 =>
    if q1 = true then (
      (fX11_here h a0).bind fun q2 =>
      if q2 = a1 then (
        (gI h 11 a0 9).bind fun x3 =>
        (pF h 11 a0 9 (.int (x3 + 1))).bind fun h4 =>
        some ((true, h4))
      ) else (
        some ((false, h))
      )
    ) else (
      some ((false, h))
    )
  ) else none
set_option maxHeartbeats 4000000 in
theorem mX11_passes {h : AH} {a0 : Nat} {a1 : Int32} {r : Bool × AH} (hr : fX11_passes h a0 a1 = some r) : hasC h 11 a0 = true ∧ MC yX11_passes cX11_passes 2 (some .boolean) 2 0 0 [.ref a0, .int a1] h (some (.int (b2i r.1))) r.2 := by
  unfold fX11_passes at hr
  obtain ⟨hc, hr⟩ := if_some hr
  refine ⟨hc, mc_of (l0 := [(0, .ref a0), (1, .int a1)]) rfl pn_X11 (Nat.le_of_ble_eq_true rfl) (fun Y X C E O hnm => go_run hr ?_)⟩
  have C : CT Y X RX11 cX11_passes 2 := C
  refine go_aload_n (pc := 0) C 0 dX11_passes_0 rfl ?_
  refine go_bind (fun q1 hq1 => ?_)
  refine go_callV (rest := []) (st' := [.int (b2i q1)]) (c' := 0) (s' := 0) (pc := 1) C O miX11_145 mvX11_fine [] rfl (mX11_fine hq1).1 (mX11_fine hq1).2 dX11_passes_1 ⟨by decide, by decide, by decide, by decide⟩ rfl (Nat.le_of_ble_eq_true rfl) rfl ⟨rfl, rfl⟩ ?_
  refine go_ifZ_eq (pc := 4) C 15 dX11_passes_4 (by decide) (fun _ => ?_) (fun _ => ?_)
  · refine go_aload_n (pc := 7) C 0 dX11_passes_7 rfl ?_
    refine go_bind (fun q2 hq2 => ?_)
    refine go_callV (rest := []) (st' := [.int q2]) (c' := 0) (s' := 0) (pc := 8) C O miX11_149 mvX11_here [] rfl (mX11_here hq2).1 (mX11_here hq2).2 dX11_passes_8 ⟨by decide, by decide, by decide, by decide⟩ rfl (Nat.le_of_ble_eq_true rfl) rfl ⟨rfl, rfl⟩ ?_
    refine go_iload_n (pc := 11) C 1 dX11_passes_11 rfl ?_
    refine go_icmp_eq (pc := 12) C 17 dX11_passes_12 (by decide) (fun _ => ?_) (fun _ => ?_)
    · refine go_aload_n (pc := 17) C 0 dX11_passes_17 rfl ?_
      refine go_dup (pc := 18) C dX11_passes_18 rfl ?_
      refine go_gI (pc := 19) C fdX11_135 dX11_passes_19 (fun x3 => ?_)
      refine go_iconst (pc := 22) C dX11_passes_22 ki_1 ?_
      refine go_iadd (pc := 23) C dX11_passes_23 ?_
      refine go_pI (pc := 24) C fpX11_135 dX11_passes_24 (fun h4 => ?_)
      refine go_iconst (pc := 27) C dX11_passes_27 ki_1 ?_
      exact go_bret (w := wZh) (pc := 28) C E ((true, h4)) 1 true rfl dX11_passes_28 rfl
    · refine go_iconst (pc := 15) C dX11_passes_15 ki_0 ?_
      exact go_bret (w := wZh) (pc := 16) C E ((false, h)) 0 false rfl dX11_passes_16 rfl
  · refine go_iconst (pc := 15) C dX11_passes_15 ki_0 ?_
    exact go_bret (w := wZh) (pc := 16) C E ((false, h)) 0 false rfl dX11_passes_16 rfl
theorem dX11_need_0 : decode cX11_need 0 = .ok (.aload_n 0, 1) := by decide +kernel
theorem dX11_need_1 : decode cX11_need 1 = .ok (.iload_n 1, 1) := by decide +kernel
theorem dX11_need_2 : decode cX11_need 2 = .ok (.invokevirtual 153, 3) := by decide +kernel
theorem dX11_need_5 : decode cX11_need 5 = .ok (.ifCond .ne 11, 3) := by decide +kernel
theorem dX11_need_8 : decode cX11_need 8 = .ok (.aload_n 0, 1) := by decide +kernel
theorem dX11_need_9 : decode cX11_need 9 = .ok (.aload_n 0, 1) := by decide +kernel
theorem dX11_need_10 : decode cX11_need 10 = .ok (.getfield 135, 3) := by decide +kernel
theorem dX11_need_13 : decode cX11_need 13 = .ok (.invokevirtual 157, 3) := by decide +kernel
theorem dX11_need_16 : decode cX11_need 16 = .ok (.return_, 1) := by decide +kernel
def fX11_need (h : AH) (a0 : Nat) (a1 : Int32) : Option (AH) :=
  if hasC h 11 a0 = true then (
    (fX11_passes h a0 a1).bind fun q1 =>
    if q1.1 = true then (
      some q1.2
    ) else (
      (gI q1.2 11 a0 9).bind fun x2 =>
      (fX11_fault q1.2 a0 x2).bind fun q3 =>
      some q3
    )
  ) else none
set_option maxHeartbeats 4000000 in
theorem mX11_need {h : AH} {a0 : Nat} {a1 : Int32} {r : AH} (hr : fX11_need h a0 a1 = some r) : hasC h 11 a0 = true ∧ MC yX11_need cX11_need 2 none 3 0 0 [.ref a0, .int a1] h none r := by
  unfold fX11_need at hr
  obtain ⟨hc, hr⟩ := if_some hr
  refine ⟨hc, mc_of (l0 := [(0, .ref a0), (1, .int a1)]) rfl pn_X11 (Nat.le_of_ble_eq_true rfl) (fun Y X C E O hnm => go_run hr ?_)⟩
  have C : CT Y X RX11 cX11_need 2 := C
  refine go_aload_n (pc := 0) C 0 dX11_need_0 rfl ?_
  refine go_iload_n (pc := 1) C 1 dX11_need_1 rfl ?_
  refine go_bind (fun q1 hq1 => ?_)
  refine go_callV (rest := []) (st' := [.int (b2i q1.1)]) (c' := 0) (s' := 0) (pc := 2) C O miX11_153 mvX11_passes [.int a1] rfl (mX11_passes hq1).1 (mX11_passes hq1).2 dX11_need_2 ⟨by decide, by decide, by decide, by decide⟩ rfl (Nat.le_of_ble_eq_true rfl) rfl ⟨rfl, rfl⟩ ?_
  refine go_ifZ_ne (pc := 5) C 16 dX11_need_5 (by decide) (fun _ => ?_) (fun _ => ?_)
  · exact go_vret (w := wV) (pc := 16) C E q1.2 dX11_need_16 rfl
  · refine go_aload_n (pc := 8) C 0 dX11_need_8 rfl ?_
    refine go_aload_n (pc := 9) C 0 dX11_need_9 rfl ?_
    refine go_gI (pc := 10) C fdX11_135 dX11_need_10 (fun x2 => ?_)
    refine go_bind (fun q3 hq3 => ?_)
    refine go_callV (rest := []) (st' := []) (c' := 0) (s' := 0) (pc := 13) C O miX11_157 mvX11_fault [.int x2] rfl (mX11_fault hq3).1 (mX11_fault hq3).2 dX11_need_13 ⟨by decide, by decide, by decide, by decide⟩ rfl (Nat.le_of_ble_eq_true rfl) rfl ⟨rfl, rfl⟩ ?_
    exact go_vret (w := wV) (pc := 16) C E q3 dX11_need_16 rfl
theorem dX11_oneOf_0 : decode cX11_oneOf 0 = .ok (.aload_n 0, 1) := by decide +kernel
theorem dX11_oneOf_1 : decode cX11_oneOf 1 = .ok (.invokevirtual 145, 3) := by decide +kernel
theorem dX11_oneOf_4 : decode cX11_oneOf 4 = .ok (.ifCond .ne 5, 3) := by decide +kernel
theorem dX11_oneOf_7 : decode cX11_oneOf 7 = .ok (.iconst 0, 1) := by decide +kernel
theorem dX11_oneOf_8 : decode cX11_oneOf 8 = .ok (.ireturn, 1) := by decide +kernel
theorem dX11_oneOf_9 : decode cX11_oneOf 9 = .ok (.aload_n 0, 1) := by decide +kernel
theorem dX11_oneOf_10 : decode cX11_oneOf 10 = .ok (.invokevirtual 149, 3) := by decide +kernel
theorem dX11_oneOf_13 : decode cX11_oneOf 13 = .ok (.iload_n 1, 1) := by decide +kernel
theorem dX11_oneOf_14 : decode cX11_oneOf 14 = .ok (.iload_n 1, 1) := by decide +kernel
theorem dX11_oneOf_15 : decode cX11_oneOf 15 = .ok (.iload_n 2, 1) := by decide +kernel
theorem dX11_oneOf_16 : decode cX11_oneOf 16 = .ok (.iadd, 1) := by decide +kernel
theorem dX11_oneOf_17 : decode cX11_oneOf 17 = .ok (.iconst 1, 1) := by decide +kernel
theorem dX11_oneOf_18 : decode cX11_oneOf 18 = .ok (.isub, 1) := by decide +kernel
theorem dX11_oneOf_19 : decode cX11_oneOf 19 = .ok (.invokestatic 84, 3) := by decide +kernel
theorem dX11_oneOf_22 : decode cX11_oneOf 22 = .ok (.ifCond .ne 13, 3) := by decide +kernel
theorem dX11_oneOf_25 : decode cX11_oneOf 25 = .ok (.aload_n 0, 1) := by decide +kernel
theorem dX11_oneOf_26 : decode cX11_oneOf 26 = .ok (.aload_n 0, 1) := by decide +kernel
theorem dX11_oneOf_27 : decode cX11_oneOf 27 = .ok (.getfield 135, 3) := by decide +kernel
theorem dX11_oneOf_30 : decode cX11_oneOf 30 = .ok (.invokevirtual 157, 3) := by decide +kernel
theorem dX11_oneOf_33 : decode cX11_oneOf 33 = .ok (.iconst 0, 1) := by decide +kernel
theorem dX11_oneOf_34 : decode cX11_oneOf 34 = .ok (.ireturn, 1) := by decide +kernel
theorem dX11_oneOf_35 : decode cX11_oneOf 35 = .ok (.aload_n 0, 1) := by decide +kernel
theorem dX11_oneOf_36 : decode cX11_oneOf 36 = .ok (.dup, 1) := by decide +kernel
theorem dX11_oneOf_37 : decode cX11_oneOf 37 = .ok (.getfield 135, 3) := by decide +kernel
theorem dX11_oneOf_40 : decode cX11_oneOf 40 = .ok (.iconst 1, 1) := by decide +kernel
theorem dX11_oneOf_41 : decode cX11_oneOf 41 = .ok (.iadd, 1) := by decide +kernel
theorem dX11_oneOf_42 : decode cX11_oneOf 42 = .ok (.putfield 135, 3) := by decide +kernel
theorem dX11_oneOf_45 : decode cX11_oneOf 45 = .ok (.aload_n 0, 1) := by decide +kernel
theorem dX11_oneOf_46 : decode cX11_oneOf 46 = .ok (.getfield 126, 3) := by decide +kernel
theorem dX11_oneOf_49 : decode cX11_oneOf 49 = .ok (.aload_n 0, 1) := by decide +kernel
theorem dX11_oneOf_50 : decode cX11_oneOf 50 = .ok (.getfield 135, 3) := by decide +kernel
theorem dX11_oneOf_53 : decode cX11_oneOf 53 = .ok (.iconst 1, 1) := by decide +kernel
theorem dX11_oneOf_54 : decode cX11_oneOf 54 = .ok (.isub, 1) := by decide +kernel
theorem dX11_oneOf_55 : decode cX11_oneOf 55 = .ok (.baload, 1) := by decide +kernel
theorem dX11_oneOf_56 : decode cX11_oneOf 56 = .ok (.iload_n 1, 1) := by decide +kernel
theorem dX11_oneOf_57 : decode cX11_oneOf 57 = .ok (.isub, 1) := by decide +kernel
theorem dX11_oneOf_58 : decode cX11_oneOf 58 = .ok (.ireturn, 1) := by decide +kernel
def fX11_oneOf (h : AH) (a0 : Nat) (a1 : Int32) (a2 : Int32) : Option (Int32 × AH) :=
  if hasC h 11 a0 = true then (
    (fX11_fine h a0).bind fun q1 =>
    if q1 = true then (
      (fX11_here h a0).bind fun q2 =>
      (fX11_in h q2 a1 ((a1 + a2) - 1)).bind fun q3 =>
      if q3 = true then (
        (gI h 11 a0 9).bind fun x4 =>
        (pF h 11 a0 9 (.int (x4 + 1))).bind fun h5 =>
        (gR h5 11 a0 6).bind fun x6 =>
        (gI h5 11 a0 9).bind fun x7 =>
        (aI h5 3 x6 (x7 - 1)).bind fun x8 =>
        some ((x8 - a1, h5))
      ) else (
        (gI h 11 a0 9).bind fun x9 =>
        (fX11_fault h a0 x9).bind fun q10 =>
        some ((0, q10))
      )
    ) else (
      some ((0, h))
    )
  ) else none
set_option maxHeartbeats 4000000 in
theorem mX11_oneOf {h : AH} {a0 : Nat} {a1 : Int32} {a2 : Int32} {r : Int32 × AH} (hr : fX11_oneOf h a0 a1 a2 = some r) : hasC h 11 a0 = true ∧ MC yX11_oneOf cX11_oneOf 3 (some .int) 3 0 0 [.ref a0, .int a1, .int a2] h (some (.int r.1)) r.2 := by
  unfold fX11_oneOf at hr
  obtain ⟨hc, hr⟩ := if_some hr
  refine ⟨hc, mc_of (l0 := [(0, .ref a0), (1, .int a1), (2, .int a2)]) rfl pn_X11 (Nat.le_of_ble_eq_true rfl) (fun Y X C E O hnm => go_run hr ?_)⟩
  have C : CT Y X RX11 cX11_oneOf 3 := C
  refine go_aload_n (pc := 0) C 0 dX11_oneOf_0 rfl ?_
  refine go_bind (fun q1 hq1 => ?_)
  refine go_callV (rest := []) (st' := [.int (b2i q1)]) (c' := 0) (s' := 0) (pc := 1) C O miX11_145 mvX11_fine [] rfl (mX11_fine hq1).1 (mX11_fine hq1).2 dX11_oneOf_1 ⟨by decide, by decide, by decide, by decide⟩ rfl (Nat.le_of_ble_eq_true rfl) rfl ⟨rfl, rfl⟩ ?_
  refine go_ifZ_ne (pc := 4) C 9 dX11_oneOf_4 (by decide) (fun _ => ?_) (fun _ => ?_)
  · refine go_aload_n (pc := 9) C 0 dX11_oneOf_9 rfl ?_
    refine go_bind (fun q2 hq2 => ?_)
    refine go_callV (rest := []) (st' := [.int q2]) (c' := 0) (s' := 0) (pc := 10) C O miX11_149 mvX11_here [] rfl (mX11_here hq2).1 (mX11_here hq2).2 dX11_oneOf_10 ⟨by decide, by decide, by decide, by decide⟩ rfl (Nat.le_of_ble_eq_true rfl) rfl ⟨rfl, rfl⟩ ?_
    refine go_iload_n (pc := 13) C 1 dX11_oneOf_13 rfl ?_
    refine go_iload_n (pc := 14) C 1 dX11_oneOf_14 rfl ?_
    refine go_iload_n (pc := 15) C 2 dX11_oneOf_15 rfl ?_
    refine go_iadd (pc := 16) C dX11_oneOf_16 ?_
    refine go_iconst (pc := 17) C dX11_oneOf_17 ki_1 ?_
    refine go_isub (pc := 18) C dX11_oneOf_18 ?_
    refine go_bind (fun q3 hq3 => ?_)
    refine go_callS (rest := []) (st' := [.int (b2i q3)]) (c' := 0) (s' := 0) (pc := 19) C O miX11_84 w_1437 [.int q2, .int a1, .int ((a1 + a2) - 1)] rfl (mX11_in hq3) dX11_oneOf_19 ⟨by decide, by decide, by decide, by decide⟩ rfl (Nat.le_of_ble_eq_true rfl) rfl ⟨rfl, rfl⟩ ?_
    refine go_ifZ_ne (pc := 22) C 35 dX11_oneOf_22 (by decide) (fun _ => ?_) (fun _ => ?_)
    · refine go_aload_n (pc := 35) C 0 dX11_oneOf_35 rfl ?_
      refine go_dup (pc := 36) C dX11_oneOf_36 rfl ?_
      refine go_gI (pc := 37) C fdX11_135 dX11_oneOf_37 (fun x4 => ?_)
      refine go_iconst (pc := 40) C dX11_oneOf_40 ki_1 ?_
      refine go_iadd (pc := 41) C dX11_oneOf_41 ?_
      refine go_pI (pc := 42) C fpX11_135 dX11_oneOf_42 (fun h5 => ?_)
      refine go_aload_n (pc := 45) C 0 dX11_oneOf_45 rfl ?_
      refine go_gR (pc := 46) C fdX11_126 dX11_oneOf_46 (fun x6 => ?_)
      refine go_aload_n (pc := 49) C 0 dX11_oneOf_49 rfl ?_
      refine go_gI (pc := 50) C fdX11_135 dX11_oneOf_50 (fun x7 => ?_)
      refine go_iconst (pc := 53) C dX11_oneOf_53 ki_1 ?_
      refine go_isub (pc := 54) C dX11_oneOf_54 ?_
      refine go_bald (pc := 55) C dX11_oneOf_55 (fun x8 => ?_)
      refine go_iload_n (pc := 56) C 1 dX11_oneOf_56 rfl ?_
      refine go_isub (pc := 57) C dX11_oneOf_57 ?_
      exact go_iret (w := wIh) (pc := 58) C E ((x8 - a1, h5)) (x8 - a1) dX11_oneOf_58 rfl
    · refine go_aload_n (pc := 25) C 0 dX11_oneOf_25 rfl ?_
      refine go_aload_n (pc := 26) C 0 dX11_oneOf_26 rfl ?_
      refine go_gI (pc := 27) C fdX11_135 dX11_oneOf_27 (fun x9 => ?_)
      refine go_bind (fun q10 hq10 => ?_)
      refine go_callV (rest := []) (st' := []) (c' := 0) (s' := 0) (pc := 30) C O miX11_157 mvX11_fault [.int x9] rfl (mX11_fault hq10).1 (mX11_fault hq10).2 dX11_oneOf_30 ⟨by decide, by decide, by decide, by decide⟩ rfl (Nat.le_of_ble_eq_true rfl) rfl ⟨rfl, rfl⟩ ?_
      refine go_iconst (pc := 33) C dX11_oneOf_33 ki_0 ?_
      exact go_iret (w := wIh) (pc := 34) C E ((0, q10)) 0 dX11_oneOf_34 rfl
  · refine go_iconst (pc := 7) C dX11_oneOf_7 ki_0 ?_
    exact go_iret (w := wIh) (pc := 8) C E ((0, h)) 0 dX11_oneOf_8 rfl
theorem dX11_number_0 : decode cX11_number 0 = .ok (.aload_n 0, 1) := by decide +kernel
theorem dX11_number_1 : decode cX11_number 1 = .ok (.bipush 48, 2) := by decide +kernel
theorem dX11_number_3 : decode cX11_number 3 = .ok (.bipush 10, 2) := by decide +kernel
theorem dX11_number_5 : decode cX11_number 5 = .ok (.invokevirtual 161, 3) := by decide +kernel
theorem dX11_number_8 : decode cX11_number 8 = .ok (.istore_n 2, 1) := by decide +kernel
theorem dX11_number_9 : decode cX11_number 9 = .ok (.iconst 1, 1) := by decide +kernel
theorem dX11_number_10 : decode cX11_number 10 = .ok (.istore_n 3, 1) := by decide +kernel
theorem dX11_number_11 : decode cX11_number 11 = .ok (.iload_n 3, 1) := by decide +kernel
theorem dX11_number_12 : decode cX11_number 12 = .ok (.iload_n 1, 1) := by decide +kernel
theorem dX11_number_13 : decode cX11_number 13 = .ok (.if_icmp .ge 44, 3) := by decide +kernel
theorem dX11_number_16 : decode cX11_number 16 = .ok (.aload_n 0, 1) := by decide +kernel
theorem dX11_number_17 : decode cX11_number 17 = .ok (.invokevirtual 145, 3) := by decide +kernel
theorem dX11_number_20 : decode cX11_number 20 = .ok (.ifCond .eq 37, 3) := by decide +kernel
theorem dX11_number_23 : decode cX11_number 23 = .ok (.aload_n 0, 1) := by decide +kernel
theorem dX11_number_24 : decode cX11_number 24 = .ok (.invokevirtual 149, 3) := by decide +kernel
theorem dX11_number_27 : decode cX11_number 27 = .ok (.bipush 48, 2) := by decide +kernel
theorem dX11_number_29 : decode cX11_number 29 = .ok (.bipush 57, 2) := by decide +kernel
theorem dX11_number_31 : decode cX11_number 31 = .ok (.invokestatic 84, 3) := by decide +kernel
theorem dX11_number_34 : decode cX11_number 34 = .ok (.ifCond .eq 23, 3) := by decide +kernel
theorem dX11_number_37 : decode cX11_number 37 = .ok (.bipush 10, 2) := by decide +kernel
theorem dX11_number_39 : decode cX11_number 39 = .ok (.iload_n 2, 1) := by decide +kernel
theorem dX11_number_40 : decode cX11_number 40 = .ok (.imul, 1) := by decide +kernel
theorem dX11_number_41 : decode cX11_number 41 = .ok (.aload_n 0, 1) := by decide +kernel
theorem dX11_number_42 : decode cX11_number 42 = .ok (.bipush 48, 2) := by decide +kernel
theorem dX11_number_44 : decode cX11_number 44 = .ok (.bipush 10, 2) := by decide +kernel
theorem dX11_number_46 : decode cX11_number 46 = .ok (.invokevirtual 161, 3) := by decide +kernel
theorem dX11_number_49 : decode cX11_number 49 = .ok (.iadd, 1) := by decide +kernel
theorem dX11_number_50 : decode cX11_number 50 = .ok (.istore_n 2, 1) := by decide +kernel
theorem dX11_number_51 : decode cX11_number 51 = .ok (.iinc 3 1, 3) := by decide +kernel
theorem dX11_number_54 : decode cX11_number 54 = .ok (.goto (-43), 3) := by decide +kernel
theorem dX11_number_57 : decode cX11_number 57 = .ok (.iload_n 2, 1) := by decide +kernel
theorem dX11_number_58 : decode cX11_number 58 = .ok (.ireturn, 1) := by decide +kernel
def fX11_number_L11 : Nat → AH → Nat → Int32 → Int32 → Int32 → Option (Int32 × AH)
  | 0, _, _, _, _, _ => none
  | n + 1, h, v0, v1, v2, v3 =>
    if v1 ≤ v3 then (
      some ((v2, h))
    ) else (
      (fX11_fine h v0).bind fun q1 =>
      if q1 = true then (
        (fX11_here h v0).bind fun q2 =>
        (fX11_in h q2 48 57).bind fun q3 =>
        if q3 = true then (
          (fX11_oneOf h v0 48 10).bind fun q4 =>
          letF ((10 * v2) + q4.1 : Int32) fun x5 =>
          letF (v3 + 1 : Int32) fun x6 =>
          fX11_number_L11 n q4.2 v0 v1 x5 x6
        ) else (
          some ((v2, h))
        )
      ) else (
        some ((v2, h))
      )
    )
def fX11_number (h : AH) (a0 : Nat) (a1 : Int32) : Option (Int32 × AH) :=
  if hasC h 11 a0 = true then (
    (fX11_oneOf h a0 48 10).bind fun q7 =>
    fX11_number_L11 FU q7.2 a0 a1 q7.1 1
  ) else none
set_option maxHeartbeats 4000000 in
theorem gX11_number_L11 {Y : YT} {X : XT} (C : CT Y X RX11 cX11_number 4) (O : RO X 4 0 0) {r : Int32 × AH} (E : RX Y X (some .int) (some (.int r.1)) r.2 0 0) : ∀ (n : Nat) (h : AH) (v0 : Nat) (v1 : Int32) (v2 : Int32) (v3 : Int32), GO Y X 4 r h 0 0 11 [(0, .ref v0), (1, .int v1), (2, .int v2), (3, .int v3)] [] (fX11_number_L11 n h v0 v1 v2 v3) := by
  intro n
  induction n with
  | zero => intros; exact go_none _ _ _
  | succ n ih =>
    intro h v0 v1 v2 v3
    rw [fX11_number_L11]
    refine go_iload_n (pc := 11) C 3 dX11_number_11 rfl ?_
    refine go_iload_n (pc := 12) C 1 dX11_number_12 rfl ?_
    refine go_icmp_ge (pc := 13) C 57 dX11_number_13 (by decide) (fun _ => ?_) (fun _ => ?_)
    · refine go_iload_n (pc := 57) C 2 dX11_number_57 rfl ?_
      exact go_iret (w := wIh) (pc := 58) C E ((v2, h)) v2 dX11_number_58 rfl
    · refine go_aload_n (pc := 16) C 0 dX11_number_16 rfl ?_
      refine go_bind (fun q1 hq1 => ?_)
      refine go_callV (rest := []) (st' := [.int (b2i q1)]) (c' := 0) (s' := 0) (pc := 17) C O miX11_145 mvX11_fine [] rfl (mX11_fine hq1).1 (mX11_fine hq1).2 dX11_number_17 ⟨by decide, by decide, by decide, by decide⟩ rfl (Nat.le_of_ble_eq_true rfl) rfl ⟨rfl, rfl⟩ ?_
      refine go_ifZ_eq (pc := 20) C 57 dX11_number_20 (by decide) (fun _ => ?_) (fun _ => ?_)
      · refine go_aload_n (pc := 23) C 0 dX11_number_23 rfl ?_
        refine go_bind (fun q2 hq2 => ?_)
        refine go_callV (rest := []) (st' := [.int q2]) (c' := 0) (s' := 0) (pc := 24) C O miX11_149 mvX11_here [] rfl (mX11_here hq2).1 (mX11_here hq2).2 dX11_number_24 ⟨by decide, by decide, by decide, by decide⟩ rfl (Nat.le_of_ble_eq_true rfl) rfl ⟨rfl, rfl⟩ ?_
        refine go_bipush (pc := 27) C dX11_number_27 kb_48 ?_
        refine go_bipush (pc := 29) C dX11_number_29 kb_57 ?_
        refine go_bind (fun q3 hq3 => ?_)
        refine go_callS (rest := []) (st' := [.int (b2i q3)]) (c' := 0) (s' := 0) (pc := 31) C O miX11_84 w_1437 [.int q2, .int 48, .int 57] rfl (mX11_in hq3) dX11_number_31 ⟨by decide, by decide, by decide, by decide⟩ rfl (Nat.le_of_ble_eq_true rfl) rfl ⟨rfl, rfl⟩ ?_
        refine go_ifZ_eq (pc := 34) C 57 dX11_number_34 (by decide) (fun _ => ?_) (fun _ => ?_)
        · refine go_bipush (pc := 37) C dX11_number_37 kb_10 ?_
          refine go_iload_n (pc := 39) C 2 dX11_number_39 rfl ?_
          refine go_imul (pc := 40) C dX11_number_40 ?_
          refine go_aload_n (pc := 41) C 0 dX11_number_41 rfl ?_
          refine go_bipush (pc := 42) C dX11_number_42 kb_48 ?_
          refine go_bipush (pc := 44) C dX11_number_44 kb_10 ?_
          refine go_bind (fun q4 hq4 => ?_)
          refine go_callV (rest := [.int (10 * v2)]) (st' := [.int q4.1, .int (10 * v2)]) (c' := 0) (s' := 0) (pc := 46) C O miX11_161 mvX11_oneOf [.int 48, .int 10] rfl (mX11_oneOf hq4).1 (mX11_oneOf hq4).2 dX11_number_46 ⟨by decide, by decide, by decide, by decide⟩ rfl (Nat.le_of_ble_eq_true rfl) rfl ⟨rfl, rfl⟩ ?_
          refine go_iadd (pc := 49) C dX11_number_49 ?_
          refine go_istore_nL (pc := 50) C dX11_number_50 (by decide) (fun x5 => [(2, .int x5), (0, .ref v0), (1, .int v1), (3, .int v3)]) (fun _ => rfl) (fun x5 => ?_)
          refine go_iincL (pc := 51) C 3 dX11_number_51 rfl ki_1 (by decide) (fun x6 => [(3, .int x6), (2, .int x5), (0, .ref v0), (1, .int v1)]) (fun _ => rfl) (fun x6 => ?_)
          refine go_goto (pc := 54) C 11 dX11_number_54 (by decide) ?_
          refine go_sub (ls' := [(0, .ref v0), (1, .int v1), (2, .int x5), (3, .int x6)]) [2, 3, 1, 0] rfl ?_
          exact ih q4.2 v0 v1 x5 x6
        · refine go_iload_n (pc := 57) C 2 dX11_number_57 rfl ?_
          exact go_iret (w := wIh) (pc := 58) C E ((v2, h)) v2 dX11_number_58 rfl
      · refine go_iload_n (pc := 57) C 2 dX11_number_57 rfl ?_
        exact go_iret (w := wIh) (pc := 58) C E ((v2, h)) v2 dX11_number_58 rfl
set_option maxHeartbeats 4000000 in
theorem mX11_number {h : AH} {a0 : Nat} {a1 : Int32} {r : Int32 × AH} (hr : fX11_number h a0 a1 = some r) : hasC h 11 a0 = true ∧ MC yX11_number cX11_number 4 (some .int) 4 0 0 [.ref a0, .int a1] h (some (.int r.1)) r.2 := by
  unfold fX11_number at hr
  obtain ⟨hc, hr⟩ := if_some hr
  refine ⟨hc, mc_of (l0 := [(0, .ref a0), (1, .int a1)]) rfl pn_X11 (Nat.le_of_ble_eq_true rfl) (fun Y X C E O hnm => go_run hr ?_)⟩
  have C : CT Y X RX11 cX11_number 4 := C
  refine go_aload_n (pc := 0) C 0 dX11_number_0 rfl ?_
  refine go_bipush (pc := 1) C dX11_number_1 kb_48 ?_
  refine go_bipush (pc := 3) C dX11_number_3 kb_10 ?_
  refine go_bind (fun q7 hq7 => ?_)
  refine go_callV (rest := []) (st' := [.int q7.1]) (c' := 0) (s' := 0) (pc := 5) C O miX11_161 mvX11_oneOf [.int 48, .int 10] rfl (mX11_oneOf hq7).1 (mX11_oneOf hq7).2 dX11_number_5 ⟨by decide, by decide, by decide, by decide⟩ rfl (Nat.le_of_ble_eq_true rfl) rfl ⟨rfl, rfl⟩ ?_
  refine go_istore_n (ls' := [(2, .int q7.1), (0, .ref a0), (1, .int a1)]) (pc := 8) C dX11_number_8 (by decide) rfl ?_
  refine go_iconst (pc := 9) C dX11_number_9 ki_1 ?_
  refine go_istore_n (ls' := [(3, .int 1), (2, .int q7.1), (0, .ref a0), (1, .int a1)]) (pc := 10) C dX11_number_10 (by decide) rfl ?_
  refine go_sub (ls' := [(0, .ref a0), (1, .int a1), (2, .int q7.1), (3, .int 1)]) [2, 3, 1, 0] rfl ?_
  refine gX11_number_L11 C O E FU q7.2 a0 a1 q7.1 1
theorem dX11_wasRight_0 : decode cX11_wasRight 0 = .ok (.aload_n 0, 1) := by decide +kernel
theorem dX11_wasRight_1 : decode cX11_wasRight 1 = .ok (.getfield 135, 3) := by decide +kernel
theorem dX11_wasRight_4 : decode cX11_wasRight 4 = .ok (.aload_n 0, 1) := by decide +kernel
theorem dX11_wasRight_5 : decode cX11_wasRight 5 = .ok (.getfield 129, 3) := by decide +kernel
theorem dX11_wasRight_8 : decode cX11_wasRight 8 = .ok (.if_icmp .ge 11, 3) := by decide +kernel
theorem dX11_wasRight_11 : decode cX11_wasRight 11 = .ok (.aload_n 0, 1) := by decide +kernel
theorem dX11_wasRight_12 : decode cX11_wasRight 12 = .ok (.aload_n 0, 1) := by decide +kernel
theorem dX11_wasRight_13 : decode cX11_wasRight 13 = .ok (.getfield 135, 3) := by decide +kernel
theorem dX11_wasRight_16 : decode cX11_wasRight 16 = .ok (.invokevirtual 157, 3) := by decide +kernel
theorem dX11_wasRight_19 : decode cX11_wasRight 19 = .ok (.aload_n 0, 1) := by decide +kernel
theorem dX11_wasRight_20 : decode cX11_wasRight 20 = .ok (.invokevirtual 145, 3) := by decide +kernel
theorem dX11_wasRight_23 : decode cX11_wasRight 23 = .ok (.ireturn, 1) := by decide +kernel
def fX11_wasRight_J19 (h : AH) (v0 : Nat) : Option (Bool × AH) :=
    (fX11_fine h v0).bind fun q1 =>
    some ((q1, h))
def fX11_wasRight (h : AH) (a0 : Nat) : Option (Bool × AH) :=
  if hasC h 11 a0 = true then (
    (gI h 11 a0 9).bind fun x2 =>
    (gI h 11 a0 7).bind fun x3 =>
    if x3 ≤ x2 then (
      fX11_wasRight_J19 h a0
    ) else (
      (gI h 11 a0 9).bind fun x4 =>
      (fX11_fault h a0 x4).bind fun q5 =>
      fX11_wasRight_J19 q5 a0
    )
  ) else none
set_option maxHeartbeats 4000000 in
theorem gX11_wasRight_J19 {Y : YT} {X : XT} (C : CT Y X RX11 cX11_wasRight 1) (O : RO X 3 0 0) {r : Bool × AH} (E : RX Y X (some .boolean) (some (.int (b2i r.1))) r.2 0 0) : ∀ (h : AH) (v0 : Nat), GO Y X 1 r h 0 0 19 [(0, .ref v0)] [] (fX11_wasRight_J19 h v0) := by
  intro h v0
  unfold fX11_wasRight_J19
  refine go_aload_n (pc := 19) C 0 dX11_wasRight_19 rfl ?_
  refine go_bind (fun q1 hq1 => ?_)
  refine go_callV (rest := []) (st' := [.int (b2i q1)]) (c' := 0) (s' := 0) (pc := 20) C O miX11_145 mvX11_fine [] rfl (mX11_fine hq1).1 (mX11_fine hq1).2 dX11_wasRight_20 ⟨by decide, by decide, by decide, by decide⟩ rfl (Nat.le_of_ble_eq_true rfl) rfl ⟨rfl, rfl⟩ ?_
  exact go_bret (w := wZh) (pc := 23) C E ((q1, h)) (b2i q1) q1 rfl dX11_wasRight_23 rfl
set_option maxHeartbeats 4000000 in
theorem mX11_wasRight {h : AH} {a0 : Nat} {r : Bool × AH} (hr : fX11_wasRight h a0 = some r) : hasC h 11 a0 = true ∧ MC yX11_wasRight cX11_wasRight 1 (some .boolean) 3 0 0 [.ref a0] h (some (.int (b2i r.1))) r.2 := by
  unfold fX11_wasRight at hr
  obtain ⟨hc, hr⟩ := if_some hr
  refine ⟨hc, mc_of (l0 := [(0, .ref a0)]) rfl pn_X11 (Nat.le_of_ble_eq_true rfl) (fun Y X C E O hnm => go_run hr ?_)⟩
  have C : CT Y X RX11 cX11_wasRight 1 := C
  refine go_aload_n (pc := 0) C 0 dX11_wasRight_0 rfl ?_
  refine go_gI (pc := 1) C fdX11_135 dX11_wasRight_1 (fun x2 => ?_)
  refine go_aload_n (pc := 4) C 0 dX11_wasRight_4 rfl ?_
  refine go_gI (pc := 5) C fdX11_129 dX11_wasRight_5 (fun x3 => ?_)
  refine go_icmp_ge (pc := 8) C 19 dX11_wasRight_8 (by decide) (fun _ => ?_) (fun _ => ?_)
  · refine go_sub (ls' := [(0, .ref a0)]) [0] rfl ?_
    refine gX11_wasRight_J19 C O E h a0
  · refine go_aload_n (pc := 11) C 0 dX11_wasRight_11 rfl ?_
    refine go_aload_n (pc := 12) C 0 dX11_wasRight_12 rfl ?_
    refine go_gI (pc := 13) C fdX11_135 dX11_wasRight_13 (fun x4 => ?_)
    refine go_bind (fun q5 hq5 => ?_)
    refine go_callV (rest := []) (st' := []) (c' := 0) (s' := 0) (pc := 16) C O miX11_157 mvX11_fault [.int x4] rfl (mX11_fault hq5).1 (mX11_fault hq5).2 dX11_wasRight_16 ⟨by decide, by decide, by decide, by decide⟩ rfl (Nat.le_of_ble_eq_true rfl) rfl ⟨rfl, rfl⟩ ?_
    refine go_sub (ls' := [(0, .ref a0)]) [0] rfl ?_
    refine gX11_wasRight_J19 C O E q5 a0
theorem dX11_valueOf_0 : decode cX11_valueOf 0 = .ok (.aload_n 0, 1) := by decide +kernel
theorem dX11_valueOf_1 : decode cX11_valueOf 1 = .ok (.invokevirtual 149, 3) := by decide +kernel
theorem dX11_valueOf_4 : decode cX11_valueOf 4 = .ok (.bipush 46, 2) := by decide +kernel
theorem dX11_valueOf_6 : decode cX11_valueOf 6 = .ok (.if_icmp .ne 42, 3) := by decide +kernel
theorem dX11_valueOf_9 : decode cX11_valueOf 9 = .ok (.aload_n 0, 1) := by decide +kernel
theorem dX11_valueOf_10 : decode cX11_valueOf 10 = .ok (.dup, 1) := by decide +kernel
theorem dX11_valueOf_11 : decode cX11_valueOf 11 = .ok (.getfield 135, 3) := by decide +kernel
theorem dX11_valueOf_14 : decode cX11_valueOf 14 = .ok (.iconst 1, 1) := by decide +kernel
theorem dX11_valueOf_15 : decode cX11_valueOf 15 = .ok (.iadd, 1) := by decide +kernel
theorem dX11_valueOf_16 : decode cX11_valueOf 16 = .ok (.putfield 135, 3) := by decide +kernel
theorem dX11_valueOf_19 : decode cX11_valueOf 19 = .ok (.aload_n 0, 1) := by decide +kernel
theorem dX11_valueOf_20 : decode cX11_valueOf 20 = .ok (.invokevirtual 149, 3) := by decide +kernel
theorem dX11_valueOf_23 : decode cX11_valueOf 23 = .ok (.bipush 46, 2) := by decide +kernel
theorem dX11_valueOf_25 : decode cX11_valueOf 25 = .ok (.if_icmp .eq 11, 3) := by decide +kernel
theorem dX11_valueOf_28 : decode cX11_valueOf 28 = .ok (.aload_n 0, 1) := by decide +kernel
theorem dX11_valueOf_29 : decode cX11_valueOf 29 = .ok (.aload_n 0, 1) := by decide +kernel
theorem dX11_valueOf_30 : decode cX11_valueOf 30 = .ok (.getfield 135, 3) := by decide +kernel
theorem dX11_valueOf_33 : decode cX11_valueOf 33 = .ok (.invokevirtual 157, 3) := by decide +kernel
theorem dX11_valueOf_36 : decode cX11_valueOf 36 = .ok (.aload_n 0, 1) := by decide +kernel
theorem dX11_valueOf_37 : decode cX11_valueOf 37 = .ok (.dup, 1) := by decide +kernel
theorem dX11_valueOf_38 : decode cX11_valueOf 38 = .ok (.getfield 135, 3) := by decide +kernel
theorem dX11_valueOf_41 : decode cX11_valueOf 41 = .ok (.iconst 1, 1) := by decide +kernel
theorem dX11_valueOf_42 : decode cX11_valueOf 42 = .ok (.iadd, 1) := by decide +kernel
theorem dX11_valueOf_43 : decode cX11_valueOf 43 = .ok (.putfield 135, 3) := by decide +kernel
theorem dX11_valueOf_46 : decode cX11_valueOf 46 = .ok (.iconst (-1), 1) := by decide +kernel
theorem dX11_valueOf_47 : decode cX11_valueOf 47 = .ok (.ireturn, 1) := by decide +kernel
theorem dX11_valueOf_48 : decode cX11_valueOf 48 = .ok (.aload_n 0, 1) := by decide +kernel
theorem dX11_valueOf_49 : decode cX11_valueOf 49 = .ok (.bipush 48, 2) := by decide +kernel
theorem dX11_valueOf_51 : decode cX11_valueOf 51 = .ok (.bipush 10, 2) := by decide +kernel
theorem dX11_valueOf_53 : decode cX11_valueOf 53 = .ok (.invokevirtual 161, 3) := by decide +kernel
theorem dX11_valueOf_56 : decode cX11_valueOf 56 = .ok (.istore_n 1, 1) := by decide +kernel
theorem dX11_valueOf_57 : decode cX11_valueOf 57 = .ok (.bipush 10, 2) := by decide +kernel
theorem dX11_valueOf_59 : decode cX11_valueOf 59 = .ok (.iload_n 1, 1) := by decide +kernel
theorem dX11_valueOf_60 : decode cX11_valueOf 60 = .ok (.imul, 1) := by decide +kernel
theorem dX11_valueOf_61 : decode cX11_valueOf 61 = .ok (.aload_n 0, 1) := by decide +kernel
theorem dX11_valueOf_62 : decode cX11_valueOf 62 = .ok (.bipush 48, 2) := by decide +kernel
theorem dX11_valueOf_64 : decode cX11_valueOf 64 = .ok (.bipush 10, 2) := by decide +kernel
theorem dX11_valueOf_66 : decode cX11_valueOf 66 = .ok (.invokevirtual 161, 3) := by decide +kernel
theorem dX11_valueOf_69 : decode cX11_valueOf 69 = .ok (.iadd, 1) := by decide +kernel
theorem dX11_valueOf_70 : decode cX11_valueOf 70 = .ok (.ireturn, 1) := by decide +kernel
def fX11_valueOf_J36 (h : AH) (v0 : Nat) : Option (Int32 × AH) :=
    (gI h 11 v0 9).bind fun x1 =>
    (pF h 11 v0 9 (.int (x1 + 1))).bind fun h2 =>
    some (((-1), h2))
def fX11_valueOf (h : AH) (a0 : Nat) : Option (Int32 × AH) :=
  if hasC h 11 a0 = true then (
    (fX11_here h a0).bind fun q3 =>
    if q3 = 46 then (
      (gI h 11 a0 9).bind fun x4 =>
      (pF h 11 a0 9 (.int (x4 + 1))).bind fun h5 =>
      (fX11_here h5 a0).bind fun q6 =>
      if q6 = 46 then (
        fX11_valueOf_J36 h5 a0
      ) else (
        (gI h5 11 a0 9).bind fun x7 =>
        (fX11_fault h5 a0 x7).bind fun q8 =>
        fX11_valueOf_J36 q8 a0
      )
    ) else (
      (fX11_oneOf h a0 48 10).bind fun q9 =>
      (fX11_oneOf q9.2 a0 48 10).bind fun q10 =>
      some (((10 * q9.1) + q10.1, q10.2))
    )
  ) else none
set_option maxHeartbeats 4000000 in
theorem gX11_valueOf_J36 {Y : YT} {X : XT} (C : CT Y X RX11 cX11_valueOf 2) (O : RO X 4 0 0) {r : Int32 × AH} (E : RX Y X (some .int) (some (.int r.1)) r.2 0 0) : ∀ (h : AH) (v0 : Nat), GO Y X 2 r h 0 0 36 [(0, .ref v0)] [] (fX11_valueOf_J36 h v0) := by
  intro h v0
  unfold fX11_valueOf_J36
  refine go_aload_n (pc := 36) C 0 dX11_valueOf_36 rfl ?_
  refine go_dup (pc := 37) C dX11_valueOf_37 rfl ?_
  refine go_gI (pc := 38) C fdX11_135 dX11_valueOf_38 (fun x1 => ?_)
  refine go_iconst (pc := 41) C dX11_valueOf_41 ki_1 ?_
  refine go_iadd (pc := 42) C dX11_valueOf_42 ?_
  refine go_pI (pc := 43) C fpX11_135 dX11_valueOf_43 (fun h2 => ?_)
  refine go_iconst (pc := 46) C dX11_valueOf_46 ki_m1 ?_
  exact go_iret (w := wIh) (pc := 47) C E (((-1), h2)) ((-1)) dX11_valueOf_47 rfl
set_option maxHeartbeats 4000000 in
theorem mX11_valueOf {h : AH} {a0 : Nat} {r : Int32 × AH} (hr : fX11_valueOf h a0 = some r) : hasC h 11 a0 = true ∧ MC yX11_valueOf cX11_valueOf 2 (some .int) 4 0 0 [.ref a0] h (some (.int r.1)) r.2 := by
  unfold fX11_valueOf at hr
  obtain ⟨hc, hr⟩ := if_some hr
  refine ⟨hc, mc_of (l0 := [(0, .ref a0)]) rfl pn_X11 (Nat.le_of_ble_eq_true rfl) (fun Y X C E O hnm => go_run hr ?_)⟩
  have C : CT Y X RX11 cX11_valueOf 2 := C
  refine go_aload_n (pc := 0) C 0 dX11_valueOf_0 rfl ?_
  refine go_bind (fun q3 hq3 => ?_)
  refine go_callV (rest := []) (st' := [.int q3]) (c' := 0) (s' := 0) (pc := 1) C O miX11_149 mvX11_here [] rfl (mX11_here hq3).1 (mX11_here hq3).2 dX11_valueOf_1 ⟨by decide, by decide, by decide, by decide⟩ rfl (Nat.le_of_ble_eq_true rfl) rfl ⟨rfl, rfl⟩ ?_
  refine go_bipush (pc := 4) C dX11_valueOf_4 kb_46 ?_
  refine go_icmp_ne (pc := 6) C 48 dX11_valueOf_6 (by decide) (fun _ => ?_) (fun _ => ?_)
  · refine go_aload_n (pc := 9) C 0 dX11_valueOf_9 rfl ?_
    refine go_dup (pc := 10) C dX11_valueOf_10 rfl ?_
    refine go_gI (pc := 11) C fdX11_135 dX11_valueOf_11 (fun x4 => ?_)
    refine go_iconst (pc := 14) C dX11_valueOf_14 ki_1 ?_
    refine go_iadd (pc := 15) C dX11_valueOf_15 ?_
    refine go_pI (pc := 16) C fpX11_135 dX11_valueOf_16 (fun h5 => ?_)
    refine go_aload_n (pc := 19) C 0 dX11_valueOf_19 rfl ?_
    refine go_bind (fun q6 hq6 => ?_)
    refine go_callV (rest := []) (st' := [.int q6]) (c' := 0) (s' := 0) (pc := 20) C O miX11_149 mvX11_here [] rfl (mX11_here hq6).1 (mX11_here hq6).2 dX11_valueOf_20 ⟨by decide, by decide, by decide, by decide⟩ rfl (Nat.le_of_ble_eq_true rfl) rfl ⟨rfl, rfl⟩ ?_
    refine go_bipush (pc := 23) C dX11_valueOf_23 kb_46 ?_
    refine go_icmp_eq (pc := 25) C 36 dX11_valueOf_25 (by decide) (fun _ => ?_) (fun _ => ?_)
    · refine go_sub (ls' := [(0, .ref a0)]) [0] rfl ?_
      refine gX11_valueOf_J36 C O E h5 a0
    · refine go_aload_n (pc := 28) C 0 dX11_valueOf_28 rfl ?_
      refine go_aload_n (pc := 29) C 0 dX11_valueOf_29 rfl ?_
      refine go_gI (pc := 30) C fdX11_135 dX11_valueOf_30 (fun x7 => ?_)
      refine go_bind (fun q8 hq8 => ?_)
      refine go_callV (rest := []) (st' := []) (c' := 0) (s' := 0) (pc := 33) C O miX11_157 mvX11_fault [.int x7] rfl (mX11_fault hq8).1 (mX11_fault hq8).2 dX11_valueOf_33 ⟨by decide, by decide, by decide, by decide⟩ rfl (Nat.le_of_ble_eq_true rfl) rfl ⟨rfl, rfl⟩ ?_
      refine go_sub (ls' := [(0, .ref a0)]) [0] rfl ?_
      refine gX11_valueOf_J36 C O E q8 a0
  · refine go_aload_n (pc := 48) C 0 dX11_valueOf_48 rfl ?_
    refine go_bipush (pc := 49) C dX11_valueOf_49 kb_48 ?_
    refine go_bipush (pc := 51) C dX11_valueOf_51 kb_10 ?_
    refine go_bind (fun q9 hq9 => ?_)
    refine go_callV (rest := []) (st' := [.int q9.1]) (c' := 0) (s' := 0) (pc := 53) C O miX11_161 mvX11_oneOf [.int 48, .int 10] rfl (mX11_oneOf hq9).1 (mX11_oneOf hq9).2 dX11_valueOf_53 ⟨by decide, by decide, by decide, by decide⟩ rfl (Nat.le_of_ble_eq_true rfl) rfl ⟨rfl, rfl⟩ ?_
    refine go_istore_n (ls' := [(1, .int q9.1), (0, .ref a0)]) (pc := 56) C dX11_valueOf_56 (by decide) rfl ?_
    refine go_bipush (pc := 57) C dX11_valueOf_57 kb_10 ?_
    refine go_iload_n (pc := 59) C 0 dX11_valueOf_59 rfl ?_
    refine go_imul (pc := 60) C dX11_valueOf_60 ?_
    refine go_aload_n (pc := 61) C 1 dX11_valueOf_61 rfl ?_
    refine go_bipush (pc := 62) C dX11_valueOf_62 kb_48 ?_
    refine go_bipush (pc := 64) C dX11_valueOf_64 kb_10 ?_
    refine go_bind (fun q10 hq10 => ?_)
    refine go_callV (rest := [.int (10 * q9.1)]) (st' := [.int q10.1, .int (10 * q9.1)]) (c' := 0) (s' := 0) (pc := 66) C O miX11_161 mvX11_oneOf [.int 48, .int 10] rfl (mX11_oneOf hq10).1 (mX11_oneOf hq10).2 dX11_valueOf_66 ⟨by decide, by decide, by decide, by decide⟩ rfl (Nat.le_of_ble_eq_true rfl) rfl ⟨rfl, rfl⟩ ?_
    refine go_iadd (pc := 69) C dX11_valueOf_69 ?_
    exact go_iret (w := wIh) (pc := 70) C E (((10 * q9.1) + q10.1, q10.2)) ((10 * q9.1) + q10.1) dX11_valueOf_70 rfl
theorem dX11_comes_0 : decode cX11_comes 0 = .ok (.aload_n 0, 1) := by decide +kernel
theorem dX11_comes_1 : decode cX11_comes 1 = .ok (.invokestatic 165, 3) := by decide +kernel
theorem dX11_comes_4 : decode cX11_comes 4 = .ok (.istore 4, 2) := by decide +kernel
theorem dX11_comes_6 : decode cX11_comes 6 = .ok (.aload_n 0, 1) := by decide +kernel
theorem dX11_comes_7 : decode cX11_comes 7 = .ok (.iload 4, 2) := by decide +kernel
theorem dX11_comes_9 : decode cX11_comes 9 = .ok (.invokestatic 73, 3) := by decide +kernel
theorem dX11_comes_12 : decode cX11_comes 12 = .ok (.aload_n 0, 1) := by decide +kernel
theorem dX11_comes_13 : decode cX11_comes 13 = .ok (.sipush 216, 3) := by decide +kernel
theorem dX11_comes_16 : decode cX11_comes 16 = .ok (.iload 4, 2) := by decide +kernel
theorem dX11_comes_18 : decode cX11_comes 18 = .ok (.iadd, 1) := by decide +kernel
theorem dX11_comes_19 : decode cX11_comes 19 = .ok (.iload_n 1, 1) := by decide +kernel
theorem dX11_comes_20 : decode cX11_comes 20 = .ok (.iastore, 1) := by decide +kernel
theorem dX11_comes_21 : decode cX11_comes 21 = .ok (.aload_n 0, 1) := by decide +kernel
theorem dX11_comes_22 : decode cX11_comes 22 = .ok (.sipush 240, 3) := by decide +kernel
theorem dX11_comes_25 : decode cX11_comes 25 = .ok (.iload 4, 2) := by decide +kernel
theorem dX11_comes_27 : decode cX11_comes 27 = .ok (.iadd, 1) := by decide +kernel
theorem dX11_comes_28 : decode cX11_comes 28 = .ok (.iload_n 2, 1) := by decide +kernel
theorem dX11_comes_29 : decode cX11_comes 29 = .ok (.iastore, 1) := by decide +kernel
theorem dX11_comes_30 : decode cX11_comes 30 = .ok (.aload_n 0, 1) := by decide +kernel
theorem dX11_comes_31 : decode cX11_comes 31 = .ok (.sipush 192, 3) := by decide +kernel
theorem dX11_comes_34 : decode cX11_comes 34 = .ok (.iload 4, 2) := by decide +kernel
theorem dX11_comes_36 : decode cX11_comes 36 = .ok (.iadd, 1) := by decide +kernel
theorem dX11_comes_37 : decode cX11_comes 37 = .ok (.iload_n 3, 1) := by decide +kernel
theorem dX11_comes_38 : decode cX11_comes 38 = .ok (.iastore, 1) := by decide +kernel
theorem dX11_comes_39 : decode cX11_comes 39 = .ok (.iload 4, 2) := by decide +kernel
theorem dX11_comes_41 : decode cX11_comes 41 = .ok (.ireturn, 1) := by decide +kernel
def fX11_comes (h : AH) (a0 : Nat) (a1 : Int32) (a2 : Int32) (a3 : Int32) : Option (Int32 × AH) :=
  (fX11_freeObject h a0).bind fun q1 =>
  (fX11_clear h a0 q1).bind fun q2 =>
  (sI q2 0 a0 (216 + q1) a1).bind fun h3 =>
  (sI h3 0 a0 (240 + q1) a2).bind fun h4 =>
  (sI h4 0 a0 (192 + q1) a3).bind fun h5 =>
  some ((q1, h5))
set_option maxHeartbeats 4000000 in
theorem mX11_comes {h : AH} {a0 : Nat} {a1 : Int32} {a2 : Int32} {a3 : Int32} {r : Int32 × AH} (hr : fX11_comes h a0 a1 a2 a3 = some r) : MC yX11_comes cX11_comes 5 (some .int) 3 0 0 [.ref a0, .int a1, .int a2, .int a3] h (some (.int r.1)) r.2 := by
  unfold fX11_comes at hr
  refine mc_of (l0 := [(0, .ref a0), (1, .int a1), (2, .int a2), (3, .int a3)]) rfl pn_X11 (Nat.le_of_ble_eq_true rfl) (fun Y X C E O hnm => go_run hr ?_)
  have C : CT Y X RX11 cX11_comes 5 := C
  refine go_aload_n (pc := 0) C 0 dX11_comes_0 rfl ?_
  refine go_bind (fun q1 hq1 => ?_)
  refine go_callS (rest := []) (st' := [.int q1]) (c' := 0) (s' := 0) (pc := 1) C O miX11_165 w_1482 [.ref a0] rfl (mX11_freeObject hq1) dX11_comes_1 ⟨by decide, by decide, by decide, by decide⟩ rfl (Nat.le_of_ble_eq_true rfl) rfl ⟨rfl, rfl⟩ ?_
  refine go_istore (ls' := [(4, .int q1), (0, .ref a0), (1, .int a1), (2, .int a2), (3, .int a3)]) (pc := 4) C dX11_comes_4 (by decide) rfl ?_
  refine go_aload_n (pc := 6) C 1 dX11_comes_6 rfl ?_
  refine go_iload (pc := 7) C 0 dX11_comes_7 rfl ?_
  refine go_bind (fun q2 hq2 => ?_)
  refine go_callS (rest := []) (st' := []) (c' := 0) (s' := 0) (pc := 9) C O miX11_73 w_1313 [.ref a0, .int q1] rfl (mX11_clear hq2) dX11_comes_9 ⟨by decide, by decide, by decide, by decide⟩ rfl (Nat.le_of_ble_eq_true rfl) rfl ⟨rfl, rfl⟩ ?_
  refine go_aload_n (pc := 12) C 1 dX11_comes_12 rfl ?_
  refine go_sipush (pc := 13) C dX11_comes_13 ks_216 ?_
  refine go_iload (pc := 16) C 0 dX11_comes_16 rfl ?_
  refine go_iadd (pc := 18) C dX11_comes_18 ?_
  refine go_iload_n (pc := 19) C 2 dX11_comes_19 rfl ?_
  refine go_iast (pc := 20) C dX11_comes_20 (fun h3 => ?_)
  refine go_aload_n (pc := 21) C 1 dX11_comes_21 rfl ?_
  refine go_sipush (pc := 22) C dX11_comes_22 ks_240 ?_
  refine go_iload (pc := 25) C 0 dX11_comes_25 rfl ?_
  refine go_iadd (pc := 27) C dX11_comes_27 ?_
  refine go_iload_n (pc := 28) C 3 dX11_comes_28 rfl ?_
  refine go_iast (pc := 29) C dX11_comes_29 (fun h4 => ?_)
  refine go_aload_n (pc := 30) C 1 dX11_comes_30 rfl ?_
  refine go_sipush (pc := 31) C dX11_comes_31 ks_192 ?_
  refine go_iload (pc := 34) C 0 dX11_comes_34 rfl ?_
  refine go_iadd (pc := 36) C dX11_comes_36 ?_
  refine go_iload_n (pc := 37) C 4 dX11_comes_37 rfl ?_
  refine go_iast (pc := 38) C dX11_comes_38 (fun h5 => ?_)
  refine go_iload (pc := 39) C 0 dX11_comes_39 rfl ?_
  exact go_iret (w := wIh) (pc := 41) C E ((q1, h5)) q1 dX11_comes_41 rfl
theorem dX11_lay_0 : decode cX11_lay 0 = .ok (.iconst 0, 1) := by decide +kernel
theorem dX11_lay_1 : decode cX11_lay 1 = .ok (.istore_n 3, 1) := by decide +kernel
theorem dX11_lay_2 : decode cX11_lay 2 = .ok (.iload_n 3, 1) := by decide +kernel
theorem dX11_lay_3 : decode cX11_lay 3 = .ok (.sipush 325, 3) := by decide +kernel
theorem dX11_lay_6 : decode cX11_lay 6 = .ok (.if_icmp .ge 17, 3) := by decide +kernel
theorem dX11_lay_9 : decode cX11_lay 9 = .ok (.aload_n 1, 1) := by decide +kernel
theorem dX11_lay_10 : decode cX11_lay 10 = .ok (.iload_n 2, 1) := by decide +kernel
theorem dX11_lay_11 : decode cX11_lay 11 = .ok (.iload_n 3, 1) := by decide +kernel
theorem dX11_lay_12 : decode cX11_lay 12 = .ok (.iadd, 1) := by decide +kernel
theorem dX11_lay_13 : decode cX11_lay 13 = .ok (.aload_n 0, 1) := by decide +kernel
theorem dX11_lay_14 : decode cX11_lay 14 = .ok (.iload_n 3, 1) := by decide +kernel
theorem dX11_lay_15 : decode cX11_lay 15 = .ok (.iaload, 1) := by decide +kernel
theorem dX11_lay_16 : decode cX11_lay 16 = .ok (.iastore, 1) := by decide +kernel
theorem dX11_lay_17 : decode cX11_lay 17 = .ok (.iinc 3 1, 3) := by decide +kernel
theorem dX11_lay_20 : decode cX11_lay 20 = .ok (.goto (-18), 3) := by decide +kernel
theorem dX11_lay_23 : decode cX11_lay 23 = .ok (.return_, 1) := by decide +kernel
def fX11_lay_L2 : Nat → AH → Nat → Nat → Int32 → Int32 → Option (AH)
  | 0, _, _, _, _, _ => none
  | n + 1, h, v0, v1, v2, v3 =>
    if 325 ≤ v3 then (
      some h
    ) else (
      (aI h 0 v0 v3).bind fun x1 =>
      (sI h 0 v1 (v2 + v3) x1).bind fun h2 =>
      letF (v3 + 1 : Int32) fun x3 =>
      fX11_lay_L2 n h2 v0 v1 v2 x3
    )
def fX11_lay (h : AH) (a0 : Nat) (a1 : Nat) (a2 : Int32) : Option (AH) :=
  fX11_lay_L2 FU h a0 a1 a2 0
set_option maxHeartbeats 4000000 in
theorem gX11_lay_L2 {Y : YT} {X : XT} (C : CT Y X RX11 cX11_lay 4) (O : RO X 1 0 0) {r : AH} (E : RX Y X none none r 0 0) : ∀ (n : Nat) (h : AH) (v0 : Nat) (v1 : Nat) (v2 : Int32) (v3 : Int32), GO Y X 4 r h 0 0 2 [(0, .ref v0), (1, .ref v1), (2, .int v2), (3, .int v3)] [] (fX11_lay_L2 n h v0 v1 v2 v3) := by
  intro n
  induction n with
  | zero => intros; exact go_none _ _ _
  | succ n ih =>
    intro h v0 v1 v2 v3
    rw [fX11_lay_L2]
    refine go_iload_n (pc := 2) C 3 dX11_lay_2 rfl ?_
    refine go_sipush (pc := 3) C dX11_lay_3 ks_325 ?_
    refine go_icmp_ge (pc := 6) C 23 dX11_lay_6 (by decide) (fun _ => ?_) (fun _ => ?_)
    · exact go_vret (w := wV) (pc := 23) C E h dX11_lay_23 rfl
    · refine go_aload_n (pc := 9) C 1 dX11_lay_9 rfl ?_
      refine go_iload_n (pc := 10) C 2 dX11_lay_10 rfl ?_
      refine go_iload_n (pc := 11) C 3 dX11_lay_11 rfl ?_
      refine go_iadd (pc := 12) C dX11_lay_12 ?_
      refine go_aload_n (pc := 13) C 0 dX11_lay_13 rfl ?_
      refine go_iload_n (pc := 14) C 3 dX11_lay_14 rfl ?_
      refine go_iald (pc := 15) C dX11_lay_15 (fun x1 => ?_)
      refine go_iast (pc := 16) C dX11_lay_16 (fun h2 => ?_)
      refine go_iincL (pc := 17) C 3 dX11_lay_17 rfl ki_1 (by decide) (fun x3 => [(3, .int x3), (0, .ref v0), (1, .ref v1), (2, .int v2)]) (fun _ => rfl) (fun x3 => ?_)
      refine go_goto (pc := 20) C 2 dX11_lay_20 (by decide) ?_
      refine go_sub (ls' := [(0, .ref v0), (1, .ref v1), (2, .int v2), (3, .int x3)]) [1, 2, 3, 0] rfl ?_
      exact ih h2 v0 v1 v2 x3
set_option maxHeartbeats 4000000 in
theorem mX11_lay {h : AH} {a0 : Nat} {a1 : Nat} {a2 : Int32} {r : AH} (hr : fX11_lay h a0 a1 a2 = some r) : MC yX11_lay cX11_lay 4 none 1 0 0 [.ref a0, .ref a1, .int a2] h none r := by
  unfold fX11_lay at hr
  refine mc_of (l0 := [(0, .ref a0), (1, .ref a1), (2, .int a2)]) rfl pn_X11 (Nat.le_of_ble_eq_true rfl) (fun Y X C E O hnm => go_run hr ?_)
  have C : CT Y X RX11 cX11_lay 4 := C
  refine go_iconst (pc := 0) C dX11_lay_0 ki_0 ?_
  refine go_istore_n (ls' := [(3, .int 0), (0, .ref a0), (1, .ref a1), (2, .int a2)]) (pc := 1) C dX11_lay_1 (by decide) rfl ?_
  refine go_sub (ls' := [(0, .ref a0), (1, .ref a1), (2, .int a2), (3, .int 0)]) [1, 2, 3, 0] rfl ?_
  refine gX11_lay_L2 C O E FU h a0 a1 a2 0
theorem dX11_remember_0 : decode cX11_remember 0 = .ok (.aload_n 0, 1) := by decide +kernel
theorem dX11_remember_1 : decode cX11_remember 1 = .ok (.getfield 252, 3) := by decide +kernel
theorem dX11_remember_4 : decode cX11_remember 4 = .ok (.bipush 8, 2) := by decide +kernel
theorem dX11_remember_6 : decode cX11_remember 6 = .ok (.if_icmp .ne 44, 3) := by decide +kernel
theorem dX11_remember_9 : decode cX11_remember 9 = .ok (.iconst 0, 1) := by decide +kernel
theorem dX11_remember_10 : decode cX11_remember 10 = .ok (.istore_n 2, 1) := by decide +kernel
theorem dX11_remember_11 : decode cX11_remember 11 = .ok (.iload_n 2, 1) := by decide +kernel
theorem dX11_remember_12 : decode cX11_remember 12 = .ok (.sipush 2275, 3) := by decide +kernel
theorem dX11_remember_15 : decode cX11_remember 15 = .ok (.if_icmp .ge 25, 3) := by decide +kernel
theorem dX11_remember_18 : decode cX11_remember 18 = .ok (.aload_n 0, 1) := by decide +kernel
theorem dX11_remember_19 : decode cX11_remember 19 = .ok (.getfield 33, 3) := by decide +kernel
theorem dX11_remember_22 : decode cX11_remember 22 = .ok (.iload_n 2, 1) := by decide +kernel
theorem dX11_remember_23 : decode cX11_remember 23 = .ok (.aload_n 0, 1) := by decide +kernel
theorem dX11_remember_24 : decode cX11_remember 24 = .ok (.getfield 33, 3) := by decide +kernel
theorem dX11_remember_27 : decode cX11_remember 27 = .ok (.iload_n 2, 1) := by decide +kernel
theorem dX11_remember_28 : decode cX11_remember 28 = .ok (.sipush 325, 3) := by decide +kernel
theorem dX11_remember_31 : decode cX11_remember 31 = .ok (.iadd, 1) := by decide +kernel
theorem dX11_remember_32 : decode cX11_remember 32 = .ok (.iaload, 1) := by decide +kernel
theorem dX11_remember_33 : decode cX11_remember 33 = .ok (.iastore, 1) := by decide +kernel
theorem dX11_remember_34 : decode cX11_remember 34 = .ok (.iinc 2 1, 3) := by decide +kernel
theorem dX11_remember_37 : decode cX11_remember 37 = .ok (.goto (-26), 3) := by decide +kernel
theorem dX11_remember_40 : decode cX11_remember 40 = .ok (.aload_n 0, 1) := by decide +kernel
theorem dX11_remember_41 : decode cX11_remember 41 = .ok (.dup, 1) := by decide +kernel
theorem dX11_remember_42 : decode cX11_remember 42 = .ok (.getfield 252, 3) := by decide +kernel
theorem dX11_remember_45 : decode cX11_remember 45 = .ok (.iconst 1, 1) := by decide +kernel
theorem dX11_remember_46 : decode cX11_remember 46 = .ok (.isub, 1) := by decide +kernel
theorem dX11_remember_47 : decode cX11_remember 47 = .ok (.putfield 252, 3) := by decide +kernel
theorem dX11_remember_50 : decode cX11_remember 50 = .ok (.aload_n 1, 1) := by decide +kernel
theorem dX11_remember_51 : decode cX11_remember 51 = .ok (.aload_n 0, 1) := by decide +kernel
theorem dX11_remember_52 : decode cX11_remember 52 = .ok (.getfield 33, 3) := by decide +kernel
theorem dX11_remember_55 : decode cX11_remember 55 = .ok (.sipush 325, 3) := by decide +kernel
theorem dX11_remember_58 : decode cX11_remember 58 = .ok (.aload_n 0, 1) := by decide +kernel
theorem dX11_remember_59 : decode cX11_remember 59 = .ok (.getfield 252, 3) := by decide +kernel
theorem dX11_remember_62 : decode cX11_remember 62 = .ok (.imul, 1) := by decide +kernel
theorem dX11_remember_63 : decode cX11_remember 63 = .ok (.invokestatic 255, 3) := by decide +kernel
theorem dX11_remember_66 : decode cX11_remember 66 = .ok (.aload_n 0, 1) := by decide +kernel
theorem dX11_remember_67 : decode cX11_remember 67 = .ok (.dup, 1) := by decide +kernel
theorem dX11_remember_68 : decode cX11_remember 68 = .ok (.getfield 252, 3) := by decide +kernel
theorem dX11_remember_71 : decode cX11_remember 71 = .ok (.iconst 1, 1) := by decide +kernel
theorem dX11_remember_72 : decode cX11_remember 72 = .ok (.iadd, 1) := by decide +kernel
theorem dX11_remember_73 : decode cX11_remember 73 = .ok (.putfield 252, 3) := by decide +kernel
theorem dX11_remember_76 : decode cX11_remember 76 = .ok (.return_, 1) := by decide +kernel
def fX11_remember_L11 (k40 : AH → Nat → Nat → Option (AH)) : Nat → AH → Nat → Nat → Int32 → Option (AH)
  | 0, _, _, _, _ => none
  | n + 1, h, v0, v1, v2 =>
    if 2275 ≤ v2 then (
      k40 h v0 v1
    ) else (
      (gR h 11 v0 17).bind fun x1 =>
      (gR h 11 v0 17).bind fun x2 =>
      (aI h 0 x2 (v2 + 325)).bind fun x3 =>
      (sI h 0 x1 v2 x3).bind fun h4 =>
      letF (v2 + 1 : Int32) fun x5 =>
      fX11_remember_L11 k40 n h4 v0 v1 x5
    )
def fX11_remember_J50 (h : AH) (v0 : Nat) (v1 : Nat) : Option (AH) :=
    (gR h 11 v0 17).bind fun x6 =>
    (gI h 11 v0 18).bind fun x7 =>
    (fX11_lay h v1 x6 (325 * x7)).bind fun q8 =>
    (gI q8 11 v0 18).bind fun x9 =>
    (pF q8 11 v0 18 (.int (x9 + 1))).bind fun h10 =>
    some h10
def fX11_remember (h : AH) (a0 : Nat) (a1 : Nat) : Option (AH) :=
  if hasC h 11 a0 = true then (
    (gI h 11 a0 18).bind fun x11 =>
    if x11 = 8 then (
      fX11_remember_L11
        (fun h14 x12 x13 =>
          (gI h14 11 x12 18).bind fun x15 =>
          (pF h14 11 x12 18 (.int (x15 - 1))).bind fun h16 =>
          fX11_remember_J50 h16 x12 x13)
        FU h a0 a1 0
    ) else (
      fX11_remember_J50 h a0 a1
    )
  ) else none
set_option maxHeartbeats 4000000 in
theorem gX11_remember_L11 {Y : YT} {X : XT} (C : CT Y X RX11 cX11_remember 3) (O : RO X 2 0 0) {r : AH} (E : RX Y X none none r 0 0) {k40 : AH → Nat → Nat → Option (AH)} (hk40 : ∀ (h : AH) (v0 : Nat) (v1 : Nat), GO Y X 3 r h 0 0 40 [(0, .ref v0), (1, .ref v1)] [] (k40 h v0 v1)) : ∀ (n : Nat) (h : AH) (v0 : Nat) (v1 : Nat) (v2 : Int32), GO Y X 3 r h 0 0 11 [(0, .ref v0), (1, .ref v1), (2, .int v2)] [] (fX11_remember_L11 k40 n h v0 v1 v2) := by
  intro n
  induction n with
  | zero => intros; exact go_none _ _ _
  | succ n ih =>
    intro h v0 v1 v2
    rw [fX11_remember_L11]
    refine go_iload_n (pc := 11) C 2 dX11_remember_11 rfl ?_
    refine go_sipush (pc := 12) C dX11_remember_12 ks_2275 ?_
    refine go_icmp_ge (pc := 15) C 40 dX11_remember_15 (by decide) (fun _ => ?_) (fun _ => ?_)
    · refine go_sub (ls' := [(0, .ref v0), (1, .ref v1)]) [0, 1] rfl ?_
      exact hk40 h v0 v1
    · refine go_aload_n (pc := 18) C 0 dX11_remember_18 rfl ?_
      refine go_gR (pc := 19) C fdX11_33 dX11_remember_19 (fun x1 => ?_)
      refine go_iload_n (pc := 22) C 2 dX11_remember_22 rfl ?_
      refine go_aload_n (pc := 23) C 0 dX11_remember_23 rfl ?_
      refine go_gR (pc := 24) C fdX11_33 dX11_remember_24 (fun x2 => ?_)
      refine go_iload_n (pc := 27) C 2 dX11_remember_27 rfl ?_
      refine go_sipush (pc := 28) C dX11_remember_28 ks_325 ?_
      refine go_iadd (pc := 31) C dX11_remember_31 ?_
      refine go_iald (pc := 32) C dX11_remember_32 (fun x3 => ?_)
      refine go_iast (pc := 33) C dX11_remember_33 (fun h4 => ?_)
      refine go_iincL (pc := 34) C 2 dX11_remember_34 rfl ki_1 (by decide) (fun x5 => [(2, .int x5), (0, .ref v0), (1, .ref v1)]) (fun _ => rfl) (fun x5 => ?_)
      refine go_goto (pc := 37) C 11 dX11_remember_37 (by decide) ?_
      refine go_sub (ls' := [(0, .ref v0), (1, .ref v1), (2, .int x5)]) [1, 2, 0] rfl ?_
      exact ih h4 v0 v1 x5
set_option maxHeartbeats 4000000 in
theorem gX11_remember_J50 {Y : YT} {X : XT} (C : CT Y X RX11 cX11_remember 3) (O : RO X 2 0 0) {r : AH} (E : RX Y X none none r 0 0) : ∀ (h : AH) (v0 : Nat) (v1 : Nat), GO Y X 3 r h 0 0 50 [(0, .ref v0), (1, .ref v1)] [] (fX11_remember_J50 h v0 v1) := by
  intro h v0 v1
  unfold fX11_remember_J50
  refine go_aload_n (pc := 50) C 1 dX11_remember_50 rfl ?_
  refine go_aload_n (pc := 51) C 0 dX11_remember_51 rfl ?_
  refine go_gR (pc := 52) C fdX11_33 dX11_remember_52 (fun x6 => ?_)
  refine go_sipush (pc := 55) C dX11_remember_55 ks_325 ?_
  refine go_aload_n (pc := 58) C 0 dX11_remember_58 rfl ?_
  refine go_gI (pc := 59) C fdX11_252 dX11_remember_59 (fun x7 => ?_)
  refine go_imul (pc := 62) C dX11_remember_62 ?_
  refine go_bind (fun q8 hq8 => ?_)
  refine go_callS (rest := []) (st' := []) (c' := 0) (s' := 0) (pc := 63) C O miX11_255 w_1502 [.ref v1, .ref x6, .int (325 * x7)] rfl (mX11_lay hq8) dX11_remember_63 ⟨by decide, by decide, by decide, by decide⟩ rfl (Nat.le_of_ble_eq_true rfl) rfl ⟨rfl, rfl⟩ ?_
  refine go_aload_n (pc := 66) C 0 dX11_remember_66 rfl ?_
  refine go_dup (pc := 67) C dX11_remember_67 rfl ?_
  refine go_gI (pc := 68) C fdX11_252 dX11_remember_68 (fun x9 => ?_)
  refine go_iconst (pc := 71) C dX11_remember_71 ki_1 ?_
  refine go_iadd (pc := 72) C dX11_remember_72 ?_
  refine go_pI (pc := 73) C fpX11_252 dX11_remember_73 (fun h10 => ?_)
  exact go_vret (w := wV) (pc := 76) C E h10 dX11_remember_76 rfl
set_option maxHeartbeats 4000000 in
theorem mX11_remember {h : AH} {a0 : Nat} {a1 : Nat} {r : AH} (hr : fX11_remember h a0 a1 = some r) : hasC h 11 a0 = true ∧ MC yX11_remember cX11_remember 3 none 2 0 0 [.ref a0, .ref a1] h none r := by
  unfold fX11_remember at hr
  obtain ⟨hc, hr⟩ := if_some hr
  refine ⟨hc, mc_of (l0 := [(0, .ref a0), (1, .ref a1)]) rfl pn_X11 (Nat.le_of_ble_eq_true rfl) (fun Y X C E O hnm => go_run hr ?_)⟩
  have C : CT Y X RX11 cX11_remember 3 := C
  refine go_aload_n (pc := 0) C 0 dX11_remember_0 rfl ?_
  refine go_gI (pc := 1) C fdX11_252 dX11_remember_1 (fun x11 => ?_)
  refine go_bipush (pc := 4) C dX11_remember_4 kb_8 ?_
  refine go_icmp_ne (pc := 6) C 50 dX11_remember_6 (by decide) (fun _ => ?_) (fun _ => ?_)
  · refine go_iconst (pc := 9) C dX11_remember_9 ki_0 ?_
    refine go_istore_n (ls' := [(2, .int 0), (0, .ref a0), (1, .ref a1)]) (pc := 10) C dX11_remember_10 (by decide) rfl ?_
    refine go_sub (ls' := [(0, .ref a0), (1, .ref a1), (2, .int 0)]) [1, 2, 0] rfl ?_
    refine gX11_remember_L11 C O E (fun h14 x12 x13 => ?_) FU h a0 a1 0
    · refine go_aload_n (pc := 40) C 0 dX11_remember_40 rfl ?_
      refine go_dup (pc := 41) C dX11_remember_41 rfl ?_
      refine go_gI (pc := 42) C fdX11_252 dX11_remember_42 (fun x15 => ?_)
      refine go_iconst (pc := 45) C dX11_remember_45 ki_1 ?_
      refine go_isub (pc := 46) C dX11_remember_46 ?_
      refine go_pI (pc := 47) C fpX11_252 dX11_remember_47 (fun h16 => ?_)
      refine go_sub (ls' := [(0, .ref x12), (1, .ref x13)]) [0, 1] rfl ?_
      refine gX11_remember_J50 C O E h16 x12 x13
  · refine go_sub (ls' := [(0, .ref a0), (1, .ref a1)]) [0, 1] rfl ?_
    refine gX11_remember_J50 C O E h a0 a1
theorem dX11_spaces_0 : decode cX11_spaces 0 = .ok (.aload_n 0, 1) := by decide +kernel
theorem dX11_spaces_1 : decode cX11_spaces 1 = .ok (.iconst 0, 1) := by decide +kernel
theorem dX11_spaces_2 : decode cX11_spaces 2 = .ok (.putfield 77, 3) := by decide +kernel
theorem dX11_spaces_5 : decode cX11_spaces 5 = .ok (.aload_n 0, 1) := by decide +kernel
theorem dX11_spaces_6 : decode cX11_spaces 6 = .ok (.bipush 18, 2) := by decide +kernel
theorem dX11_spaces_8 : decode cX11_spaces 8 = .ok (.invokevirtual 169, 3) := by decide +kernel
theorem dX11_spaces_11 : decode cX11_spaces 11 = .ok (.aload_n 0, 1) := by decide +kernel
theorem dX11_spaces_12 : decode cX11_spaces 12 = .ok (.bipush 48, 2) := by decide +kernel
theorem dX11_spaces_14 : decode cX11_spaces 14 = .ok (.iconst 4, 1) := by decide +kernel
theorem dX11_spaces_15 : decode cX11_spaces 15 = .ok (.invokevirtual 161, 3) := by decide +kernel
theorem dX11_spaces_18 : decode cX11_spaces 18 = .ok (.istore_n 1, 1) := by decide +kernel
theorem dX11_spaces_19 : decode cX11_spaces 19 = .ok (.aload_n 0, 1) := by decide +kernel
theorem dX11_spaces_20 : decode cX11_spaces 20 = .ok (.bipush 48, 2) := by decide +kernel
theorem dX11_spaces_22 : decode cX11_spaces 22 = .ok (.bipush 10, 2) := by decide +kernel
theorem dX11_spaces_24 : decode cX11_spaces 24 = .ok (.invokevirtual 161, 3) := by decide +kernel
theorem dX11_spaces_27 : decode cX11_spaces 27 = .ok (.istore_n 2, 1) := by decide +kernel
theorem dX11_spaces_28 : decode cX11_spaces 28 = .ok (.iconst 0, 1) := by decide +kernel
theorem dX11_spaces_29 : decode cX11_spaces 29 = .ok (.istore_n 3, 1) := by decide +kernel
theorem dX11_spaces_30 : decode cX11_spaces 30 = .ok (.iconst 0, 1) := by decide +kernel
theorem dX11_spaces_31 : decode cX11_spaces 31 = .ok (.istore 4, 2) := by decide +kernel
theorem dX11_spaces_33 : decode cX11_spaces 33 = .ok (.iconst 0, 1) := by decide +kernel
theorem dX11_spaces_34 : decode cX11_spaces 34 = .ok (.istore 5, 2) := by decide +kernel
theorem dX11_spaces_36 : decode cX11_spaces 36 = .ok (.iload 5, 2) := by decide +kernel
theorem dX11_spaces_38 : decode cX11_spaces 38 = .ok (.bipush 8, 2) := by decide +kernel
theorem dX11_spaces_40 : decode cX11_spaces 40 = .ok (.if_icmp .ge 17, 3) := by decide +kernel
theorem dX11_spaces_43 : decode cX11_spaces 43 = .ok (.aload_n 0, 1) := by decide +kernel
theorem dX11_spaces_44 : decode cX11_spaces 44 = .ok (.getfield 21, 3) := by decide +kernel
theorem dX11_spaces_47 : decode cX11_spaces 47 = .ok (.iload 5, 2) := by decide +kernel
theorem dX11_spaces_49 : decode cX11_spaces 49 = .ok (.iconst (-1), 1) := by decide +kernel
theorem dX11_spaces_50 : decode cX11_spaces 50 = .ok (.iastore, 1) := by decide +kernel
theorem dX11_spaces_51 : decode cX11_spaces 51 = .ok (.iinc 5 1, 3) := by decide +kernel
theorem dX11_spaces_54 : decode cX11_spaces 54 = .ok (.goto (-18), 3) := by decide +kernel
theorem dX11_spaces_57 : decode cX11_spaces 57 = .ok (.aload_n 0, 1) := by decide +kernel
theorem dX11_spaces_58 : decode cX11_spaces 58 = .ok (.invokevirtual 145, 3) := by decide +kernel
theorem dX11_spaces_61 : decode cX11_spaces 61 = .ok (.ifCond .eq 63, 3) := by decide +kernel
theorem dX11_spaces_64 : decode cX11_spaces 64 = .ok (.iload_n 3, 1) := by decide +kernel
theorem dX11_spaces_65 : decode cX11_spaces 65 = .ok (.bipush 8, 2) := by decide +kernel
theorem dX11_spaces_67 : decode cX11_spaces 67 = .ok (.if_icmp .ge 57, 3) := by decide +kernel
theorem dX11_spaces_70 : decode cX11_spaces 70 = .ok (.aload_n 0, 1) := by decide +kernel
theorem dX11_spaces_71 : decode cX11_spaces 71 = .ok (.invokevirtual 149, 3) := by decide +kernel
theorem dX11_spaces_74 : decode cX11_spaces 74 = .ok (.iconst (-1), 1) := by decide +kernel
theorem dX11_spaces_75 : decode cX11_spaces 75 = .ok (.if_icmp .eq 49, 3) := by decide +kernel
theorem dX11_spaces_78 : decode cX11_spaces 78 = .ok (.aload_n 0, 1) := by decide +kernel
theorem dX11_spaces_79 : decode cX11_spaces 79 = .ok (.invokevirtual 172, 3) := by decide +kernel
theorem dX11_spaces_82 : decode cX11_spaces 82 = .ok (.istore 5, 2) := by decide +kernel
theorem dX11_spaces_84 : decode cX11_spaces 84 = .ok (.aload_n 0, 1) := by decide +kernel
theorem dX11_spaces_85 : decode cX11_spaces 85 = .ok (.invokevirtual 145, 3) := by decide +kernel
theorem dX11_spaces_88 : decode cX11_spaces 88 = .ok (.ifCond .ne 6, 3) := by decide +kernel
theorem dX11_spaces_91 : decode cX11_spaces 91 = .ok (.goto (-34), 3) := by decide +kernel
theorem dX11_spaces_94 : decode cX11_spaces 94 = .ok (.aload_n 0, 1) := by decide +kernel
theorem dX11_spaces_95 : decode cX11_spaces 95 = .ok (.getfield 21, 3) := by decide +kernel
theorem dX11_spaces_98 : decode cX11_spaces 98 = .ok (.iload_n 3, 1) := by decide +kernel
theorem dX11_spaces_99 : decode cX11_spaces 99 = .ok (.iload 5, 2) := by decide +kernel
theorem dX11_spaces_101 : decode cX11_spaces 101 = .ok (.iastore, 1) := by decide +kernel
theorem dX11_spaces_102 : decode cX11_spaces 102 = .ok (.iload 4, 2) := by decide +kernel
theorem dX11_spaces_104 : decode cX11_spaces 104 = .ok (.iload 5, 2) := by decide +kernel
theorem dX11_spaces_106 : decode cX11_spaces 106 = .ok (.iconst (-1), 1) := by decide +kernel
theorem dX11_spaces_107 : decode cX11_spaces 107 = .ok (.if_icmp .ne 7, 3) := by decide +kernel
theorem dX11_spaces_110 : decode cX11_spaces 110 = .ok (.iconst 0, 1) := by decide +kernel
theorem dX11_spaces_111 : decode cX11_spaces 111 = .ok (.goto 4, 3) := by decide +kernel
theorem dX11_spaces_114 : decode cX11_spaces 114 = .ok (.iconst 1, 1) := by decide +kernel
theorem dX11_spaces_115 : decode cX11_spaces 115 = .ok (.iadd, 1) := by decide +kernel
theorem dX11_spaces_116 : decode cX11_spaces 116 = .ok (.istore 4, 2) := by decide +kernel
theorem dX11_spaces_118 : decode cX11_spaces 118 = .ok (.iinc 3 1, 3) := by decide +kernel
theorem dX11_spaces_121 : decode cX11_spaces 121 = .ok (.goto (-64), 3) := by decide +kernel
theorem dX11_spaces_124 : decode cX11_spaces 124 = .ok (.aload_n 0, 1) := by decide +kernel
theorem dX11_spaces_125 : decode cX11_spaces 125 = .ok (.invokevirtual 175, 3) := by decide +kernel
theorem dX11_spaces_128 : decode cX11_spaces 128 = .ok (.ifCond .ne 10, 3) := by decide +kernel
theorem dX11_spaces_131 : decode cX11_spaces 131 = .ok (.iconst (-1), 1) := by decide +kernel
theorem dX11_spaces_132 : decode cX11_spaces 132 = .ok (.aload_n 0, 1) := by decide +kernel
theorem dX11_spaces_133 : decode cX11_spaces 133 = .ok (.getfield 138, 3) := by decide +kernel
theorem dX11_spaces_136 : decode cX11_spaces 136 = .ok (.isub, 1) := by decide +kernel
theorem dX11_spaces_137 : decode cX11_spaces 137 = .ok (.ireturn, 1) := by decide +kernel
theorem dX11_spaces_138 : decode cX11_spaces 138 = .ok (.aload_n 0, 1) := by decide +kernel
theorem dX11_spaces_139 : decode cX11_spaces 139 = .ok (.getfield 9, 3) := by decide +kernel
theorem dX11_spaces_142 : decode cX11_spaces 142 = .ok (.invokestatic 178, 3) := by decide +kernel
theorem dX11_spaces_145 : decode cX11_spaces 145 = .ok (.istore 5, 2) := by decide +kernel
theorem dX11_spaces_147 : decode cX11_spaces 147 = .ok (.iload 5, 2) := by decide +kernel
theorem dX11_spaces_149 : decode cX11_spaces 149 = .ok (.iconst (-1), 1) := by decide +kernel
theorem dX11_spaces_150 : decode cX11_spaces 150 = .ok (.if_icmp .ne 6, 3) := by decide +kernel
theorem dX11_spaces_153 : decode cX11_spaces 153 = .ok (.bipush (-100), 2) := by decide +kernel
theorem dX11_spaces_155 : decode cX11_spaces 155 = .ok (.ireturn, 1) := by decide +kernel
theorem dX11_spaces_156 : decode cX11_spaces 156 = .ok (.aload_n 0, 1) := by decide +kernel
theorem dX11_spaces_157 : decode cX11_spaces 157 = .ok (.getfield 9, 3) := by decide +kernel
theorem dX11_spaces_160 : decode cX11_spaces 160 = .ok (.invokestatic 165, 3) := by decide +kernel
theorem dX11_spaces_163 : decode cX11_spaces 163 = .ok (.iconst (-1), 1) := by decide +kernel
theorem dX11_spaces_164 : decode cX11_spaces 164 = .ok (.if_icmp .ne 6, 3) := by decide +kernel
theorem dX11_spaces_167 : decode cX11_spaces 167 = .ok (.bipush (-101), 2) := by decide +kernel
theorem dX11_spaces_169 : decode cX11_spaces 169 = .ok (.ireturn, 1) := by decide +kernel
theorem dX11_spaces_170 : decode cX11_spaces 170 = .ok (.aload_n 0, 1) := by decide +kernel
theorem dX11_spaces_171 : decode cX11_spaces 171 = .ok (.getfield 9, 3) := by decide +kernel
theorem dX11_spaces_174 : decode cX11_spaces 174 = .ok (.invokestatic 181, 3) := by decide +kernel
theorem dX11_spaces_177 : decode cX11_spaces 177 = .ok (.iload 4, 2) := by decide +kernel
theorem dX11_spaces_179 : decode cX11_spaces 179 = .ok (.iadd, 1) := by decide +kernel
theorem dX11_spaces_180 : decode cX11_spaces 180 = .ok (.bipush 64, 2) := by decide +kernel
theorem dX11_spaces_182 : decode cX11_spaces 182 = .ok (.if_icmp .le 6, 3) := by decide +kernel
theorem dX11_spaces_185 : decode cX11_spaces 185 = .ok (.bipush (-102), 2) := by decide +kernel
theorem dX11_spaces_187 : decode cX11_spaces 187 = .ok (.ireturn, 1) := by decide +kernel
theorem dX11_spaces_188 : decode cX11_spaces 188 = .ok (.aload_n 0, 1) := by decide +kernel
theorem dX11_spaces_189 : decode cX11_spaces 189 = .ok (.aload_n 0, 1) := by decide +kernel
theorem dX11_spaces_190 : decode cX11_spaces 190 = .ok (.getfield 9, 3) := by decide +kernel
theorem dX11_spaces_193 : decode cX11_spaces 193 = .ok (.invokevirtual 184, 3) := by decide +kernel
theorem dX11_spaces_196 : decode cX11_spaces 196 = .ok (.aload_n 0, 1) := by decide +kernel
theorem dX11_spaces_197 : decode cX11_spaces 197 = .ok (.getfield 9, 3) := by decide +kernel
theorem dX11_spaces_200 : decode cX11_spaces 200 = .ok (.iload_n 1, 1) := by decide +kernel
theorem dX11_spaces_201 : decode cX11_spaces 201 = .ok (.iload_n 2, 1) := by decide +kernel
theorem dX11_spaces_202 : decode cX11_spaces 202 = .ok (.iconst (-1), 1) := by decide +kernel
theorem dX11_spaces_203 : decode cX11_spaces 203 = .ok (.invokestatic 188, 3) := by decide +kernel
theorem dX11_spaces_206 : decode cX11_spaces 206 = .ok (.istore 6, 2) := by decide +kernel
theorem dX11_spaces_208 : decode cX11_spaces 208 = .ok (.iconst 0, 1) := by decide +kernel
theorem dX11_spaces_209 : decode cX11_spaces 209 = .ok (.istore 7, 2) := by decide +kernel
theorem dX11_spaces_211 : decode cX11_spaces 211 = .ok (.iload 7, 2) := by decide +kernel
theorem dX11_spaces_213 : decode cX11_spaces 213 = .ok (.bipush 8, 2) := by decide +kernel
theorem dX11_spaces_215 : decode cX11_spaces 215 = .ok (.if_icmp .ge 29, 3) := by decide +kernel
theorem dX11_spaces_218 : decode cX11_spaces 218 = .ok (.aload_n 0, 1) := by decide +kernel
theorem dX11_spaces_219 : decode cX11_spaces 219 = .ok (.getfield 9, 3) := by decide +kernel
theorem dX11_spaces_222 : decode cX11_spaces 222 = .ok (.bipush 8, 2) := by decide +kernel
theorem dX11_spaces_224 : decode cX11_spaces 224 = .ok (.iload 6, 2) := by decide +kernel
theorem dX11_spaces_226 : decode cX11_spaces 226 = .ok (.imul, 1) := by decide +kernel
theorem dX11_spaces_227 : decode cX11_spaces 227 = .ok (.iload 7, 2) := by decide +kernel
theorem dX11_spaces_229 : decode cX11_spaces 229 = .ok (.iadd, 1) := by decide +kernel
theorem dX11_spaces_230 : decode cX11_spaces 230 = .ok (.aload_n 0, 1) := by decide +kernel
theorem dX11_spaces_231 : decode cX11_spaces 231 = .ok (.getfield 21, 3) := by decide +kernel
theorem dX11_spaces_234 : decode cX11_spaces 234 = .ok (.iload 7, 2) := by decide +kernel
theorem dX11_spaces_236 : decode cX11_spaces 236 = .ok (.iaload, 1) := by decide +kernel
theorem dX11_spaces_237 : decode cX11_spaces 237 = .ok (.iastore, 1) := by decide +kernel
theorem dX11_spaces_238 : decode cX11_spaces 238 = .ok (.iinc 7 1, 3) := by decide +kernel
theorem dX11_spaces_241 : decode cX11_spaces 241 = .ok (.goto (-30), 3) := by decide +kernel
theorem dX11_spaces_244 : decode cX11_spaces 244 = .ok (.aload_n 0, 1) := by decide +kernel
theorem dX11_spaces_245 : decode cX11_spaces 245 = .ok (.getfield 9, 3) := by decide +kernel
theorem dX11_spaces_248 : decode cX11_spaces 248 = .ok (.sipush 312, 3) := by decide +kernel
theorem dX11_spaces_251 : decode cX11_spaces 251 = .ok (.iload 5, 2) := by decide +kernel
theorem dX11_spaces_253 : decode cX11_spaces 253 = .ok (.iadd, 1) := by decide +kernel
theorem dX11_spaces_254 : decode cX11_spaces 254 = .ok (.iload 6, 2) := by decide +kernel
theorem dX11_spaces_256 : decode cX11_spaces 256 = .ok (.iastore, 1) := by decide +kernel
theorem dX11_spaces_257 : decode cX11_spaces 257 = .ok (.aload_n 0, 1) := by decide +kernel
theorem dX11_spaces_258 : decode cX11_spaces 258 = .ok (.getfield 9, 3) := by decide +kernel
theorem dX11_spaces_261 : decode cX11_spaces 261 = .ok (.sipush 318, 3) := by decide +kernel
theorem dX11_spaces_264 : decode cX11_spaces 264 = .ok (.iload 5, 2) := by decide +kernel
theorem dX11_spaces_266 : decode cX11_spaces 266 = .ok (.iadd, 1) := by decide +kernel
theorem dX11_spaces_267 : decode cX11_spaces 267 = .ok (.iconst 0, 1) := by decide +kernel
theorem dX11_spaces_268 : decode cX11_spaces 268 = .ok (.iastore, 1) := by decide +kernel
theorem dX11_spaces_269 : decode cX11_spaces 269 = .ok (.iload 5, 2) := by decide +kernel
theorem dX11_spaces_271 : decode cX11_spaces 271 = .ok (.ireturn, 1) := by decide +kernel
def fX11_spaces_L36 (k57 : AH → Nat → Int32 → Int32 → Int32 → Int32 → Option (Int32 × AH)) : Nat → AH → Nat → Int32 → Int32 → Int32 → Int32 → Int32 → Option (Int32 × AH)
  | 0, _, _, _, _, _, _, _ => none
  | n + 1, h, v0, v1, v2, v3, v4, v5 =>
    if 8 ≤ v5 then (
      k57 h v0 v1 v2 v3 v4
    ) else (
      (gR h 11 v0 11).bind fun x1 =>
      (sI h 0 x1 v5 ((-1))).bind fun h2 =>
      letF (v5 + 1 : Int32) fun x3 =>
      fX11_spaces_L36 k57 n h2 v0 v1 v2 v3 v4 x3
    )
def fX11_spaces_J115 (k57 : AH → Nat → Int32 → Int32 → Int32 → Int32 → Option (Int32 × AH)) (h : AH) (v0 : Nat) (v1 : Int32) (v2 : Int32) (v3 : Int32) (s0 : Int32) (s1 : Int32) : Option (Int32 × AH) :=
    letF (s1 + s0 : Int32) fun x4 =>
    letF (v3 + 1 : Int32) fun x5 =>
    k57 h v0 v1 v2 x5 x4
def fX11_spaces_L57 (k124 : AH → Nat → Int32 → Int32 → Int32 → Option (Int32 × AH)) : Nat → AH → Nat → Int32 → Int32 → Int32 → Int32 → Option (Int32 × AH)
  | 0, _, _, _, _, _, _ => none
  | n + 1, h, v0, v1, v2, v3, v4 =>
    (fX11_fine h v0).bind fun q6 =>
    if q6 = true then (
      if 8 ≤ v3 then (
        k124 h v0 v1 v2 v4
      ) else (
        (fX11_here h v0).bind fun q7 =>
        if q7 = ((-1)) then (
          k124 h v0 v1 v2 v4
        ) else (
          (fX11_valueOf h v0).bind fun q8 =>
          (fX11_fine q8.2 v0).bind fun q9 =>
          if q9 = true then (
            (gR q8.2 11 v0 11).bind fun x10 =>
            (sI q8.2 0 x10 v3 q8.1).bind fun h11 =>
            if q8.1 = ((-1)) then (
              fX11_spaces_J115 (fX11_spaces_L57 k124 n) h11 v0 v1 v2 v3 0 v4
            ) else (
              fX11_spaces_J115 (fX11_spaces_L57 k124 n) h11 v0 v1 v2 v3 1 v4
            )
          ) else (
            fX11_spaces_L57 k124 n q8.2 v0 v1 v2 v3 v4
          )
        )
      )
    ) else (
      k124 h v0 v1 v2 v4
    )
def fX11_spaces_L211 (k244 : AH → Nat → Int32 → Int32 → Option (Int32 × AH)) : Nat → AH → Nat → Int32 → Int32 → Int32 → Option (Int32 × AH)
  | 0, _, _, _, _, _ => none
  | n + 1, h, v0, v5, v6, v7 =>
    if 8 ≤ v7 then (
      k244 h v0 v5 v6
    ) else (
      (gR h 11 v0 0).bind fun x12 =>
      (gR h 11 v0 11).bind fun x13 =>
      (aI h 0 x13 v7).bind fun x14 =>
      (sI h 0 x12 ((8 * v6) + v7) x14).bind fun h15 =>
      letF (v7 + 1 : Int32) fun x16 =>
      fX11_spaces_L211 k244 n h15 v0 v5 v6 x16
    )
def fX11_spaces_J124 (h : AH) (v0 : Nat) (v1 : Int32) (v2 : Int32) (v4 : Int32) : Option (Int32 × AH) :=
    (fX11_wasRight h v0).bind fun q17 =>
    if q17.1 = true then (
      (gR q17.2 11 v0 0).bind fun x18 =>
      (fX11_freeSpace q17.2 x18).bind fun q19 =>
      if q19 = ((-1)) then (
        some (((-100), q17.2))
      ) else (
        (gR q17.2 11 v0 0).bind fun x20 =>
        (fX11_freeObject q17.2 x20).bind fun q21 =>
        if q21 = ((-1)) then (
          some (((-101), q17.2))
        ) else (
          (gR q17.2 11 v0 0).bind fun x22 =>
          (fX11_framesOf q17.2 x22).bind fun q23 =>
          if (q23 + v4) ≤ 64 then (
            (gR q17.2 11 v0 0).bind fun x24 =>
            (fX11_remember q17.2 v0 x24).bind fun q25 =>
            (gR q25 11 v0 0).bind fun x26 =>
            (fX11_comes q25 x26 v1 v2 ((-1))).bind fun q27 =>
            fX11_spaces_L211
              (fun h31 x28 x29 x30 =>
                (gR h31 11 x28 0).bind fun x32 =>
                (sI h31 0 x32 (312 + x29) x30).bind fun h33 =>
                (gR h33 11 x28 0).bind fun x34 =>
                (sI h33 0 x34 (318 + x29) 0).bind fun h35 =>
                some ((x29, h35)))
              FU q27.2 v0 q19 q27.1 0
          ) else (
            some (((-102), q17.2))
          )
        )
      )
    ) else (
      (gI q17.2 11 v0 10).bind fun x36 =>
      some ((((-1)) - x36, q17.2))
    )
def fX11_spaces (h : AH) (a0 : Nat) : Option (Int32 × AH) :=
  if hasC h 11 a0 = true then (
    (pF h 11 a0 5 (.int 0)).bind fun h37 =>
    (fX11_beginText h37 a0 18).bind fun q38 =>
    (fX11_oneOf q38 a0 48 4).bind fun q39 =>
    (fX11_oneOf q39.2 a0 48 10).bind fun q40 =>
    fX11_spaces_L36
      (fun h46 x41 x42 x43 x44 x45 =>
        fX11_spaces_L57
          (fun h51 x47 x48 x49 x50 =>
            fX11_spaces_J124 h51 x47 x48 x49 x50)
          FU h46 x41 x42 x43 x44 x45)
      FU q40.2 a0 q39.1 q40.1 0 0 0
  ) else none
set_option maxHeartbeats 4000000 in
theorem gX11_spaces_L36 {Y : YT} {X : XT} (C : CT Y X RX11 cX11_spaces 8) (O : RO X 5 0 0) {r : Int32 × AH} (E : RX Y X (some .int) (some (.int r.1)) r.2 0 0) {k57 : AH → Nat → Int32 → Int32 → Int32 → Int32 → Option (Int32 × AH)} (hk57 : ∀ (h : AH) (v0 : Nat) (v1 : Int32) (v2 : Int32) (v3 : Int32) (v4 : Int32), GO Y X 8 r h 0 0 57 [(0, .ref v0), (1, .int v1), (2, .int v2), (3, .int v3), (4, .int v4)] [] (k57 h v0 v1 v2 v3 v4)) : ∀ (n : Nat) (h : AH) (v0 : Nat) (v1 : Int32) (v2 : Int32) (v3 : Int32) (v4 : Int32) (v5 : Int32), GO Y X 8 r h 0 0 36 [(0, .ref v0), (1, .int v1), (2, .int v2), (3, .int v3), (4, .int v4), (5, .int v5)] [] (fX11_spaces_L36 k57 n h v0 v1 v2 v3 v4 v5) := by
  intro n
  induction n with
  | zero => intros; exact go_none _ _ _
  | succ n ih =>
    intro h v0 v1 v2 v3 v4 v5
    rw [fX11_spaces_L36]
    refine go_iload (pc := 36) C 5 dX11_spaces_36 rfl ?_
    refine go_bipush (pc := 38) C dX11_spaces_38 kb_8 ?_
    refine go_icmp_ge (pc := 40) C 57 dX11_spaces_40 (by decide) (fun _ => ?_) (fun _ => ?_)
    · refine go_sub (ls' := [(0, .ref v0), (1, .int v1), (2, .int v2), (3, .int v3), (4, .int v4)]) [0, 1, 2, 3, 4] rfl ?_
      exact hk57 h v0 v1 v2 v3 v4
    · refine go_aload_n (pc := 43) C 0 dX11_spaces_43 rfl ?_
      refine go_gR (pc := 44) C fdX11_21 dX11_spaces_44 (fun x1 => ?_)
      refine go_iload (pc := 47) C 5 dX11_spaces_47 rfl ?_
      refine go_iconst (pc := 49) C dX11_spaces_49 ki_m1 ?_
      refine go_iast (pc := 50) C dX11_spaces_50 (fun h2 => ?_)
      refine go_iincL (pc := 51) C 5 dX11_spaces_51 rfl ki_1 (by decide) (fun x3 => [(5, .int x3), (0, .ref v0), (1, .int v1), (2, .int v2), (3, .int v3), (4, .int v4)]) (fun _ => rfl) (fun x3 => ?_)
      refine go_goto (pc := 54) C 36 dX11_spaces_54 (by decide) ?_
      refine go_sub (ls' := [(0, .ref v0), (1, .int v1), (2, .int v2), (3, .int v3), (4, .int v4), (5, .int x3)]) [1, 2, 3, 4, 5, 0] rfl ?_
      exact ih h2 v0 v1 v2 v3 v4 x3
set_option maxHeartbeats 4000000 in
theorem gX11_spaces_J115 {Y : YT} {X : XT} (C : CT Y X RX11 cX11_spaces 8) (O : RO X 5 0 0) {r : Int32 × AH} (E : RX Y X (some .int) (some (.int r.1)) r.2 0 0) {k57 : AH → Nat → Int32 → Int32 → Int32 → Int32 → Option (Int32 × AH)} (hk57 : ∀ (h : AH) (v0 : Nat) (v1 : Int32) (v2 : Int32) (v3 : Int32) (v4 : Int32), GO Y X 8 r h 0 0 57 [(0, .ref v0), (1, .int v1), (2, .int v2), (3, .int v3), (4, .int v4)] [] (k57 h v0 v1 v2 v3 v4)) : ∀ (h : AH) (v0 : Nat) (v1 : Int32) (v2 : Int32) (v3 : Int32) (s0 : Int32) (s1 : Int32), GO Y X 8 r h 0 0 115 [(0, .ref v0), (1, .int v1), (2, .int v2), (3, .int v3)] [.int s0, .int s1] (fX11_spaces_J115 k57 h v0 v1 v2 v3 s0 s1) := by
  intro h v0 v1 v2 v3 s0 s1
  unfold fX11_spaces_J115
  refine go_iadd (pc := 115) C dX11_spaces_115 ?_
  refine go_istoreL (pc := 116) C dX11_spaces_116 (by decide) (fun x4 => [(4, .int x4), (0, .ref v0), (1, .int v1), (2, .int v2), (3, .int v3)]) (fun _ => rfl) (fun x4 => ?_)
  refine go_iincL (pc := 118) C 4 dX11_spaces_118 rfl ki_1 (by decide) (fun x5 => [(3, .int x5), (4, .int x4), (0, .ref v0), (1, .int v1), (2, .int v2)]) (fun _ => rfl) (fun x5 => ?_)
  refine go_goto (pc := 121) C 57 dX11_spaces_121 (by decide) ?_
  refine go_sub (ls' := [(0, .ref v0), (1, .int v1), (2, .int v2), (3, .int x5), (4, .int x4)]) [2, 3, 4, 0, 1] rfl ?_
  exact hk57 h v0 v1 v2 x5 x4
set_option maxHeartbeats 4000000 in
theorem gX11_spaces_L57 {Y : YT} {X : XT} (C : CT Y X RX11 cX11_spaces 8) (O : RO X 5 0 0) {r : Int32 × AH} (E : RX Y X (some .int) (some (.int r.1)) r.2 0 0) {k124 : AH → Nat → Int32 → Int32 → Int32 → Option (Int32 × AH)} (hk124 : ∀ (h : AH) (v0 : Nat) (v1 : Int32) (v2 : Int32) (v4 : Int32), GO Y X 8 r h 0 0 124 [(0, .ref v0), (1, .int v1), (2, .int v2), (4, .int v4)] [] (k124 h v0 v1 v2 v4)) : ∀ (n : Nat) (h : AH) (v0 : Nat) (v1 : Int32) (v2 : Int32) (v3 : Int32) (v4 : Int32), GO Y X 8 r h 0 0 57 [(0, .ref v0), (1, .int v1), (2, .int v2), (3, .int v3), (4, .int v4)] [] (fX11_spaces_L57 k124 n h v0 v1 v2 v3 v4) := by
  intro n
  induction n with
  | zero => intros; exact go_none _ _ _
  | succ n ih =>
    intro h v0 v1 v2 v3 v4
    rw [fX11_spaces_L57]
    refine go_aload_n (pc := 57) C 0 dX11_spaces_57 rfl ?_
    refine go_bind (fun q6 hq6 => ?_)
    refine go_callV (rest := []) (st' := [.int (b2i q6)]) (c' := 0) (s' := 0) (pc := 58) C O miX11_145 mvX11_fine [] rfl (mX11_fine hq6).1 (mX11_fine hq6).2 dX11_spaces_58 ⟨by decide, by decide, by decide, by decide⟩ rfl (Nat.le_of_ble_eq_true rfl) rfl ⟨rfl, rfl⟩ ?_
    refine go_ifZ_eq (pc := 61) C 124 dX11_spaces_61 (by decide) (fun _ => ?_) (fun _ => ?_)
    · refine go_iload_n (pc := 64) C 3 dX11_spaces_64 rfl ?_
      refine go_bipush (pc := 65) C dX11_spaces_65 kb_8 ?_
      refine go_icmp_ge (pc := 67) C 124 dX11_spaces_67 (by decide) (fun _ => ?_) (fun _ => ?_)
      · refine go_sub (ls' := [(0, .ref v0), (1, .int v1), (2, .int v2), (4, .int v4)]) [0, 1, 2, 4] rfl ?_
        exact hk124 h v0 v1 v2 v4
      · refine go_aload_n (pc := 70) C 0 dX11_spaces_70 rfl ?_
        refine go_bind (fun q7 hq7 => ?_)
        refine go_callV (rest := []) (st' := [.int q7]) (c' := 0) (s' := 0) (pc := 71) C O miX11_149 mvX11_here [] rfl (mX11_here hq7).1 (mX11_here hq7).2 dX11_spaces_71 ⟨by decide, by decide, by decide, by decide⟩ rfl (Nat.le_of_ble_eq_true rfl) rfl ⟨rfl, rfl⟩ ?_
        refine go_iconst (pc := 74) C dX11_spaces_74 ki_m1 ?_
        refine go_icmp_eq (pc := 75) C 124 dX11_spaces_75 (by decide) (fun _ => ?_) (fun _ => ?_)
        · refine go_sub (ls' := [(0, .ref v0), (1, .int v1), (2, .int v2), (4, .int v4)]) [0, 1, 2, 4] rfl ?_
          exact hk124 h v0 v1 v2 v4
        · refine go_aload_n (pc := 78) C 0 dX11_spaces_78 rfl ?_
          refine go_bind (fun q8 hq8 => ?_)
          refine go_callV (rest := []) (st' := [.int q8.1]) (c' := 0) (s' := 0) (pc := 79) C O miX11_172 mvX11_valueOf [] rfl (mX11_valueOf hq8).1 (mX11_valueOf hq8).2 dX11_spaces_79 ⟨by decide, by decide, by decide, by decide⟩ rfl (Nat.le_of_ble_eq_true rfl) rfl ⟨rfl, rfl⟩ ?_
          refine go_istore (ls' := [(5, .int q8.1), (0, .ref v0), (1, .int v1), (2, .int v2), (3, .int v3), (4, .int v4)]) (pc := 82) C dX11_spaces_82 (by decide) rfl ?_
          refine go_aload_n (pc := 84) C 1 dX11_spaces_84 rfl ?_
          refine go_bind (fun q9 hq9 => ?_)
          refine go_callV (rest := []) (st' := [.int (b2i q9)]) (c' := 0) (s' := 0) (pc := 85) C O miX11_145 mvX11_fine [] rfl (mX11_fine hq9).1 (mX11_fine hq9).2 dX11_spaces_85 ⟨by decide, by decide, by decide, by decide⟩ rfl (Nat.le_of_ble_eq_true rfl) rfl ⟨rfl, rfl⟩ ?_
          refine go_ifZ_ne (pc := 88) C 94 dX11_spaces_88 (by decide) (fun _ => ?_) (fun _ => ?_)
          · refine go_aload_n (pc := 94) C 1 dX11_spaces_94 rfl ?_
            refine go_gR (pc := 95) C fdX11_21 dX11_spaces_95 (fun x10 => ?_)
            refine go_iload_n (pc := 98) C 4 dX11_spaces_98 rfl ?_
            refine go_iload (pc := 99) C 0 dX11_spaces_99 rfl ?_
            refine go_iast (pc := 101) C dX11_spaces_101 (fun h11 => ?_)
            refine go_iload (pc := 102) C 5 dX11_spaces_102 rfl ?_
            refine go_iload (pc := 104) C 0 dX11_spaces_104 rfl ?_
            refine go_iconst (pc := 106) C dX11_spaces_106 ki_m1 ?_
            refine go_icmp_ne (pc := 107) C 114 dX11_spaces_107 (by decide) (fun _ => ?_) (fun _ => ?_)
            · refine go_iconst (pc := 110) C dX11_spaces_110 ki_0 ?_
              refine go_goto (pc := 111) C 115 dX11_spaces_111 (by decide) ?_
              refine go_sub (ls' := [(0, .ref v0), (1, .int v1), (2, .int v2), (3, .int v3)]) [1, 2, 3, 4] rfl ?_
              refine gX11_spaces_J115 C O E (ih) h11 v0 v1 v2 v3 0 v4
            · refine go_iconst (pc := 114) C dX11_spaces_114 ki_1 ?_
              refine go_sub (ls' := [(0, .ref v0), (1, .int v1), (2, .int v2), (3, .int v3)]) [1, 2, 3, 4] rfl ?_
              refine gX11_spaces_J115 C O E (ih) h11 v0 v1 v2 v3 1 v4
          · refine go_goto (pc := 91) C 57 dX11_spaces_91 (by decide) ?_
            refine go_sub (ls' := [(0, .ref v0), (1, .int v1), (2, .int v2), (3, .int v3), (4, .int v4)]) [1, 2, 3, 4, 5] rfl ?_
            exact ih q8.2 v0 v1 v2 v3 v4
    · refine go_sub (ls' := [(0, .ref v0), (1, .int v1), (2, .int v2), (4, .int v4)]) [0, 1, 2, 4] rfl ?_
      exact hk124 h v0 v1 v2 v4
set_option maxHeartbeats 4000000 in
theorem gX11_spaces_L211 {Y : YT} {X : XT} (C : CT Y X RX11 cX11_spaces 8) (O : RO X 5 0 0) {r : Int32 × AH} (E : RX Y X (some .int) (some (.int r.1)) r.2 0 0) {k244 : AH → Nat → Int32 → Int32 → Option (Int32 × AH)} (hk244 : ∀ (h : AH) (v0 : Nat) (v5 : Int32) (v6 : Int32), GO Y X 8 r h 0 0 244 [(0, .ref v0), (5, .int v5), (6, .int v6)] [] (k244 h v0 v5 v6)) : ∀ (n : Nat) (h : AH) (v0 : Nat) (v5 : Int32) (v6 : Int32) (v7 : Int32), GO Y X 8 r h 0 0 211 [(0, .ref v0), (5, .int v5), (6, .int v6), (7, .int v7)] [] (fX11_spaces_L211 k244 n h v0 v5 v6 v7) := by
  intro n
  induction n with
  | zero => intros; exact go_none _ _ _
  | succ n ih =>
    intro h v0 v5 v6 v7
    rw [fX11_spaces_L211]
    refine go_iload (pc := 211) C 3 dX11_spaces_211 rfl ?_
    refine go_bipush (pc := 213) C dX11_spaces_213 kb_8 ?_
    refine go_icmp_ge (pc := 215) C 244 dX11_spaces_215 (by decide) (fun _ => ?_) (fun _ => ?_)
    · refine go_sub (ls' := [(0, .ref v0), (5, .int v5), (6, .int v6)]) [0, 1, 2] rfl ?_
      exact hk244 h v0 v5 v6
    · refine go_aload_n (pc := 218) C 0 dX11_spaces_218 rfl ?_
      refine go_gR (pc := 219) C fdX11_9 dX11_spaces_219 (fun x12 => ?_)
      refine go_bipush (pc := 222) C dX11_spaces_222 kb_8 ?_
      refine go_iload (pc := 224) C 2 dX11_spaces_224 rfl ?_
      refine go_imul (pc := 226) C dX11_spaces_226 ?_
      refine go_iload (pc := 227) C 3 dX11_spaces_227 rfl ?_
      refine go_iadd (pc := 229) C dX11_spaces_229 ?_
      refine go_aload_n (pc := 230) C 0 dX11_spaces_230 rfl ?_
      refine go_gR (pc := 231) C fdX11_21 dX11_spaces_231 (fun x13 => ?_)
      refine go_iload (pc := 234) C 3 dX11_spaces_234 rfl ?_
      refine go_iald (pc := 236) C dX11_spaces_236 (fun x14 => ?_)
      refine go_iast (pc := 237) C dX11_spaces_237 (fun h15 => ?_)
      refine go_iincL (pc := 238) C 3 dX11_spaces_238 rfl ki_1 (by decide) (fun x16 => [(7, .int x16), (0, .ref v0), (5, .int v5), (6, .int v6)]) (fun _ => rfl) (fun x16 => ?_)
      refine go_goto (pc := 241) C 211 dX11_spaces_241 (by decide) ?_
      refine go_sub (ls' := [(0, .ref v0), (5, .int v5), (6, .int v6), (7, .int x16)]) [1, 2, 3, 0] rfl ?_
      exact ih h15 v0 v5 v6 x16
set_option maxHeartbeats 4000000 in
theorem gX11_spaces_J124 {Y : YT} {X : XT} (C : CT Y X RX11 cX11_spaces 8) (O : RO X 5 0 0) {r : Int32 × AH} (E : RX Y X (some .int) (some (.int r.1)) r.2 0 0) : ∀ (h : AH) (v0 : Nat) (v1 : Int32) (v2 : Int32) (v4 : Int32), GO Y X 8 r h 0 0 124 [(0, .ref v0), (1, .int v1), (2, .int v2), (4, .int v4)] [] (fX11_spaces_J124 h v0 v1 v2 v4) := by
  intro h v0 v1 v2 v4
  unfold fX11_spaces_J124
  refine go_aload_n (pc := 124) C 0 dX11_spaces_124 rfl ?_
  refine go_bind (fun q17 hq17 => ?_)
  refine go_callV (rest := []) (st' := [.int (b2i q17.1)]) (c' := 0) (s' := 0) (pc := 125) C O miX11_175 mvX11_wasRight [] rfl (mX11_wasRight hq17).1 (mX11_wasRight hq17).2 dX11_spaces_125 ⟨by decide, by decide, by decide, by decide⟩ rfl (Nat.le_of_ble_eq_true rfl) rfl ⟨rfl, rfl⟩ ?_
  refine go_ifZ_ne (pc := 128) C 138 dX11_spaces_128 (by decide) (fun _ => ?_) (fun _ => ?_)
  · refine go_aload_n (pc := 138) C 0 dX11_spaces_138 rfl ?_
    refine go_gR (pc := 139) C fdX11_9 dX11_spaces_139 (fun x18 => ?_)
    refine go_bind (fun q19 hq19 => ?_)
    refine go_callS (rest := []) (st' := [.int q19]) (c' := 0) (s' := 0) (pc := 142) C O miX11_178 w_1476 [.ref x18] rfl (mX11_freeSpace hq19) dX11_spaces_142 ⟨by decide, by decide, by decide, by decide⟩ rfl (Nat.le_of_ble_eq_true rfl) rfl ⟨rfl, rfl⟩ ?_
    refine go_istore (ls' := [(5, .int q19), (0, .ref v0), (1, .int v1), (2, .int v2), (4, .int v4)]) (pc := 145) C dX11_spaces_145 (by decide) rfl ?_
    refine go_iload (pc := 147) C 0 dX11_spaces_147 rfl ?_
    refine go_iconst (pc := 149) C dX11_spaces_149 ki_m1 ?_
    refine go_icmp_ne (pc := 150) C 156 dX11_spaces_150 (by decide) (fun _ => ?_) (fun _ => ?_)
    · refine go_bipush (pc := 153) C dX11_spaces_153 kb_m100 ?_
      exact go_iret (w := wIh) (pc := 155) C E (((-100), q17.2)) ((-100)) dX11_spaces_155 rfl
    · refine go_aload_n (pc := 156) C 1 dX11_spaces_156 rfl ?_
      refine go_gR (pc := 157) C fdX11_9 dX11_spaces_157 (fun x20 => ?_)
      refine go_bind (fun q21 hq21 => ?_)
      refine go_callS (rest := []) (st' := [.int q21]) (c' := 0) (s' := 0) (pc := 160) C O miX11_165 w_1482 [.ref x20] rfl (mX11_freeObject hq21) dX11_spaces_160 ⟨by decide, by decide, by decide, by decide⟩ rfl (Nat.le_of_ble_eq_true rfl) rfl ⟨rfl, rfl⟩ ?_
      refine go_iconst (pc := 163) C dX11_spaces_163 ki_m1 ?_
      refine go_icmp_ne (pc := 164) C 170 dX11_spaces_164 (by decide) (fun _ => ?_) (fun _ => ?_)
      · refine go_bipush (pc := 167) C dX11_spaces_167 kb_m101 ?_
        exact go_iret (w := wIh) (pc := 169) C E (((-101), q17.2)) ((-101)) dX11_spaces_169 rfl
      · refine go_aload_n (pc := 170) C 1 dX11_spaces_170 rfl ?_
        refine go_gR (pc := 171) C fdX11_9 dX11_spaces_171 (fun x22 => ?_)
        refine go_bind (fun q23 hq23 => ?_)
        refine go_callS (rest := []) (st' := [.int q23]) (c' := 0) (s' := 0) (pc := 174) C O miX11_181 w_1488 [.ref x22] rfl (mX11_framesOf hq23) dX11_spaces_174 ⟨by decide, by decide, by decide, by decide⟩ rfl (Nat.le_of_ble_eq_true rfl) rfl ⟨rfl, rfl⟩ ?_
        refine go_iload (pc := 177) C 4 dX11_spaces_177 rfl ?_
        refine go_iadd (pc := 179) C dX11_spaces_179 ?_
        refine go_bipush (pc := 180) C dX11_spaces_180 kb_64 ?_
        refine go_icmp_le (pc := 182) C 188 dX11_spaces_182 (by decide) (fun _ => ?_) (fun _ => ?_)
        · refine go_aload_n (pc := 188) C 1 dX11_spaces_188 rfl ?_
          refine go_aload_n (pc := 189) C 1 dX11_spaces_189 rfl ?_
          refine go_gR (pc := 190) C fdX11_9 dX11_spaces_190 (fun x24 => ?_)
          refine go_bind (fun q25 hq25 => ?_)
          refine go_callV (rest := []) (st' := []) (c' := 0) (s' := 0) (pc := 193) C O miX11_184 mvX11_remember [.ref x24] rfl (mX11_remember hq25).1 (mX11_remember hq25).2 dX11_spaces_193 ⟨by decide, by decide, by decide, by decide⟩ rfl (Nat.le_of_ble_eq_true rfl) rfl ⟨rfl, rfl⟩ ?_
          refine go_aload_n (pc := 196) C 1 dX11_spaces_196 rfl ?_
          refine go_gR (pc := 197) C fdX11_9 dX11_spaces_197 (fun x26 => ?_)
          refine go_iload_n (pc := 200) C 2 dX11_spaces_200 rfl ?_
          refine go_iload_n (pc := 201) C 3 dX11_spaces_201 rfl ?_
          refine go_iconst (pc := 202) C dX11_spaces_202 ki_m1 ?_
          refine go_bind (fun q27 hq27 => ?_)
          refine go_callS (rest := []) (st' := [.int q27.1]) (c' := 0) (s' := 0) (pc := 203) C O miX11_188 w_1505 [.ref x26, .int v1, .int v2, .int ((-1))] rfl (mX11_comes hq27) dX11_spaces_203 ⟨by decide, by decide, by decide, by decide⟩ rfl (Nat.le_of_ble_eq_true rfl) rfl ⟨rfl, rfl⟩ ?_
          refine go_istore (ls' := [(6, .int q27.1), (5, .int q19), (0, .ref v0), (1, .int v1), (2, .int v2), (4, .int v4)]) (pc := 206) C dX11_spaces_206 (by decide) rfl ?_
          refine go_iconst (pc := 208) C dX11_spaces_208 ki_0 ?_
          refine go_istore (ls' := [(7, .int 0), (6, .int q27.1), (5, .int q19), (0, .ref v0), (1, .int v1), (2, .int v2), (4, .int v4)]) (pc := 209) C dX11_spaces_209 (by decide) rfl ?_
          refine go_sub (ls' := [(0, .ref v0), (5, .int q19), (6, .int q27.1), (7, .int 0)]) [3, 2, 1, 0] rfl ?_
          refine gX11_spaces_L211 C O E (fun h31 x28 x29 x30 => ?_) FU q27.2 v0 q19 q27.1 0
          · refine go_aload_n (pc := 244) C 0 dX11_spaces_244 rfl ?_
            refine go_gR (pc := 245) C fdX11_9 dX11_spaces_245 (fun x32 => ?_)
            refine go_sipush (pc := 248) C dX11_spaces_248 ks_312 ?_
            refine go_iload (pc := 251) C 1 dX11_spaces_251 rfl ?_
            refine go_iadd (pc := 253) C dX11_spaces_253 ?_
            refine go_iload (pc := 254) C 2 dX11_spaces_254 rfl ?_
            refine go_iast (pc := 256) C dX11_spaces_256 (fun h33 => ?_)
            refine go_aload_n (pc := 257) C 0 dX11_spaces_257 rfl ?_
            refine go_gR (pc := 258) C fdX11_9 dX11_spaces_258 (fun x34 => ?_)
            refine go_sipush (pc := 261) C dX11_spaces_261 ks_318 ?_
            refine go_iload (pc := 264) C 1 dX11_spaces_264 rfl ?_
            refine go_iadd (pc := 266) C dX11_spaces_266 ?_
            refine go_iconst (pc := 267) C dX11_spaces_267 ki_0 ?_
            refine go_iast (pc := 268) C dX11_spaces_268 (fun h35 => ?_)
            refine go_iload (pc := 269) C 1 dX11_spaces_269 rfl ?_
            exact go_iret (w := wIh) (pc := 271) C E ((x29, h35)) x29 dX11_spaces_271 rfl
        · refine go_bipush (pc := 185) C dX11_spaces_185 kb_m102 ?_
          exact go_iret (w := wIh) (pc := 187) C E (((-102), q17.2)) ((-102)) dX11_spaces_187 rfl
  · refine go_iconst (pc := 131) C dX11_spaces_131 ki_m1 ?_
    refine go_aload_n (pc := 132) C 0 dX11_spaces_132 rfl ?_
    refine go_gI (pc := 133) C fdX11_138 dX11_spaces_133 (fun x36 => ?_)
    refine go_isub (pc := 136) C dX11_spaces_136 ?_
    exact go_iret (w := wIh) (pc := 137) C E ((((-1)) - x36, q17.2)) (((-1)) - x36) dX11_spaces_137 rfl
set_option maxHeartbeats 4000000 in
theorem mX11_spaces {h : AH} {a0 : Nat} {r : Int32 × AH} (hr : fX11_spaces h a0 = some r) : hasC h 11 a0 = true ∧ MC yX11_spaces cX11_spaces 8 (some .int) 5 0 0 [.ref a0] h (some (.int r.1)) r.2 := by
  unfold fX11_spaces at hr
  obtain ⟨hc, hr⟩ := if_some hr
  refine ⟨hc, mc_of (l0 := [(0, .ref a0)]) rfl pn_X11 (Nat.le_of_ble_eq_true rfl) (fun Y X C E O hnm => go_run hr ?_)⟩
  have C : CT Y X RX11 cX11_spaces 8 := C
  refine go_aload_n (pc := 0) C 0 dX11_spaces_0 rfl ?_
  refine go_iconst (pc := 1) C dX11_spaces_1 ki_0 ?_
  refine go_pI (pc := 2) C fpX11_77 dX11_spaces_2 (fun h37 => ?_)
  refine go_aload_n (pc := 5) C 0 dX11_spaces_5 rfl ?_
  refine go_bipush (pc := 6) C dX11_spaces_6 kb_18 ?_
  refine go_bind (fun q38 hq38 => ?_)
  refine go_callV (rest := []) (st' := []) (c' := 0) (s' := 0) (pc := 8) C O miX11_169 mvX11_beginText [.int 18] rfl (mX11_beginText hq38).1 (mX11_beginText hq38).2 dX11_spaces_8 ⟨by decide, by decide, by decide, by decide⟩ rfl (Nat.le_of_ble_eq_true rfl) rfl ⟨rfl, rfl⟩ ?_
  refine go_aload_n (pc := 11) C 0 dX11_spaces_11 rfl ?_
  refine go_bipush (pc := 12) C dX11_spaces_12 kb_48 ?_
  refine go_iconst (pc := 14) C dX11_spaces_14 ki_4 ?_
  refine go_bind (fun q39 hq39 => ?_)
  refine go_callV (rest := []) (st' := [.int q39.1]) (c' := 0) (s' := 0) (pc := 15) C O miX11_161 mvX11_oneOf [.int 48, .int 4] rfl (mX11_oneOf hq39).1 (mX11_oneOf hq39).2 dX11_spaces_15 ⟨by decide, by decide, by decide, by decide⟩ rfl (Nat.le_of_ble_eq_true rfl) rfl ⟨rfl, rfl⟩ ?_
  refine go_istore_n (ls' := [(1, .int q39.1), (0, .ref a0)]) (pc := 18) C dX11_spaces_18 (by decide) rfl ?_
  refine go_aload_n (pc := 19) C 1 dX11_spaces_19 rfl ?_
  refine go_bipush (pc := 20) C dX11_spaces_20 kb_48 ?_
  refine go_bipush (pc := 22) C dX11_spaces_22 kb_10 ?_
  refine go_bind (fun q40 hq40 => ?_)
  refine go_callV (rest := []) (st' := [.int q40.1]) (c' := 0) (s' := 0) (pc := 24) C O miX11_161 mvX11_oneOf [.int 48, .int 10] rfl (mX11_oneOf hq40).1 (mX11_oneOf hq40).2 dX11_spaces_24 ⟨by decide, by decide, by decide, by decide⟩ rfl (Nat.le_of_ble_eq_true rfl) rfl ⟨rfl, rfl⟩ ?_
  refine go_istore_n (ls' := [(2, .int q40.1), (1, .int q39.1), (0, .ref a0)]) (pc := 27) C dX11_spaces_27 (by decide) rfl ?_
  refine go_iconst (pc := 28) C dX11_spaces_28 ki_0 ?_
  refine go_istore_n (ls' := [(3, .int 0), (2, .int q40.1), (1, .int q39.1), (0, .ref a0)]) (pc := 29) C dX11_spaces_29 (by decide) rfl ?_
  refine go_iconst (pc := 30) C dX11_spaces_30 ki_0 ?_
  refine go_istore (ls' := [(4, .int 0), (3, .int 0), (2, .int q40.1), (1, .int q39.1), (0, .ref a0)]) (pc := 31) C dX11_spaces_31 (by decide) rfl ?_
  refine go_iconst (pc := 33) C dX11_spaces_33 ki_0 ?_
  refine go_istore (ls' := [(5, .int 0), (4, .int 0), (3, .int 0), (2, .int q40.1), (1, .int q39.1), (0, .ref a0)]) (pc := 34) C dX11_spaces_34 (by decide) rfl ?_
  refine go_sub (ls' := [(0, .ref a0), (1, .int q39.1), (2, .int q40.1), (3, .int 0), (4, .int 0), (5, .int 0)]) [5, 4, 3, 2, 1, 0] rfl ?_
  refine gX11_spaces_L36 C O E (fun h46 x41 x42 x43 x44 x45 => ?_) FU q40.2 a0 q39.1 q40.1 0 0 0
  · refine go_sub (ls' := [(0, .ref x41), (1, .int x42), (2, .int x43), (3, .int x44), (4, .int x45)]) [0, 1, 2, 3, 4] rfl ?_
    refine gX11_spaces_L57 C O E (fun h51 x47 x48 x49 x50 => ?_) FU h46 x41 x42 x43 x44 x45
    · refine go_sub (ls' := [(0, .ref x47), (1, .int x48), (2, .int x49), (4, .int x50)]) [0, 1, 2, 3] rfl ?_
      refine gX11_spaces_J124 C O E h51 x47 x48 x49 x50
theorem dX11_letterOf_0 : decode cX11_letterOf 0 = .ok (.iload_n 0, 1) := by decide +kernel
theorem dX11_letterOf_1 : decode cX11_letterOf 1 = .ok (.bipush 110, 2) := by decide +kernel
theorem dX11_letterOf_3 : decode cX11_letterOf 3 = .ok (.if_icmp .ne 7, 3) := by decide +kernel
theorem dX11_letterOf_6 : decode cX11_letterOf 6 = .ok (.iconst 0, 1) := by decide +kernel
theorem dX11_letterOf_7 : decode cX11_letterOf 7 = .ok (.goto 65, 3) := by decide +kernel
theorem dX11_letterOf_10 : decode cX11_letterOf 10 = .ok (.iload_n 0, 1) := by decide +kernel
theorem dX11_letterOf_11 : decode cX11_letterOf 11 = .ok (.bipush 102, 2) := by decide +kernel
theorem dX11_letterOf_13 : decode cX11_letterOf 13 = .ok (.if_icmp .ne 7, 3) := by decide +kernel
theorem dX11_letterOf_16 : decode cX11_letterOf 16 = .ok (.iconst 1, 1) := by decide +kernel
theorem dX11_letterOf_17 : decode cX11_letterOf 17 = .ok (.goto 55, 3) := by decide +kernel
theorem dX11_letterOf_20 : decode cX11_letterOf 20 = .ok (.iload_n 0, 1) := by decide +kernel
theorem dX11_letterOf_21 : decode cX11_letterOf 21 = .ok (.bipush 111, 2) := by decide +kernel
theorem dX11_letterOf_23 : decode cX11_letterOf 23 = .ok (.if_icmp .ne 7, 3) := by decide +kernel
theorem dX11_letterOf_26 : decode cX11_letterOf 26 = .ok (.iconst 2, 1) := by decide +kernel
theorem dX11_letterOf_27 : decode cX11_letterOf 27 = .ok (.goto 45, 3) := by decide +kernel
theorem dX11_letterOf_30 : decode cX11_letterOf 30 = .ok (.iload_n 0, 1) := by decide +kernel
theorem dX11_letterOf_31 : decode cX11_letterOf 31 = .ok (.bipush 115, 2) := by decide +kernel
theorem dX11_letterOf_33 : decode cX11_letterOf 33 = .ok (.if_icmp .ne 7, 3) := by decide +kernel
theorem dX11_letterOf_36 : decode cX11_letterOf 36 = .ok (.iconst 3, 1) := by decide +kernel
theorem dX11_letterOf_37 : decode cX11_letterOf 37 = .ok (.goto 35, 3) := by decide +kernel
theorem dX11_letterOf_40 : decode cX11_letterOf 40 = .ok (.iload_n 0, 1) := by decide +kernel
theorem dX11_letterOf_41 : decode cX11_letterOf 41 = .ok (.bipush 112, 2) := by decide +kernel
theorem dX11_letterOf_43 : decode cX11_letterOf 43 = .ok (.if_icmp .ne 7, 3) := by decide +kernel
theorem dX11_letterOf_46 : decode cX11_letterOf 46 = .ok (.iconst 4, 1) := by decide +kernel
theorem dX11_letterOf_47 : decode cX11_letterOf 47 = .ok (.goto 25, 3) := by decide +kernel
theorem dX11_letterOf_50 : decode cX11_letterOf 50 = .ok (.iload_n 0, 1) := by decide +kernel
theorem dX11_letterOf_51 : decode cX11_letterOf 51 = .ok (.bipush 119, 2) := by decide +kernel
theorem dX11_letterOf_53 : decode cX11_letterOf 53 = .ok (.if_icmp .ne 7, 3) := by decide +kernel
theorem dX11_letterOf_56 : decode cX11_letterOf 56 = .ok (.iconst 5, 1) := by decide +kernel
theorem dX11_letterOf_57 : decode cX11_letterOf 57 = .ok (.goto 15, 3) := by decide +kernel
theorem dX11_letterOf_60 : decode cX11_letterOf 60 = .ok (.iload_n 0, 1) := by decide +kernel
theorem dX11_letterOf_61 : decode cX11_letterOf 61 = .ok (.bipush 116, 2) := by decide +kernel
theorem dX11_letterOf_63 : decode cX11_letterOf 63 = .ok (.if_icmp .ne 8, 3) := by decide +kernel
theorem dX11_letterOf_66 : decode cX11_letterOf 66 = .ok (.bipush 6, 2) := by decide +kernel
theorem dX11_letterOf_68 : decode cX11_letterOf 68 = .ok (.goto 4, 3) := by decide +kernel
theorem dX11_letterOf_71 : decode cX11_letterOf 71 = .ok (.iconst (-1), 1) := by decide +kernel
theorem dX11_letterOf_72 : decode cX11_letterOf 72 = .ok (.ireturn, 1) := by decide +kernel
def fX11_letterOf (h : AH) (a0 : Int32) : Option (Int32) :=
  if a0 = 110 then (
    some 0
  ) else (
    if a0 = 102 then (
      some 1
    ) else (
      if a0 = 111 then (
        some 2
      ) else (
        if a0 = 115 then (
          some 3
        ) else (
          if a0 = 112 then (
            some 4
          ) else (
            if a0 = 119 then (
              some 5
            ) else (
              if a0 = 116 then (
                some 6
              ) else (
                some ((-1))
              )
            )
          )
        )
      )
    )
  )
set_option maxHeartbeats 4000000 in
theorem mX11_letterOf {h : AH} {a0 : Int32} {r : Int32} (hr : fX11_letterOf h a0 = some r) : MC yX11_letterOf cX11_letterOf 1 (some .int) 1 0 0 [.int a0] h (some (.int r)) h := by
  unfold fX11_letterOf at hr
  refine mc_of (l0 := [(0, .int a0)]) rfl pn_X11 (Nat.le_of_ble_eq_true rfl) (fun Y X C E O hnm => go_run hr ?_)
  have C : CT Y X RX11 cX11_letterOf 1 := C
  refine go_iload_n (pc := 0) C 0 dX11_letterOf_0 rfl ?_
  refine go_bipush (pc := 1) C dX11_letterOf_1 kb_110 ?_
  refine go_icmp_ne (pc := 3) C 10 dX11_letterOf_3 (by decide) (fun _ => ?_) (fun _ => ?_)
  · refine go_iconst (pc := 6) C dX11_letterOf_6 ki_0 ?_
    refine go_goto (pc := 7) C 72 dX11_letterOf_7 (by decide) ?_
    exact go_iret (w := (wI h)) (pc := 72) C E 0 0 dX11_letterOf_72 rfl
  · refine go_iload_n (pc := 10) C 0 dX11_letterOf_10 rfl ?_
    refine go_bipush (pc := 11) C dX11_letterOf_11 kb_102 ?_
    refine go_icmp_ne (pc := 13) C 20 dX11_letterOf_13 (by decide) (fun _ => ?_) (fun _ => ?_)
    · refine go_iconst (pc := 16) C dX11_letterOf_16 ki_1 ?_
      refine go_goto (pc := 17) C 72 dX11_letterOf_17 (by decide) ?_
      exact go_iret (w := (wI h)) (pc := 72) C E 1 1 dX11_letterOf_72 rfl
    · refine go_iload_n (pc := 20) C 0 dX11_letterOf_20 rfl ?_
      refine go_bipush (pc := 21) C dX11_letterOf_21 kb_111 ?_
      refine go_icmp_ne (pc := 23) C 30 dX11_letterOf_23 (by decide) (fun _ => ?_) (fun _ => ?_)
      · refine go_iconst (pc := 26) C dX11_letterOf_26 ki_2 ?_
        refine go_goto (pc := 27) C 72 dX11_letterOf_27 (by decide) ?_
        exact go_iret (w := (wI h)) (pc := 72) C E 2 2 dX11_letterOf_72 rfl
      · refine go_iload_n (pc := 30) C 0 dX11_letterOf_30 rfl ?_
        refine go_bipush (pc := 31) C dX11_letterOf_31 kb_115 ?_
        refine go_icmp_ne (pc := 33) C 40 dX11_letterOf_33 (by decide) (fun _ => ?_) (fun _ => ?_)
        · refine go_iconst (pc := 36) C dX11_letterOf_36 ki_3 ?_
          refine go_goto (pc := 37) C 72 dX11_letterOf_37 (by decide) ?_
          exact go_iret (w := (wI h)) (pc := 72) C E 3 3 dX11_letterOf_72 rfl
        · refine go_iload_n (pc := 40) C 0 dX11_letterOf_40 rfl ?_
          refine go_bipush (pc := 41) C dX11_letterOf_41 kb_112 ?_
          refine go_icmp_ne (pc := 43) C 50 dX11_letterOf_43 (by decide) (fun _ => ?_) (fun _ => ?_)
          · refine go_iconst (pc := 46) C dX11_letterOf_46 ki_4 ?_
            refine go_goto (pc := 47) C 72 dX11_letterOf_47 (by decide) ?_
            exact go_iret (w := (wI h)) (pc := 72) C E 4 4 dX11_letterOf_72 rfl
          · refine go_iload_n (pc := 50) C 0 dX11_letterOf_50 rfl ?_
            refine go_bipush (pc := 51) C dX11_letterOf_51 kb_119 ?_
            refine go_icmp_ne (pc := 53) C 60 dX11_letterOf_53 (by decide) (fun _ => ?_) (fun _ => ?_)
            · refine go_iconst (pc := 56) C dX11_letterOf_56 ki_5 ?_
              refine go_goto (pc := 57) C 72 dX11_letterOf_57 (by decide) ?_
              exact go_iret (w := (wI h)) (pc := 72) C E 5 5 dX11_letterOf_72 rfl
            · refine go_iload_n (pc := 60) C 0 dX11_letterOf_60 rfl ?_
              refine go_bipush (pc := 61) C dX11_letterOf_61 kb_116 ?_
              refine go_icmp_ne (pc := 63) C 71 dX11_letterOf_63 (by decide) (fun _ => ?_) (fun _ => ?_)
              · refine go_bipush (pc := 66) C dX11_letterOf_66 kb_6 ?_
                refine go_goto (pc := 68) C 72 dX11_letterOf_68 (by decide) ?_
                exact go_iret (w := (wI h)) (pc := 72) C E 6 6 dX11_letterOf_72 rfl
              · refine go_iconst (pc := 71) C dX11_letterOf_71 ki_m1 ?_
                exact go_iret (w := (wI h)) (pc := 72) C E ((-1)) ((-1)) dX11_letterOf_72 rfl
theorem dX11_held_0 : decode cX11_held 0 = .ok (.aload_n 0, 1) := by decide +kernel
theorem dX11_held_1 : decode cX11_held 1 = .ok (.iload_n 1, 1) := by decide +kernel
theorem dX11_held_2 : decode cX11_held 2 = .ok (.invokevirtual 192, 3) := by decide +kernel
theorem dX11_held_5 : decode cX11_held 5 = .ok (.istore_n 2, 1) := by decide +kernel
theorem dX11_held_6 : decode cX11_held 6 = .ok (.aload_n 0, 1) := by decide +kernel
theorem dX11_held_7 : decode cX11_held 7 = .ok (.bipush 60, 2) := by decide +kernel
theorem dX11_held_9 : decode cX11_held 9 = .ok (.invokevirtual 153, 3) := by decide +kernel
theorem dX11_held_12 : decode cX11_held 12 = .ok (.ifCond .eq 18, 3) := by decide +kernel
theorem dX11_held_15 : decode cX11_held 15 = .ok (.iload_n 2, 1) := by decide +kernel
theorem dX11_held_16 : decode cX11_held 16 = .ok (.aload_n 0, 1) := by decide +kernel
theorem dX11_held_17 : decode cX11_held 17 = .ok (.iload_n 1, 1) := by decide +kernel
theorem dX11_held_18 : decode cX11_held 18 = .ok (.invokevirtual 192, 3) := by decide +kernel
theorem dX11_held_21 : decode cX11_held 21 = .ok (.if_icmp .ge 7, 3) := by decide +kernel
theorem dX11_held_24 : decode cX11_held 24 = .ok (.iconst 1, 1) := by decide +kernel
theorem dX11_held_25 : decode cX11_held 25 = .ok (.goto 4, 3) := by decide +kernel
theorem dX11_held_28 : decode cX11_held 28 = .ok (.iconst 0, 1) := by decide +kernel
theorem dX11_held_29 : decode cX11_held 29 = .ok (.ireturn, 1) := by decide +kernel
theorem dX11_held_30 : decode cX11_held 30 = .ok (.aload_n 0, 1) := by decide +kernel
theorem dX11_held_31 : decode cX11_held 31 = .ok (.bipush 62, 2) := by decide +kernel
theorem dX11_held_33 : decode cX11_held 33 = .ok (.invokevirtual 153, 3) := by decide +kernel
theorem dX11_held_36 : decode cX11_held 36 = .ok (.ifCond .eq 18, 3) := by decide +kernel
theorem dX11_held_39 : decode cX11_held 39 = .ok (.iload_n 2, 1) := by decide +kernel
theorem dX11_held_40 : decode cX11_held 40 = .ok (.aload_n 0, 1) := by decide +kernel
theorem dX11_held_41 : decode cX11_held 41 = .ok (.iload_n 1, 1) := by decide +kernel
theorem dX11_held_42 : decode cX11_held 42 = .ok (.invokevirtual 192, 3) := by decide +kernel
theorem dX11_held_45 : decode cX11_held 45 = .ok (.if_icmp .le 7, 3) := by decide +kernel
theorem dX11_held_48 : decode cX11_held 48 = .ok (.iconst 1, 1) := by decide +kernel
theorem dX11_held_49 : decode cX11_held 49 = .ok (.goto 4, 3) := by decide +kernel
theorem dX11_held_52 : decode cX11_held 52 = .ok (.iconst 0, 1) := by decide +kernel
theorem dX11_held_53 : decode cX11_held 53 = .ok (.ireturn, 1) := by decide +kernel
theorem dX11_held_54 : decode cX11_held 54 = .ok (.aload_n 0, 1) := by decide +kernel
theorem dX11_held_55 : decode cX11_held 55 = .ok (.bipush 61, 2) := by decide +kernel
theorem dX11_held_57 : decode cX11_held 57 = .ok (.invokevirtual 153, 3) := by decide +kernel
theorem dX11_held_60 : decode cX11_held 60 = .ok (.ifCond .eq 18, 3) := by decide +kernel
theorem dX11_held_63 : decode cX11_held 63 = .ok (.iload_n 2, 1) := by decide +kernel
theorem dX11_held_64 : decode cX11_held 64 = .ok (.aload_n 0, 1) := by decide +kernel
theorem dX11_held_65 : decode cX11_held 65 = .ok (.iload_n 1, 1) := by decide +kernel
theorem dX11_held_66 : decode cX11_held 66 = .ok (.invokevirtual 192, 3) := by decide +kernel
theorem dX11_held_69 : decode cX11_held 69 = .ok (.if_icmp .ne 7, 3) := by decide +kernel
theorem dX11_held_72 : decode cX11_held 72 = .ok (.iconst 1, 1) := by decide +kernel
theorem dX11_held_73 : decode cX11_held 73 = .ok (.goto 4, 3) := by decide +kernel
theorem dX11_held_76 : decode cX11_held 76 = .ok (.iconst 0, 1) := by decide +kernel
theorem dX11_held_77 : decode cX11_held 77 = .ok (.ireturn, 1) := by decide +kernel
theorem dX11_held_78 : decode cX11_held 78 = .ok (.iload_n 2, 1) := by decide +kernel
theorem dX11_held_79 : decode cX11_held 79 = .ok (.ireturn, 1) := by decide +kernel
theorem dX11_sum_0 : decode cX11_sum 0 = .ok (.aload_n 0, 1) := by decide +kernel
theorem dX11_sum_1 : decode cX11_sum 1 = .ok (.iload_n 1, 1) := by decide +kernel
theorem dX11_sum_2 : decode cX11_sum 2 = .ok (.invokevirtual 195, 3) := by decide +kernel
theorem dX11_sum_5 : decode cX11_sum 5 = .ok (.istore_n 2, 1) := by decide +kernel
theorem dX11_sum_6 : decode cX11_sum 6 = .ok (.aload_n 0, 1) := by decide +kernel
theorem dX11_sum_7 : decode cX11_sum 7 = .ok (.invokevirtual 145, 3) := by decide +kernel
theorem dX11_sum_10 : decode cX11_sum 10 = .ok (.ifCond .eq 72, 3) := by decide +kernel
theorem dX11_sum_13 : decode cX11_sum 13 = .ok (.aload_n 0, 1) := by decide +kernel
theorem dX11_sum_14 : decode cX11_sum 14 = .ok (.invokevirtual 149, 3) := by decide +kernel
theorem dX11_sum_17 : decode cX11_sum 17 = .ok (.bipush 43, 2) := by decide +kernel
theorem dX11_sum_19 : decode cX11_sum 19 = .ok (.if_icmp .eq 12, 3) := by decide +kernel
theorem dX11_sum_22 : decode cX11_sum 22 = .ok (.aload_n 0, 1) := by decide +kernel
theorem dX11_sum_23 : decode cX11_sum 23 = .ok (.invokevirtual 149, 3) := by decide +kernel
theorem dX11_sum_26 : decode cX11_sum 26 = .ok (.bipush 45, 2) := by decide +kernel
theorem dX11_sum_28 : decode cX11_sum 28 = .ok (.if_icmp .ne 54, 3) := by decide +kernel
theorem dX11_sum_31 : decode cX11_sum 31 = .ok (.aload_n 0, 1) := by decide +kernel
theorem dX11_sum_32 : decode cX11_sum 32 = .ok (.invokevirtual 149, 3) := by decide +kernel
theorem dX11_sum_35 : decode cX11_sum 35 = .ok (.bipush 43, 2) := by decide +kernel
theorem dX11_sum_37 : decode cX11_sum 37 = .ok (.if_icmp .ne 7, 3) := by decide +kernel
theorem dX11_sum_40 : decode cX11_sum 40 = .ok (.iconst 1, 1) := by decide +kernel
theorem dX11_sum_41 : decode cX11_sum 41 = .ok (.goto 4, 3) := by decide +kernel
theorem dX11_sum_44 : decode cX11_sum 44 = .ok (.iconst 0, 1) := by decide +kernel
theorem dX11_sum_45 : decode cX11_sum 45 = .ok (.istore_n 3, 1) := by decide +kernel
theorem dX11_sum_46 : decode cX11_sum 46 = .ok (.aload_n 0, 1) := by decide +kernel
theorem dX11_sum_47 : decode cX11_sum 47 = .ok (.dup, 1) := by decide +kernel
theorem dX11_sum_48 : decode cX11_sum 48 = .ok (.getfield 135, 3) := by decide +kernel
theorem dX11_sum_51 : decode cX11_sum 51 = .ok (.iconst 1, 1) := by decide +kernel
theorem dX11_sum_52 : decode cX11_sum 52 = .ok (.iadd, 1) := by decide +kernel
theorem dX11_sum_53 : decode cX11_sum 53 = .ok (.putfield 135, 3) := by decide +kernel
theorem dX11_sum_56 : decode cX11_sum 56 = .ok (.aload_n 0, 1) := by decide +kernel
theorem dX11_sum_57 : decode cX11_sum 57 = .ok (.iload_n 1, 1) := by decide +kernel
theorem dX11_sum_58 : decode cX11_sum 58 = .ok (.invokevirtual 195, 3) := by decide +kernel
theorem dX11_sum_61 : decode cX11_sum 61 = .ok (.istore 4, 2) := by decide +kernel
theorem dX11_sum_63 : decode cX11_sum 63 = .ok (.iload_n 3, 1) := by decide +kernel
theorem dX11_sum_64 : decode cX11_sum 64 = .ok (.ifCond .eq 10, 3) := by decide +kernel
theorem dX11_sum_67 : decode cX11_sum 67 = .ok (.iload_n 2, 1) := by decide +kernel
theorem dX11_sum_68 : decode cX11_sum 68 = .ok (.iload 4, 2) := by decide +kernel
theorem dX11_sum_70 : decode cX11_sum 70 = .ok (.iadd, 1) := by decide +kernel
theorem dX11_sum_71 : decode cX11_sum 71 = .ok (.goto 7, 3) := by decide +kernel
theorem dX11_sum_74 : decode cX11_sum 74 = .ok (.iload_n 2, 1) := by decide +kernel
theorem dX11_sum_75 : decode cX11_sum 75 = .ok (.iload 4, 2) := by decide +kernel
theorem dX11_sum_77 : decode cX11_sum 77 = .ok (.isub, 1) := by decide +kernel
theorem dX11_sum_78 : decode cX11_sum 78 = .ok (.istore_n 2, 1) := by decide +kernel
theorem dX11_sum_79 : decode cX11_sum 79 = .ok (.goto (-73), 3) := by decide +kernel
theorem dX11_sum_82 : decode cX11_sum 82 = .ok (.iload_n 2, 1) := by decide +kernel
theorem dX11_sum_83 : decode cX11_sum 83 = .ok (.ireturn, 1) := by decide +kernel
theorem dX11_product_0 : decode cX11_product 0 = .ok (.aload_n 0, 1) := by decide +kernel
theorem dX11_product_1 : decode cX11_product 1 = .ok (.iload_n 1, 1) := by decide +kernel
theorem dX11_product_2 : decode cX11_product 2 = .ok (.invokevirtual 198, 3) := by decide +kernel
theorem dX11_product_5 : decode cX11_product 5 = .ok (.istore_n 2, 1) := by decide +kernel
theorem dX11_product_6 : decode cX11_product 6 = .ok (.aload_n 0, 1) := by decide +kernel
theorem dX11_product_7 : decode cX11_product 7 = .ok (.invokevirtual 145, 3) := by decide +kernel
theorem dX11_product_10 : decode cX11_product 10 = .ok (.ifCond .eq 81, 3) := by decide +kernel
theorem dX11_product_13 : decode cX11_product 13 = .ok (.aload_n 0, 1) := by decide +kernel
theorem dX11_product_14 : decode cX11_product 14 = .ok (.invokevirtual 149, 3) := by decide +kernel
theorem dX11_product_17 : decode cX11_product 17 = .ok (.bipush 42, 2) := by decide +kernel
theorem dX11_product_19 : decode cX11_product 19 = .ok (.if_icmp .eq 12, 3) := by decide +kernel
theorem dX11_product_22 : decode cX11_product 22 = .ok (.aload_n 0, 1) := by decide +kernel
theorem dX11_product_23 : decode cX11_product 23 = .ok (.invokevirtual 149, 3) := by decide +kernel
theorem dX11_product_26 : decode cX11_product 26 = .ok (.bipush 47, 2) := by decide +kernel
theorem dX11_product_28 : decode cX11_product 28 = .ok (.if_icmp .ne 63, 3) := by decide +kernel
theorem dX11_product_31 : decode cX11_product 31 = .ok (.aload_n 0, 1) := by decide +kernel
theorem dX11_product_32 : decode cX11_product 32 = .ok (.invokevirtual 149, 3) := by decide +kernel
theorem dX11_product_35 : decode cX11_product 35 = .ok (.bipush 42, 2) := by decide +kernel
theorem dX11_product_37 : decode cX11_product 37 = .ok (.if_icmp .ne 7, 3) := by decide +kernel
theorem dX11_product_40 : decode cX11_product 40 = .ok (.iconst 1, 1) := by decide +kernel
theorem dX11_product_41 : decode cX11_product 41 = .ok (.goto 4, 3) := by decide +kernel
theorem dX11_product_44 : decode cX11_product 44 = .ok (.iconst 0, 1) := by decide +kernel
theorem dX11_product_45 : decode cX11_product 45 = .ok (.istore_n 3, 1) := by decide +kernel
theorem dX11_product_46 : decode cX11_product 46 = .ok (.aload_n 0, 1) := by decide +kernel
theorem dX11_product_47 : decode cX11_product 47 = .ok (.dup, 1) := by decide +kernel
theorem dX11_product_48 : decode cX11_product 48 = .ok (.getfield 135, 3) := by decide +kernel
theorem dX11_product_51 : decode cX11_product 51 = .ok (.iconst 1, 1) := by decide +kernel
theorem dX11_product_52 : decode cX11_product 52 = .ok (.iadd, 1) := by decide +kernel
theorem dX11_product_53 : decode cX11_product 53 = .ok (.putfield 135, 3) := by decide +kernel
theorem dX11_product_56 : decode cX11_product 56 = .ok (.aload_n 0, 1) := by decide +kernel
theorem dX11_product_57 : decode cX11_product 57 = .ok (.iload_n 1, 1) := by decide +kernel
theorem dX11_product_58 : decode cX11_product 58 = .ok (.invokevirtual 198, 3) := by decide +kernel
theorem dX11_product_61 : decode cX11_product 61 = .ok (.istore 4, 2) := by decide +kernel
theorem dX11_product_63 : decode cX11_product 63 = .ok (.iload_n 3, 1) := by decide +kernel
theorem dX11_product_64 : decode cX11_product 64 = .ok (.ifCond .eq 10, 3) := by decide +kernel
theorem dX11_product_67 : decode cX11_product 67 = .ok (.iload_n 2, 1) := by decide +kernel
theorem dX11_product_68 : decode cX11_product 68 = .ok (.iload 4, 2) := by decide +kernel
theorem dX11_product_70 : decode cX11_product 70 = .ok (.imul, 1) := by decide +kernel
theorem dX11_product_71 : decode cX11_product 71 = .ok (.goto 16, 3) := by decide +kernel
theorem dX11_product_74 : decode cX11_product 74 = .ok (.iload 4, 2) := by decide +kernel
theorem dX11_product_76 : decode cX11_product 76 = .ok (.ifCond .ne 7, 3) := by decide +kernel
theorem dX11_product_79 : decode cX11_product 79 = .ok (.iconst 0, 1) := by decide +kernel
theorem dX11_product_80 : decode cX11_product 80 = .ok (.goto 7, 3) := by decide +kernel
theorem dX11_product_83 : decode cX11_product 83 = .ok (.iload_n 2, 1) := by decide +kernel
theorem dX11_product_84 : decode cX11_product 84 = .ok (.iload 4, 2) := by decide +kernel
theorem dX11_product_86 : decode cX11_product 86 = .ok (.idiv, 1) := by decide +kernel
theorem dX11_product_87 : decode cX11_product 87 = .ok (.istore_n 2, 1) := by decide +kernel
theorem dX11_product_88 : decode cX11_product 88 = .ok (.goto (-82), 3) := by decide +kernel
theorem dX11_product_91 : decode cX11_product 91 = .ok (.iload_n 2, 1) := by decide +kernel
theorem dX11_product_92 : decode cX11_product 92 = .ok (.ireturn, 1) := by decide +kernel
theorem dX11_thing_0 : decode cX11_thing 0 = .ok (.aload_n 0, 1) := by decide +kernel
theorem dX11_thing_1 : decode cX11_thing 1 = .ok (.bipush 45, 2) := by decide +kernel
theorem dX11_thing_3 : decode cX11_thing 3 = .ok (.invokevirtual 153, 3) := by decide +kernel
theorem dX11_thing_6 : decode cX11_thing 6 = .ok (.ifCond .eq 10, 3) := by decide +kernel
theorem dX11_thing_9 : decode cX11_thing 9 = .ok (.aload_n 0, 1) := by decide +kernel
theorem dX11_thing_10 : decode cX11_thing 10 = .ok (.iload_n 1, 1) := by decide +kernel
theorem dX11_thing_11 : decode cX11_thing 11 = .ok (.invokevirtual 198, 3) := by decide +kernel
theorem dX11_thing_14 : decode cX11_thing 14 = .ok (.ineg, 1) := by decide +kernel
theorem dX11_thing_15 : decode cX11_thing 15 = .ok (.ireturn, 1) := by decide +kernel
theorem dX11_thing_16 : decode cX11_thing 16 = .ok (.aload_n 0, 1) := by decide +kernel
theorem dX11_thing_17 : decode cX11_thing 17 = .ok (.invokevirtual 145, 3) := by decide +kernel
theorem dX11_thing_20 : decode cX11_thing 20 = .ok (.ifCond .ne 5, 3) := by decide +kernel
theorem dX11_thing_23 : decode cX11_thing 23 = .ok (.iconst 0, 1) := by decide +kernel
theorem dX11_thing_24 : decode cX11_thing 24 = .ok (.ireturn, 1) := by decide +kernel
theorem dX11_thing_25 : decode cX11_thing 25 = .ok (.aload_n 0, 1) := by decide +kernel
theorem dX11_thing_26 : decode cX11_thing 26 = .ok (.invokevirtual 149, 3) := by decide +kernel
theorem dX11_thing_29 : decode cX11_thing 29 = .ok (.istore_n 2, 1) := by decide +kernel
theorem dX11_thing_30 : decode cX11_thing 30 = .ok (.iload_n 2, 1) := by decide +kernel
theorem dX11_thing_31 : decode cX11_thing 31 = .ok (.bipush 40, 2) := by decide +kernel
theorem dX11_thing_33 : decode cX11_thing 33 = .ok (.if_icmp .ne 34, 3) := by decide +kernel
theorem dX11_thing_36 : decode cX11_thing 36 = .ok (.iload_n 1, 1) := by decide +kernel
theorem dX11_thing_37 : decode cX11_thing 37 = .ok (.iconst 4, 1) := by decide +kernel
theorem dX11_thing_38 : decode cX11_thing 38 = .ok (.if_icmp .ge 29, 3) := by decide +kernel
theorem dX11_thing_41 : decode cX11_thing 41 = .ok (.aload_n 0, 1) := by decide +kernel
theorem dX11_thing_42 : decode cX11_thing 42 = .ok (.dup, 1) := by decide +kernel
theorem dX11_thing_43 : decode cX11_thing 43 = .ok (.getfield 135, 3) := by decide +kernel
theorem dX11_thing_46 : decode cX11_thing 46 = .ok (.iconst 1, 1) := by decide +kernel
theorem dX11_thing_47 : decode cX11_thing 47 = .ok (.iadd, 1) := by decide +kernel
theorem dX11_thing_48 : decode cX11_thing 48 = .ok (.putfield 135, 3) := by decide +kernel
theorem dX11_thing_51 : decode cX11_thing 51 = .ok (.aload_n 0, 1) := by decide +kernel
theorem dX11_thing_52 : decode cX11_thing 52 = .ok (.iload_n 1, 1) := by decide +kernel
theorem dX11_thing_53 : decode cX11_thing 53 = .ok (.iconst 1, 1) := by decide +kernel
theorem dX11_thing_54 : decode cX11_thing 54 = .ok (.iadd, 1) := by decide +kernel
theorem dX11_thing_55 : decode cX11_thing 55 = .ok (.invokevirtual 201, 3) := by decide +kernel
theorem dX11_thing_58 : decode cX11_thing 58 = .ok (.istore_n 3, 1) := by decide +kernel
theorem dX11_thing_59 : decode cX11_thing 59 = .ok (.aload_n 0, 1) := by decide +kernel
theorem dX11_thing_60 : decode cX11_thing 60 = .ok (.bipush 41, 2) := by decide +kernel
theorem dX11_thing_62 : decode cX11_thing 62 = .ok (.invokevirtual 204, 3) := by decide +kernel
theorem dX11_thing_65 : decode cX11_thing 65 = .ok (.iload_n 3, 1) := by decide +kernel
theorem dX11_thing_66 : decode cX11_thing 66 = .ok (.ireturn, 1) := by decide +kernel
theorem dX11_thing_67 : decode cX11_thing 67 = .ok (.iload_n 2, 1) := by decide +kernel
theorem dX11_thing_68 : decode cX11_thing 68 = .ok (.bipush 48, 2) := by decide +kernel
theorem dX11_thing_70 : decode cX11_thing 70 = .ok (.bipush 57, 2) := by decide +kernel
theorem dX11_thing_72 : decode cX11_thing 72 = .ok (.invokestatic 84, 3) := by decide +kernel
theorem dX11_thing_75 : decode cX11_thing 75 = .ok (.ifCond .eq 9, 3) := by decide +kernel
theorem dX11_thing_78 : decode cX11_thing 78 = .ok (.aload_n 0, 1) := by decide +kernel
theorem dX11_thing_79 : decode cX11_thing 79 = .ok (.iconst 3, 1) := by decide +kernel
theorem dX11_thing_80 : decode cX11_thing 80 = .ok (.invokevirtual 208, 3) := by decide +kernel
theorem dX11_thing_83 : decode cX11_thing 83 = .ok (.ireturn, 1) := by decide +kernel
theorem dX11_thing_84 : decode cX11_thing 84 = .ok (.iload_n 2, 1) := by decide +kernel
theorem dX11_thing_85 : decode cX11_thing 85 = .ok (.invokestatic 211, 3) := by decide +kernel
theorem dX11_thing_88 : decode cX11_thing 88 = .ok (.iconst (-1), 1) := by decide +kernel
theorem dX11_thing_89 : decode cX11_thing 89 = .ok (.if_icmp .ne 13, 3) := by decide +kernel
theorem dX11_thing_92 : decode cX11_thing 92 = .ok (.aload_n 0, 1) := by decide +kernel
theorem dX11_thing_93 : decode cX11_thing 93 = .ok (.aload_n 0, 1) := by decide +kernel
theorem dX11_thing_94 : decode cX11_thing 94 = .ok (.getfield 135, 3) := by decide +kernel
theorem dX11_thing_97 : decode cX11_thing 97 = .ok (.invokevirtual 157, 3) := by decide +kernel
theorem dX11_thing_100 : decode cX11_thing 100 = .ok (.iconst 0, 1) := by decide +kernel
theorem dX11_thing_101 : decode cX11_thing 101 = .ok (.ireturn, 1) := by decide +kernel
theorem dX11_thing_102 : decode cX11_thing 102 = .ok (.aload_n 0, 1) := by decide +kernel
theorem dX11_thing_103 : decode cX11_thing 103 = .ok (.dup, 1) := by decide +kernel
theorem dX11_thing_104 : decode cX11_thing 104 = .ok (.getfield 135, 3) := by decide +kernel
theorem dX11_thing_107 : decode cX11_thing 107 = .ok (.iconst 1, 1) := by decide +kernel
theorem dX11_thing_108 : decode cX11_thing 108 = .ok (.iadd, 1) := by decide +kernel
theorem dX11_thing_109 : decode cX11_thing 109 = .ok (.putfield 135, 3) := by decide +kernel
theorem dX11_thing_112 : decode cX11_thing 112 = .ok (.aload_n 0, 1) := by decide +kernel
theorem dX11_thing_113 : decode cX11_thing 113 = .ok (.getfield 214, 3) := by decide +kernel
theorem dX11_thing_116 : decode cX11_thing 116 = .ok (.ifCond .eq 15, 3) := by decide +kernel
theorem dX11_thing_119 : decode cX11_thing 119 = .ok (.aload_n 0, 1) := by decide +kernel
theorem dX11_thing_120 : decode cX11_thing 120 = .ok (.getfield 30, 3) := by decide +kernel
theorem dX11_thing_123 : decode cX11_thing 123 = .ok (.iload_n 2, 1) := by decide +kernel
theorem dX11_thing_124 : decode cX11_thing 124 = .ok (.invokestatic 211, 3) := by decide +kernel
theorem dX11_thing_127 : decode cX11_thing 127 = .ok (.iaload, 1) := by decide +kernel
theorem dX11_thing_128 : decode cX11_thing 128 = .ok (.goto 4, 3) := by decide +kernel
theorem dX11_thing_131 : decode cX11_thing 131 = .ok (.iconst 0, 1) := by decide +kernel
theorem dX11_thing_132 : decode cX11_thing 132 = .ok (.ireturn, 1) := by decide +kernel
def fX11_held_b (rc : Nat → AH → Nat → Int32 → Option (Int32 × AH)) (h : AH) (a0 : Nat) (a1 : Int32) : Option (Int32 × AH) :=
  if hasC h 11 a0 = true then (
    (rc 1 h a0 a1).bind fun q1 =>
    (fX11_passes q1.2 a0 60).bind fun q2 =>
    if q2.1 = true then (
      (rc 1 q2.2 a0 a1).bind fun q3 =>
      if q3.1 ≤ q1.1 then (
        some ((0, q3.2))
      ) else (
        some ((1, q3.2))
      )
    ) else (
      (fX11_passes q2.2 a0 62).bind fun q4 =>
      if q4.1 = true then (
        (rc 1 q4.2 a0 a1).bind fun q5 =>
        if q1.1 ≤ q5.1 then (
          some ((0, q5.2))
        ) else (
          some ((1, q5.2))
        )
      ) else (
        (fX11_passes q4.2 a0 61).bind fun q6 =>
        if q6.1 = true then (
          (rc 1 q6.2 a0 a1).bind fun q7 =>
          if q1.1 = q7.1 then (
            some ((1, q7.2))
          ) else (
            some ((0, q7.2))
          )
        ) else (
          some ((q1.1, q6.2))
        )
      )
    )
  ) else none
def fX11_sum_J45 (rc : Nat → AH → Nat → Int32 → Option (Int32 × AH)) (k6 : AH → Nat → Int32 → Int32 → Option (Int32 × AH)) (h : AH) (v0 : Nat) (v1 : Int32) (v2 : Int32) (s0 : Int32) : Option (Int32 × AH) :=
    (gI h 11 v0 9).bind fun x1 =>
    (pF h 11 v0 9 (.int (x1 + 1))).bind fun h2 =>
    (rc 2 h2 v0 v1).bind fun q3 =>
    if s0 = 0 then (
      letF (v2 - q3.1 : Int32) fun x4 =>
      k6 q3.2 v0 v1 x4
    ) else (
      letF (v2 + q3.1 : Int32) fun x5 =>
      k6 q3.2 v0 v1 x5
    )
def fX11_sum_J31 (rc : Nat → AH → Nat → Int32 → Option (Int32 × AH)) (k6 : AH → Nat → Int32 → Int32 → Option (Int32 × AH)) (h : AH) (v0 : Nat) (v1 : Int32) (v2 : Int32) : Option (Int32 × AH) :=
    (fX11_here h v0).bind fun q6 =>
    if q6 = 43 then (
      fX11_sum_J45 rc k6 h v0 v1 v2 1
    ) else (
      fX11_sum_J45 rc k6 h v0 v1 v2 0
    )
def fX11_sum_L6 (rc : Nat → AH → Nat → Int32 → Option (Int32 × AH)) : Nat → AH → Nat → Int32 → Int32 → Option (Int32 × AH)
  | 0, _, _, _, _ => none
  | n + 1, h, v0, v1, v2 =>
    (fX11_fine h v0).bind fun q7 =>
    if q7 = true then (
      (fX11_here h v0).bind fun q8 =>
      if q8 = 43 then (
        fX11_sum_J31 rc (fX11_sum_L6 rc n) h v0 v1 v2
      ) else (
        (fX11_here h v0).bind fun q9 =>
        if q9 = 45 then (
          fX11_sum_J31 rc (fX11_sum_L6 rc n) h v0 v1 v2
        ) else (
          some ((v2, h))
        )
      )
    ) else (
      some ((v2, h))
    )
def fX11_sum_b (rc : Nat → AH → Nat → Int32 → Option (Int32 × AH)) (h : AH) (a0 : Nat) (a1 : Int32) : Option (Int32 × AH) :=
  if hasC h 11 a0 = true then (
    (rc 2 h a0 a1).bind fun q10 =>
    fX11_sum_L6 rc FU q10.2 a0 a1 q10.1
  ) else none
def fX11_product_J45 (rc : Nat → AH → Nat → Int32 → Option (Int32 × AH)) (k6 : AH → Nat → Int32 → Int32 → Option (Int32 × AH)) (h : AH) (v0 : Nat) (v1 : Int32) (v2 : Int32) (s0 : Int32) : Option (Int32 × AH) :=
    (gI h 11 v0 9).bind fun x1 =>
    (pF h 11 v0 9 (.int (x1 + 1))).bind fun h2 =>
    (rc 3 h2 v0 v1).bind fun q3 =>
    if s0 = 0 then (
      if q3.1 = 0 then (
        k6 q3.2 v0 v1 0
      ) else (
        (jdiv v2 q3.1).bind fun x4 =>
        k6 q3.2 v0 v1 x4
      )
    ) else (
      letF (v2 * q3.1 : Int32) fun x5 =>
      k6 q3.2 v0 v1 x5
    )
def fX11_product_J31 (rc : Nat → AH → Nat → Int32 → Option (Int32 × AH)) (k6 : AH → Nat → Int32 → Int32 → Option (Int32 × AH)) (h : AH) (v0 : Nat) (v1 : Int32) (v2 : Int32) : Option (Int32 × AH) :=
    (fX11_here h v0).bind fun q6 =>
    if q6 = 42 then (
      fX11_product_J45 rc k6 h v0 v1 v2 1
    ) else (
      fX11_product_J45 rc k6 h v0 v1 v2 0
    )
def fX11_product_L6 (rc : Nat → AH → Nat → Int32 → Option (Int32 × AH)) : Nat → AH → Nat → Int32 → Int32 → Option (Int32 × AH)
  | 0, _, _, _, _ => none
  | n + 1, h, v0, v1, v2 =>
    (fX11_fine h v0).bind fun q7 =>
    if q7 = true then (
      (fX11_here h v0).bind fun q8 =>
      if q8 = 42 then (
        fX11_product_J31 rc (fX11_product_L6 rc n) h v0 v1 v2
      ) else (
        (fX11_here h v0).bind fun q9 =>
        if q9 = 47 then (
          fX11_product_J31 rc (fX11_product_L6 rc n) h v0 v1 v2
        ) else (
          some ((v2, h))
        )
      )
    ) else (
      some ((v2, h))
    )
def fX11_product_b (rc : Nat → AH → Nat → Int32 → Option (Int32 × AH)) (h : AH) (a0 : Nat) (a1 : Int32) : Option (Int32 × AH) :=
  if hasC h 11 a0 = true then (
    (rc 3 h a0 a1).bind fun q10 =>
    fX11_product_L6 rc FU q10.2 a0 a1 q10.1
  ) else none
def fX11_thing_J67 (rc : Nat → AH → Nat → Int32 → Option (Int32 × AH)) (h : AH) (v0 : Nat) (v2 : Int32) : Option (Int32 × AH) :=
    (fX11_in h v2 48 57).bind fun q1 =>
    if q1 = true then (
      (fX11_number h v0 3).bind fun q2 =>
      some ((q2.1, q2.2))
    ) else (
      (fX11_letterOf h v2).bind fun q3 =>
      if q3 = ((-1)) then (
        (gI h 11 v0 9).bind fun x4 =>
        (fX11_fault h v0 x4).bind fun q5 =>
        some ((0, q5))
      ) else (
        (gI h 11 v0 9).bind fun x6 =>
        (pF h 11 v0 9 (.int (x6 + 1))).bind fun h7 =>
        (gZ h7 11 v0 15).bind fun x8 =>
        if x8 = true then (
          (gR h7 11 v0 16).bind fun x9 =>
          (fX11_letterOf h7 v2).bind fun q10 =>
          (aI h7 0 x9 q10).bind fun x11 =>
          some ((x11, h7))
        ) else (
          some ((0, h7))
        )
      )
    )
def fX11_thing_b (rc : Nat → AH → Nat → Int32 → Option (Int32 × AH)) (h : AH) (a0 : Nat) (a1 : Int32) : Option (Int32 × AH) :=
  if hasC h 11 a0 = true then (
    (fX11_passes h a0 45).bind fun q12 =>
    if q12.1 = true then (
      (rc 3 q12.2 a0 a1).bind fun q13 =>
      some ((-q13.1, q13.2))
    ) else (
      (fX11_fine q12.2 a0).bind fun q14 =>
      if q14 = true then (
        (fX11_here q12.2 a0).bind fun q15 =>
        if q15 = 40 then (
          if 4 ≤ a1 then (
            fX11_thing_J67 rc q12.2 a0 q15
          ) else (
            (gI q12.2 11 a0 9).bind fun x16 =>
            (pF q12.2 11 a0 9 (.int (x16 + 1))).bind fun h17 =>
            (rc 0 h17 a0 (a1 + 1)).bind fun q18 =>
            (fX11_need q18.2 a0 41).bind fun q19 =>
            some ((q18.1, q19))
          )
        ) else (
          fX11_thing_J67 rc q12.2 a0 q15
        )
      ) else (
        some ((0, q12.2))
      )
    )
  ) else none
set_option maxHeartbeats 4000000 in
theorem mX11_held_b {h : AH} {a0 : Nat} {a1 : Int32} {r : Int32 × AH} {rc : Nat → AH → Nat → Int32 → Option (Int32 × AH)} {D : Nat} (hD : 7 ≤ D) (hrc0 : ∀ {h : AH} {a0 : Nat} {a1 : Int32} {r : Int32 × AH}, rc 0 h a0 a1 = some r → hasC h 11 a0 = true ∧ MC yX11_held cX11_held 3 (some .int) D 0 0 [.ref a0, .int a1] h (some (.int r.1)) r.2) (hrc1 : ∀ {h : AH} {a0 : Nat} {a1 : Int32} {r : Int32 × AH}, rc 1 h a0 a1 = some r → hasC h 11 a0 = true ∧ MC yX11_sum cX11_sum 5 (some .int) D 0 0 [.ref a0, .int a1] h (some (.int r.1)) r.2) (hrc2 : ∀ {h : AH} {a0 : Nat} {a1 : Int32} {r : Int32 × AH}, rc 2 h a0 a1 = some r → hasC h 11 a0 = true ∧ MC yX11_product cX11_product 5 (some .int) D 0 0 [.ref a0, .int a1] h (some (.int r.1)) r.2) (hrc3 : ∀ {h : AH} {a0 : Nat} {a1 : Int32} {r : Int32 × AH}, rc 3 h a0 a1 = some r → hasC h 11 a0 = true ∧ MC yX11_thing cX11_thing 4 (some .int) D 0 0 [.ref a0, .int a1] h (some (.int r.1)) r.2) (hr : fX11_held_b rc h a0 a1 = some r) : hasC h 11 a0 = true ∧ MC yX11_held cX11_held 3 (some .int) (D + 1) 0 0 [.ref a0, .int a1] h (some (.int r.1)) r.2 := by
  unfold fX11_held_b at hr
  obtain ⟨hc, hr⟩ := if_some hr
  refine ⟨hc, mc_of (l0 := [(0, .ref a0), (1, .int a1)]) rfl pn_X11 (Nat.le_of_ble_eq_true rfl) (fun Y X C E O hnm => go_run hr ?_)⟩
  have C : CT Y X RX11 cX11_held 3 := C
  refine go_aload_n (pc := 0) C 0 dX11_held_0 rfl ?_
  refine go_iload_n (pc := 1) C 1 dX11_held_1 rfl ?_
  refine go_bind (fun q1 hq1 => ?_)
  refine go_callV (rest := []) (st' := [.int q1.1]) (c' := 0) (s' := 0) (pc := 2) C O miX11_192 mvX11_sum [.int a1] rfl (hrc1 hq1).1 (hrc1 hq1).2 dX11_held_2 ⟨by omega, by decide, by decide, by decide⟩ rfl (Nat.le_of_ble_eq_true rfl) rfl ⟨rfl, rfl⟩ ?_
  refine go_istore_n (ls' := [(2, .int q1.1), (0, .ref a0), (1, .int a1)]) (pc := 5) C dX11_held_5 (by decide) rfl ?_
  refine go_aload_n (pc := 6) C 1 dX11_held_6 rfl ?_
  refine go_bipush (pc := 7) C dX11_held_7 kb_60 ?_
  refine go_bind (fun q2 hq2 => ?_)
  refine go_callV (rest := []) (st' := [.int (b2i q2.1)]) (c' := 0) (s' := 0) (pc := 9) C O miX11_153 mvX11_passes [.int 60] rfl (mX11_passes hq2).1 (mX11_passes hq2).2 dX11_held_9 ⟨by omega, by decide, by decide, by decide⟩ rfl (Nat.le_of_ble_eq_true rfl) rfl ⟨rfl, rfl⟩ ?_
  refine go_ifZ_eq (pc := 12) C 30 dX11_held_12 (by decide) (fun _ => ?_) (fun _ => ?_)
  · refine go_iload_n (pc := 15) C 0 dX11_held_15 rfl ?_
    refine go_aload_n (pc := 16) C 1 dX11_held_16 rfl ?_
    refine go_iload_n (pc := 17) C 2 dX11_held_17 rfl ?_
    refine go_bind (fun q3 hq3 => ?_)
    refine go_callV (rest := [.int q1.1]) (st' := [.int q3.1, .int q1.1]) (c' := 0) (s' := 0) (pc := 18) C O miX11_192 mvX11_sum [.int a1] rfl (hrc1 hq3).1 (hrc1 hq3).2 dX11_held_18 ⟨by omega, by decide, by decide, by decide⟩ rfl (Nat.le_of_ble_eq_true rfl) rfl ⟨rfl, rfl⟩ ?_
    refine go_icmp_ge (pc := 21) C 28 dX11_held_21 (by decide) (fun _ => ?_) (fun _ => ?_)
    · refine go_iconst (pc := 28) C dX11_held_28 ki_0 ?_
      exact go_iret (w := wIh) (pc := 29) C E ((0, q3.2)) 0 dX11_held_29 rfl
    · refine go_iconst (pc := 24) C dX11_held_24 ki_1 ?_
      refine go_goto (pc := 25) C 29 dX11_held_25 (by decide) ?_
      exact go_iret (w := wIh) (pc := 29) C E ((1, q3.2)) 1 dX11_held_29 rfl
  · refine go_aload_n (pc := 30) C 1 dX11_held_30 rfl ?_
    refine go_bipush (pc := 31) C dX11_held_31 kb_62 ?_
    refine go_bind (fun q4 hq4 => ?_)
    refine go_callV (rest := []) (st' := [.int (b2i q4.1)]) (c' := 0) (s' := 0) (pc := 33) C O miX11_153 mvX11_passes [.int 62] rfl (mX11_passes hq4).1 (mX11_passes hq4).2 dX11_held_33 ⟨by omega, by decide, by decide, by decide⟩ rfl (Nat.le_of_ble_eq_true rfl) rfl ⟨rfl, rfl⟩ ?_
    refine go_ifZ_eq (pc := 36) C 54 dX11_held_36 (by decide) (fun _ => ?_) (fun _ => ?_)
    · refine go_iload_n (pc := 39) C 0 dX11_held_39 rfl ?_
      refine go_aload_n (pc := 40) C 1 dX11_held_40 rfl ?_
      refine go_iload_n (pc := 41) C 2 dX11_held_41 rfl ?_
      refine go_bind (fun q5 hq5 => ?_)
      refine go_callV (rest := [.int q1.1]) (st' := [.int q5.1, .int q1.1]) (c' := 0) (s' := 0) (pc := 42) C O miX11_192 mvX11_sum [.int a1] rfl (hrc1 hq5).1 (hrc1 hq5).2 dX11_held_42 ⟨by omega, by decide, by decide, by decide⟩ rfl (Nat.le_of_ble_eq_true rfl) rfl ⟨rfl, rfl⟩ ?_
      refine go_icmp_le (pc := 45) C 52 dX11_held_45 (by decide) (fun _ => ?_) (fun _ => ?_)
      · refine go_iconst (pc := 52) C dX11_held_52 ki_0 ?_
        exact go_iret (w := wIh) (pc := 53) C E ((0, q5.2)) 0 dX11_held_53 rfl
      · refine go_iconst (pc := 48) C dX11_held_48 ki_1 ?_
        refine go_goto (pc := 49) C 53 dX11_held_49 (by decide) ?_
        exact go_iret (w := wIh) (pc := 53) C E ((1, q5.2)) 1 dX11_held_53 rfl
    · refine go_aload_n (pc := 54) C 1 dX11_held_54 rfl ?_
      refine go_bipush (pc := 55) C dX11_held_55 kb_61 ?_
      refine go_bind (fun q6 hq6 => ?_)
      refine go_callV (rest := []) (st' := [.int (b2i q6.1)]) (c' := 0) (s' := 0) (pc := 57) C O miX11_153 mvX11_passes [.int 61] rfl (mX11_passes hq6).1 (mX11_passes hq6).2 dX11_held_57 ⟨by omega, by decide, by decide, by decide⟩ rfl (Nat.le_of_ble_eq_true rfl) rfl ⟨rfl, rfl⟩ ?_
      refine go_ifZ_eq (pc := 60) C 78 dX11_held_60 (by decide) (fun _ => ?_) (fun _ => ?_)
      · refine go_iload_n (pc := 63) C 0 dX11_held_63 rfl ?_
        refine go_aload_n (pc := 64) C 1 dX11_held_64 rfl ?_
        refine go_iload_n (pc := 65) C 2 dX11_held_65 rfl ?_
        refine go_bind (fun q7 hq7 => ?_)
        refine go_callV (rest := [.int q1.1]) (st' := [.int q7.1, .int q1.1]) (c' := 0) (s' := 0) (pc := 66) C O miX11_192 mvX11_sum [.int a1] rfl (hrc1 hq7).1 (hrc1 hq7).2 dX11_held_66 ⟨by omega, by decide, by decide, by decide⟩ rfl (Nat.le_of_ble_eq_true rfl) rfl ⟨rfl, rfl⟩ ?_
        refine go_icmp_ne (pc := 69) C 76 dX11_held_69 (by decide) (fun _ => ?_) (fun _ => ?_)
        · refine go_iconst (pc := 72) C dX11_held_72 ki_1 ?_
          refine go_goto (pc := 73) C 77 dX11_held_73 (by decide) ?_
          exact go_iret (w := wIh) (pc := 77) C E ((1, q7.2)) 1 dX11_held_77 rfl
        · refine go_iconst (pc := 76) C dX11_held_76 ki_0 ?_
          exact go_iret (w := wIh) (pc := 77) C E ((0, q7.2)) 0 dX11_held_77 rfl
      · refine go_iload_n (pc := 78) C 0 dX11_held_78 rfl ?_
        exact go_iret (w := wIh) (pc := 79) C E ((q1.1, q6.2)) q1.1 dX11_held_79 rfl
set_option maxHeartbeats 4000000 in
theorem gX11_sum_J45 {Y : YT} {X : XT} {rc : Nat → AH → Nat → Int32 → Option (Int32 × AH)} {D : Nat} (hD : 7 ≤ D) (hrc0 : ∀ {h : AH} {a0 : Nat} {a1 : Int32} {r : Int32 × AH}, rc 0 h a0 a1 = some r → hasC h 11 a0 = true ∧ MC yX11_held cX11_held 3 (some .int) D 0 0 [.ref a0, .int a1] h (some (.int r.1)) r.2) (hrc1 : ∀ {h : AH} {a0 : Nat} {a1 : Int32} {r : Int32 × AH}, rc 1 h a0 a1 = some r → hasC h 11 a0 = true ∧ MC yX11_sum cX11_sum 5 (some .int) D 0 0 [.ref a0, .int a1] h (some (.int r.1)) r.2) (hrc2 : ∀ {h : AH} {a0 : Nat} {a1 : Int32} {r : Int32 × AH}, rc 2 h a0 a1 = some r → hasC h 11 a0 = true ∧ MC yX11_product cX11_product 5 (some .int) D 0 0 [.ref a0, .int a1] h (some (.int r.1)) r.2) (hrc3 : ∀ {h : AH} {a0 : Nat} {a1 : Int32} {r : Int32 × AH}, rc 3 h a0 a1 = some r → hasC h 11 a0 = true ∧ MC yX11_thing cX11_thing 4 (some .int) D 0 0 [.ref a0, .int a1] h (some (.int r.1)) r.2) (C : CT Y X RX11 cX11_sum 5) (O : RO X (D + 1) 0 0) {r : Int32 × AH} (E : RX Y X (some .int) (some (.int r.1)) r.2 0 0) {k6 : AH → Nat → Int32 → Int32 → Option (Int32 × AH)} (hk6 : ∀ (h : AH) (v0 : Nat) (v1 : Int32) (v2 : Int32), GO Y X 5 r h 0 0 6 [(0, .ref v0), (1, .int v1), (2, .int v2)] [] (k6 h v0 v1 v2)) : ∀ (h : AH) (v0 : Nat) (v1 : Int32) (v2 : Int32) (s0 : Int32), GO Y X 5 r h 0 0 45 [(0, .ref v0), (1, .int v1), (2, .int v2)] [.int s0] (fX11_sum_J45 rc k6 h v0 v1 v2 s0) := by
  intro h v0 v1 v2 s0
  unfold fX11_sum_J45
  refine go_istore_n (ls' := [(3, .int s0), (0, .ref v0), (1, .int v1), (2, .int v2)]) (pc := 45) C dX11_sum_45 (by decide) rfl ?_
  refine go_aload_n (pc := 46) C 1 dX11_sum_46 rfl ?_
  refine go_dup (pc := 47) C dX11_sum_47 rfl ?_
  refine go_gI (pc := 48) C fdX11_135 dX11_sum_48 (fun x1 => ?_)
  refine go_iconst (pc := 51) C dX11_sum_51 ki_1 ?_
  refine go_iadd (pc := 52) C dX11_sum_52 ?_
  refine go_pI (pc := 53) C fpX11_135 dX11_sum_53 (fun h2 => ?_)
  refine go_aload_n (pc := 56) C 1 dX11_sum_56 rfl ?_
  refine go_iload_n (pc := 57) C 2 dX11_sum_57 rfl ?_
  refine go_bind (fun q3 hq3 => ?_)
  refine go_callV (rest := []) (st' := [.int q3.1]) (c' := 0) (s' := 0) (pc := 58) C O miX11_195 mvX11_product [.int v1] rfl (hrc2 hq3).1 (hrc2 hq3).2 dX11_sum_58 ⟨by omega, by decide, by decide, by decide⟩ rfl (Nat.le_of_ble_eq_true rfl) rfl ⟨rfl, rfl⟩ ?_
  refine go_istore (ls' := [(4, .int q3.1), (3, .int s0), (0, .ref v0), (1, .int v1), (2, .int v2)]) (pc := 61) C dX11_sum_61 (by decide) rfl ?_
  refine go_iload_n (pc := 63) C 1 dX11_sum_63 rfl ?_
  refine go_if_eq (pc := 64) C 74 dX11_sum_64 (by decide) (fun _ => ?_) (fun _ => ?_)
  · refine go_iload_n (pc := 74) C 4 dX11_sum_74 rfl ?_
    refine go_iload (pc := 75) C 0 dX11_sum_75 rfl ?_
    refine go_isub (pc := 77) C dX11_sum_77 ?_
    refine go_istore_nL (pc := 78) C dX11_sum_78 (by decide) (fun x4 => [(2, .int x4), (4, .int q3.1), (3, .int s0), (0, .ref v0), (1, .int v1)]) (fun _ => rfl) (fun x4 => ?_)
    refine go_goto (pc := 79) C 6 dX11_sum_79 (by decide) ?_
    refine go_sub (ls' := [(0, .ref v0), (1, .int v1), (2, .int x4)]) [3, 4, 0] rfl ?_
    exact hk6 q3.2 v0 v1 x4
  · refine go_iload_n (pc := 67) C 4 dX11_sum_67 rfl ?_
    refine go_iload (pc := 68) C 0 dX11_sum_68 rfl ?_
    refine go_iadd (pc := 70) C dX11_sum_70 ?_
    refine go_goto (pc := 71) C 78 dX11_sum_71 (by decide) ?_
    refine go_istore_nL (pc := 78) C dX11_sum_78 (by decide) (fun x5 => [(2, .int x5), (4, .int q3.1), (3, .int s0), (0, .ref v0), (1, .int v1)]) (fun _ => rfl) (fun x5 => ?_)
    refine go_goto (pc := 79) C 6 dX11_sum_79 (by decide) ?_
    refine go_sub (ls' := [(0, .ref v0), (1, .int v1), (2, .int x5)]) [3, 4, 0] rfl ?_
    exact hk6 q3.2 v0 v1 x5
set_option maxHeartbeats 4000000 in
theorem gX11_sum_J31 {Y : YT} {X : XT} {rc : Nat → AH → Nat → Int32 → Option (Int32 × AH)} {D : Nat} (hD : 7 ≤ D) (hrc0 : ∀ {h : AH} {a0 : Nat} {a1 : Int32} {r : Int32 × AH}, rc 0 h a0 a1 = some r → hasC h 11 a0 = true ∧ MC yX11_held cX11_held 3 (some .int) D 0 0 [.ref a0, .int a1] h (some (.int r.1)) r.2) (hrc1 : ∀ {h : AH} {a0 : Nat} {a1 : Int32} {r : Int32 × AH}, rc 1 h a0 a1 = some r → hasC h 11 a0 = true ∧ MC yX11_sum cX11_sum 5 (some .int) D 0 0 [.ref a0, .int a1] h (some (.int r.1)) r.2) (hrc2 : ∀ {h : AH} {a0 : Nat} {a1 : Int32} {r : Int32 × AH}, rc 2 h a0 a1 = some r → hasC h 11 a0 = true ∧ MC yX11_product cX11_product 5 (some .int) D 0 0 [.ref a0, .int a1] h (some (.int r.1)) r.2) (hrc3 : ∀ {h : AH} {a0 : Nat} {a1 : Int32} {r : Int32 × AH}, rc 3 h a0 a1 = some r → hasC h 11 a0 = true ∧ MC yX11_thing cX11_thing 4 (some .int) D 0 0 [.ref a0, .int a1] h (some (.int r.1)) r.2) (C : CT Y X RX11 cX11_sum 5) (O : RO X (D + 1) 0 0) {r : Int32 × AH} (E : RX Y X (some .int) (some (.int r.1)) r.2 0 0) {k6 : AH → Nat → Int32 → Int32 → Option (Int32 × AH)} (hk6 : ∀ (h : AH) (v0 : Nat) (v1 : Int32) (v2 : Int32), GO Y X 5 r h 0 0 6 [(0, .ref v0), (1, .int v1), (2, .int v2)] [] (k6 h v0 v1 v2)) : ∀ (h : AH) (v0 : Nat) (v1 : Int32) (v2 : Int32), GO Y X 5 r h 0 0 31 [(0, .ref v0), (1, .int v1), (2, .int v2)] [] (fX11_sum_J31 rc k6 h v0 v1 v2) := by
  intro h v0 v1 v2
  unfold fX11_sum_J31
  refine go_aload_n (pc := 31) C 0 dX11_sum_31 rfl ?_
  refine go_bind (fun q6 hq6 => ?_)
  refine go_callV (rest := []) (st' := [.int q6]) (c' := 0) (s' := 0) (pc := 32) C O miX11_149 mvX11_here [] rfl (mX11_here hq6).1 (mX11_here hq6).2 dX11_sum_32 ⟨by omega, by decide, by decide, by decide⟩ rfl (Nat.le_of_ble_eq_true rfl) rfl ⟨rfl, rfl⟩ ?_
  refine go_bipush (pc := 35) C dX11_sum_35 kb_43 ?_
  refine go_icmp_ne (pc := 37) C 44 dX11_sum_37 (by decide) (fun _ => ?_) (fun _ => ?_)
  · refine go_iconst (pc := 40) C dX11_sum_40 ki_1 ?_
    refine go_goto (pc := 41) C 45 dX11_sum_41 (by decide) ?_
    refine go_sub (ls' := [(0, .ref v0), (1, .int v1), (2, .int v2)]) [0, 1, 2] rfl ?_
    refine gX11_sum_J45 hD hrc0 hrc1 hrc2 hrc3 C O E (hk6) h v0 v1 v2 1
  · refine go_iconst (pc := 44) C dX11_sum_44 ki_0 ?_
    refine go_sub (ls' := [(0, .ref v0), (1, .int v1), (2, .int v2)]) [0, 1, 2] rfl ?_
    refine gX11_sum_J45 hD hrc0 hrc1 hrc2 hrc3 C O E (hk6) h v0 v1 v2 0
set_option maxHeartbeats 4000000 in
theorem gX11_sum_L6 {Y : YT} {X : XT} {rc : Nat → AH → Nat → Int32 → Option (Int32 × AH)} {D : Nat} (hD : 7 ≤ D) (hrc0 : ∀ {h : AH} {a0 : Nat} {a1 : Int32} {r : Int32 × AH}, rc 0 h a0 a1 = some r → hasC h 11 a0 = true ∧ MC yX11_held cX11_held 3 (some .int) D 0 0 [.ref a0, .int a1] h (some (.int r.1)) r.2) (hrc1 : ∀ {h : AH} {a0 : Nat} {a1 : Int32} {r : Int32 × AH}, rc 1 h a0 a1 = some r → hasC h 11 a0 = true ∧ MC yX11_sum cX11_sum 5 (some .int) D 0 0 [.ref a0, .int a1] h (some (.int r.1)) r.2) (hrc2 : ∀ {h : AH} {a0 : Nat} {a1 : Int32} {r : Int32 × AH}, rc 2 h a0 a1 = some r → hasC h 11 a0 = true ∧ MC yX11_product cX11_product 5 (some .int) D 0 0 [.ref a0, .int a1] h (some (.int r.1)) r.2) (hrc3 : ∀ {h : AH} {a0 : Nat} {a1 : Int32} {r : Int32 × AH}, rc 3 h a0 a1 = some r → hasC h 11 a0 = true ∧ MC yX11_thing cX11_thing 4 (some .int) D 0 0 [.ref a0, .int a1] h (some (.int r.1)) r.2) (C : CT Y X RX11 cX11_sum 5) (O : RO X (D + 1) 0 0) {r : Int32 × AH} (E : RX Y X (some .int) (some (.int r.1)) r.2 0 0) : ∀ (n : Nat) (h : AH) (v0 : Nat) (v1 : Int32) (v2 : Int32), GO Y X 5 r h 0 0 6 [(0, .ref v0), (1, .int v1), (2, .int v2)] [] (fX11_sum_L6 rc n h v0 v1 v2) := by
  intro n
  induction n with
  | zero => intros; exact go_none _ _ _
  | succ n ih =>
    intro h v0 v1 v2
    rw [fX11_sum_L6]
    refine go_aload_n (pc := 6) C 0 dX11_sum_6 rfl ?_
    refine go_bind (fun q7 hq7 => ?_)
    refine go_callV (rest := []) (st' := [.int (b2i q7)]) (c' := 0) (s' := 0) (pc := 7) C O miX11_145 mvX11_fine [] rfl (mX11_fine hq7).1 (mX11_fine hq7).2 dX11_sum_7 ⟨by omega, by decide, by decide, by decide⟩ rfl (Nat.le_of_ble_eq_true rfl) rfl ⟨rfl, rfl⟩ ?_
    refine go_ifZ_eq (pc := 10) C 82 dX11_sum_10 (by decide) (fun _ => ?_) (fun _ => ?_)
    · refine go_aload_n (pc := 13) C 0 dX11_sum_13 rfl ?_
      refine go_bind (fun q8 hq8 => ?_)
      refine go_callV (rest := []) (st' := [.int q8]) (c' := 0) (s' := 0) (pc := 14) C O miX11_149 mvX11_here [] rfl (mX11_here hq8).1 (mX11_here hq8).2 dX11_sum_14 ⟨by omega, by decide, by decide, by decide⟩ rfl (Nat.le_of_ble_eq_true rfl) rfl ⟨rfl, rfl⟩ ?_
      refine go_bipush (pc := 17) C dX11_sum_17 kb_43 ?_
      refine go_icmp_eq (pc := 19) C 31 dX11_sum_19 (by decide) (fun _ => ?_) (fun _ => ?_)
      · refine go_sub (ls' := [(0, .ref v0), (1, .int v1), (2, .int v2)]) [0, 1, 2] rfl ?_
        refine gX11_sum_J31 hD hrc0 hrc1 hrc2 hrc3 C O E (ih) h v0 v1 v2
      · refine go_aload_n (pc := 22) C 0 dX11_sum_22 rfl ?_
        refine go_bind (fun q9 hq9 => ?_)
        refine go_callV (rest := []) (st' := [.int q9]) (c' := 0) (s' := 0) (pc := 23) C O miX11_149 mvX11_here [] rfl (mX11_here hq9).1 (mX11_here hq9).2 dX11_sum_23 ⟨by omega, by decide, by decide, by decide⟩ rfl (Nat.le_of_ble_eq_true rfl) rfl ⟨rfl, rfl⟩ ?_
        refine go_bipush (pc := 26) C dX11_sum_26 kb_45 ?_
        refine go_icmp_ne (pc := 28) C 82 dX11_sum_28 (by decide) (fun _ => ?_) (fun _ => ?_)
        · refine go_sub (ls' := [(0, .ref v0), (1, .int v1), (2, .int v2)]) [0, 1, 2] rfl ?_
          refine gX11_sum_J31 hD hrc0 hrc1 hrc2 hrc3 C O E (ih) h v0 v1 v2
        · refine go_iload_n (pc := 82) C 2 dX11_sum_82 rfl ?_
          exact go_iret (w := wIh) (pc := 83) C E ((v2, h)) v2 dX11_sum_83 rfl
    · refine go_iload_n (pc := 82) C 2 dX11_sum_82 rfl ?_
      exact go_iret (w := wIh) (pc := 83) C E ((v2, h)) v2 dX11_sum_83 rfl
set_option maxHeartbeats 4000000 in
theorem mX11_sum_b {h : AH} {a0 : Nat} {a1 : Int32} {r : Int32 × AH} {rc : Nat → AH → Nat → Int32 → Option (Int32 × AH)} {D : Nat} (hD : 7 ≤ D) (hrc0 : ∀ {h : AH} {a0 : Nat} {a1 : Int32} {r : Int32 × AH}, rc 0 h a0 a1 = some r → hasC h 11 a0 = true ∧ MC yX11_held cX11_held 3 (some .int) D 0 0 [.ref a0, .int a1] h (some (.int r.1)) r.2) (hrc1 : ∀ {h : AH} {a0 : Nat} {a1 : Int32} {r : Int32 × AH}, rc 1 h a0 a1 = some r → hasC h 11 a0 = true ∧ MC yX11_sum cX11_sum 5 (some .int) D 0 0 [.ref a0, .int a1] h (some (.int r.1)) r.2) (hrc2 : ∀ {h : AH} {a0 : Nat} {a1 : Int32} {r : Int32 × AH}, rc 2 h a0 a1 = some r → hasC h 11 a0 = true ∧ MC yX11_product cX11_product 5 (some .int) D 0 0 [.ref a0, .int a1] h (some (.int r.1)) r.2) (hrc3 : ∀ {h : AH} {a0 : Nat} {a1 : Int32} {r : Int32 × AH}, rc 3 h a0 a1 = some r → hasC h 11 a0 = true ∧ MC yX11_thing cX11_thing 4 (some .int) D 0 0 [.ref a0, .int a1] h (some (.int r.1)) r.2) (hr : fX11_sum_b rc h a0 a1 = some r) : hasC h 11 a0 = true ∧ MC yX11_sum cX11_sum 5 (some .int) (D + 1) 0 0 [.ref a0, .int a1] h (some (.int r.1)) r.2 := by
  unfold fX11_sum_b at hr
  obtain ⟨hc, hr⟩ := if_some hr
  refine ⟨hc, mc_of (l0 := [(0, .ref a0), (1, .int a1)]) rfl pn_X11 (Nat.le_of_ble_eq_true rfl) (fun Y X C E O hnm => go_run hr ?_)⟩
  have C : CT Y X RX11 cX11_sum 5 := C
  refine go_aload_n (pc := 0) C 0 dX11_sum_0 rfl ?_
  refine go_iload_n (pc := 1) C 1 dX11_sum_1 rfl ?_
  refine go_bind (fun q10 hq10 => ?_)
  refine go_callV (rest := []) (st' := [.int q10.1]) (c' := 0) (s' := 0) (pc := 2) C O miX11_195 mvX11_product [.int a1] rfl (hrc2 hq10).1 (hrc2 hq10).2 dX11_sum_2 ⟨by omega, by decide, by decide, by decide⟩ rfl (Nat.le_of_ble_eq_true rfl) rfl ⟨rfl, rfl⟩ ?_
  refine go_istore_n (ls' := [(2, .int q10.1), (0, .ref a0), (1, .int a1)]) (pc := 5) C dX11_sum_5 (by decide) rfl ?_
  refine go_sub (ls' := [(0, .ref a0), (1, .int a1), (2, .int q10.1)]) [1, 2, 0] rfl ?_
  refine gX11_sum_L6 hD hrc0 hrc1 hrc2 hrc3 C O E FU q10.2 a0 a1 q10.1
set_option maxHeartbeats 4000000 in
theorem gX11_product_J45 {Y : YT} {X : XT} {rc : Nat → AH → Nat → Int32 → Option (Int32 × AH)} {D : Nat} (hD : 7 ≤ D) (hrc0 : ∀ {h : AH} {a0 : Nat} {a1 : Int32} {r : Int32 × AH}, rc 0 h a0 a1 = some r → hasC h 11 a0 = true ∧ MC yX11_held cX11_held 3 (some .int) D 0 0 [.ref a0, .int a1] h (some (.int r.1)) r.2) (hrc1 : ∀ {h : AH} {a0 : Nat} {a1 : Int32} {r : Int32 × AH}, rc 1 h a0 a1 = some r → hasC h 11 a0 = true ∧ MC yX11_sum cX11_sum 5 (some .int) D 0 0 [.ref a0, .int a1] h (some (.int r.1)) r.2) (hrc2 : ∀ {h : AH} {a0 : Nat} {a1 : Int32} {r : Int32 × AH}, rc 2 h a0 a1 = some r → hasC h 11 a0 = true ∧ MC yX11_product cX11_product 5 (some .int) D 0 0 [.ref a0, .int a1] h (some (.int r.1)) r.2) (hrc3 : ∀ {h : AH} {a0 : Nat} {a1 : Int32} {r : Int32 × AH}, rc 3 h a0 a1 = some r → hasC h 11 a0 = true ∧ MC yX11_thing cX11_thing 4 (some .int) D 0 0 [.ref a0, .int a1] h (some (.int r.1)) r.2) (C : CT Y X RX11 cX11_product 5) (O : RO X (D + 1) 0 0) {r : Int32 × AH} (E : RX Y X (some .int) (some (.int r.1)) r.2 0 0) {k6 : AH → Nat → Int32 → Int32 → Option (Int32 × AH)} (hk6 : ∀ (h : AH) (v0 : Nat) (v1 : Int32) (v2 : Int32), GO Y X 5 r h 0 0 6 [(0, .ref v0), (1, .int v1), (2, .int v2)] [] (k6 h v0 v1 v2)) : ∀ (h : AH) (v0 : Nat) (v1 : Int32) (v2 : Int32) (s0 : Int32), GO Y X 5 r h 0 0 45 [(0, .ref v0), (1, .int v1), (2, .int v2)] [.int s0] (fX11_product_J45 rc k6 h v0 v1 v2 s0) := by
  intro h v0 v1 v2 s0
  unfold fX11_product_J45
  refine go_istore_n (ls' := [(3, .int s0), (0, .ref v0), (1, .int v1), (2, .int v2)]) (pc := 45) C dX11_product_45 (by decide) rfl ?_
  refine go_aload_n (pc := 46) C 1 dX11_product_46 rfl ?_
  refine go_dup (pc := 47) C dX11_product_47 rfl ?_
  refine go_gI (pc := 48) C fdX11_135 dX11_product_48 (fun x1 => ?_)
  refine go_iconst (pc := 51) C dX11_product_51 ki_1 ?_
  refine go_iadd (pc := 52) C dX11_product_52 ?_
  refine go_pI (pc := 53) C fpX11_135 dX11_product_53 (fun h2 => ?_)
  refine go_aload_n (pc := 56) C 1 dX11_product_56 rfl ?_
  refine go_iload_n (pc := 57) C 2 dX11_product_57 rfl ?_
  refine go_bind (fun q3 hq3 => ?_)
  refine go_callV (rest := []) (st' := [.int q3.1]) (c' := 0) (s' := 0) (pc := 58) C O miX11_198 mvX11_thing [.int v1] rfl (hrc3 hq3).1 (hrc3 hq3).2 dX11_product_58 ⟨by omega, by decide, by decide, by decide⟩ rfl (Nat.le_of_ble_eq_true rfl) rfl ⟨rfl, rfl⟩ ?_
  refine go_istore (ls' := [(4, .int q3.1), (3, .int s0), (0, .ref v0), (1, .int v1), (2, .int v2)]) (pc := 61) C dX11_product_61 (by decide) rfl ?_
  refine go_iload_n (pc := 63) C 1 dX11_product_63 rfl ?_
  refine go_if_eq (pc := 64) C 74 dX11_product_64 (by decide) (fun _ => ?_) (fun _ => ?_)
  · refine go_iload (pc := 74) C 0 dX11_product_74 rfl ?_
    refine go_if_ne (pc := 76) C 83 dX11_product_76 (by decide) (fun _ => ?_) (fun _ => ?_)
    · refine go_iconst (pc := 79) C dX11_product_79 ki_0 ?_
      refine go_goto (pc := 80) C 87 dX11_product_80 (by decide) ?_
      refine go_istore_n (ls' := [(2, .int 0), (4, .int q3.1), (3, .int s0), (0, .ref v0), (1, .int v1)]) (pc := 87) C dX11_product_87 (by decide) rfl ?_
      refine go_goto (pc := 88) C 6 dX11_product_88 (by decide) ?_
      refine go_sub (ls' := [(0, .ref v0), (1, .int v1), (2, .int 0)]) [3, 4, 0] rfl ?_
      exact hk6 q3.2 v0 v1 0
    · refine go_iload_n (pc := 83) C 4 dX11_product_83 rfl ?_
      refine go_iload (pc := 84) C 0 dX11_product_84 rfl ?_
      refine go_idiv (pc := 86) C dX11_product_86 (fun x4 => ?_)
      refine go_istore_n (ls' := [(2, .int x4), (4, .int q3.1), (3, .int s0), (0, .ref v0), (1, .int v1)]) (pc := 87) C dX11_product_87 (by decide) rfl ?_
      refine go_goto (pc := 88) C 6 dX11_product_88 (by decide) ?_
      refine go_sub (ls' := [(0, .ref v0), (1, .int v1), (2, .int x4)]) [3, 4, 0] rfl ?_
      exact hk6 q3.2 v0 v1 x4
  · refine go_iload_n (pc := 67) C 4 dX11_product_67 rfl ?_
    refine go_iload (pc := 68) C 0 dX11_product_68 rfl ?_
    refine go_imul (pc := 70) C dX11_product_70 ?_
    refine go_goto (pc := 71) C 87 dX11_product_71 (by decide) ?_
    refine go_istore_nL (pc := 87) C dX11_product_87 (by decide) (fun x5 => [(2, .int x5), (4, .int q3.1), (3, .int s0), (0, .ref v0), (1, .int v1)]) (fun _ => rfl) (fun x5 => ?_)
    refine go_goto (pc := 88) C 6 dX11_product_88 (by decide) ?_
    refine go_sub (ls' := [(0, .ref v0), (1, .int v1), (2, .int x5)]) [3, 4, 0] rfl ?_
    exact hk6 q3.2 v0 v1 x5
set_option maxHeartbeats 4000000 in
theorem gX11_product_J31 {Y : YT} {X : XT} {rc : Nat → AH → Nat → Int32 → Option (Int32 × AH)} {D : Nat} (hD : 7 ≤ D) (hrc0 : ∀ {h : AH} {a0 : Nat} {a1 : Int32} {r : Int32 × AH}, rc 0 h a0 a1 = some r → hasC h 11 a0 = true ∧ MC yX11_held cX11_held 3 (some .int) D 0 0 [.ref a0, .int a1] h (some (.int r.1)) r.2) (hrc1 : ∀ {h : AH} {a0 : Nat} {a1 : Int32} {r : Int32 × AH}, rc 1 h a0 a1 = some r → hasC h 11 a0 = true ∧ MC yX11_sum cX11_sum 5 (some .int) D 0 0 [.ref a0, .int a1] h (some (.int r.1)) r.2) (hrc2 : ∀ {h : AH} {a0 : Nat} {a1 : Int32} {r : Int32 × AH}, rc 2 h a0 a1 = some r → hasC h 11 a0 = true ∧ MC yX11_product cX11_product 5 (some .int) D 0 0 [.ref a0, .int a1] h (some (.int r.1)) r.2) (hrc3 : ∀ {h : AH} {a0 : Nat} {a1 : Int32} {r : Int32 × AH}, rc 3 h a0 a1 = some r → hasC h 11 a0 = true ∧ MC yX11_thing cX11_thing 4 (some .int) D 0 0 [.ref a0, .int a1] h (some (.int r.1)) r.2) (C : CT Y X RX11 cX11_product 5) (O : RO X (D + 1) 0 0) {r : Int32 × AH} (E : RX Y X (some .int) (some (.int r.1)) r.2 0 0) {k6 : AH → Nat → Int32 → Int32 → Option (Int32 × AH)} (hk6 : ∀ (h : AH) (v0 : Nat) (v1 : Int32) (v2 : Int32), GO Y X 5 r h 0 0 6 [(0, .ref v0), (1, .int v1), (2, .int v2)] [] (k6 h v0 v1 v2)) : ∀ (h : AH) (v0 : Nat) (v1 : Int32) (v2 : Int32), GO Y X 5 r h 0 0 31 [(0, .ref v0), (1, .int v1), (2, .int v2)] [] (fX11_product_J31 rc k6 h v0 v1 v2) := by
  intro h v0 v1 v2
  unfold fX11_product_J31
  refine go_aload_n (pc := 31) C 0 dX11_product_31 rfl ?_
  refine go_bind (fun q6 hq6 => ?_)
  refine go_callV (rest := []) (st' := [.int q6]) (c' := 0) (s' := 0) (pc := 32) C O miX11_149 mvX11_here [] rfl (mX11_here hq6).1 (mX11_here hq6).2 dX11_product_32 ⟨by omega, by decide, by decide, by decide⟩ rfl (Nat.le_of_ble_eq_true rfl) rfl ⟨rfl, rfl⟩ ?_
  refine go_bipush (pc := 35) C dX11_product_35 kb_42 ?_
  refine go_icmp_ne (pc := 37) C 44 dX11_product_37 (by decide) (fun _ => ?_) (fun _ => ?_)
  · refine go_iconst (pc := 40) C dX11_product_40 ki_1 ?_
    refine go_goto (pc := 41) C 45 dX11_product_41 (by decide) ?_
    refine go_sub (ls' := [(0, .ref v0), (1, .int v1), (2, .int v2)]) [0, 1, 2] rfl ?_
    refine gX11_product_J45 hD hrc0 hrc1 hrc2 hrc3 C O E (hk6) h v0 v1 v2 1
  · refine go_iconst (pc := 44) C dX11_product_44 ki_0 ?_
    refine go_sub (ls' := [(0, .ref v0), (1, .int v1), (2, .int v2)]) [0, 1, 2] rfl ?_
    refine gX11_product_J45 hD hrc0 hrc1 hrc2 hrc3 C O E (hk6) h v0 v1 v2 0
set_option maxHeartbeats 4000000 in
theorem gX11_product_L6 {Y : YT} {X : XT} {rc : Nat → AH → Nat → Int32 → Option (Int32 × AH)} {D : Nat} (hD : 7 ≤ D) (hrc0 : ∀ {h : AH} {a0 : Nat} {a1 : Int32} {r : Int32 × AH}, rc 0 h a0 a1 = some r → hasC h 11 a0 = true ∧ MC yX11_held cX11_held 3 (some .int) D 0 0 [.ref a0, .int a1] h (some (.int r.1)) r.2) (hrc1 : ∀ {h : AH} {a0 : Nat} {a1 : Int32} {r : Int32 × AH}, rc 1 h a0 a1 = some r → hasC h 11 a0 = true ∧ MC yX11_sum cX11_sum 5 (some .int) D 0 0 [.ref a0, .int a1] h (some (.int r.1)) r.2) (hrc2 : ∀ {h : AH} {a0 : Nat} {a1 : Int32} {r : Int32 × AH}, rc 2 h a0 a1 = some r → hasC h 11 a0 = true ∧ MC yX11_product cX11_product 5 (some .int) D 0 0 [.ref a0, .int a1] h (some (.int r.1)) r.2) (hrc3 : ∀ {h : AH} {a0 : Nat} {a1 : Int32} {r : Int32 × AH}, rc 3 h a0 a1 = some r → hasC h 11 a0 = true ∧ MC yX11_thing cX11_thing 4 (some .int) D 0 0 [.ref a0, .int a1] h (some (.int r.1)) r.2) (C : CT Y X RX11 cX11_product 5) (O : RO X (D + 1) 0 0) {r : Int32 × AH} (E : RX Y X (some .int) (some (.int r.1)) r.2 0 0) : ∀ (n : Nat) (h : AH) (v0 : Nat) (v1 : Int32) (v2 : Int32), GO Y X 5 r h 0 0 6 [(0, .ref v0), (1, .int v1), (2, .int v2)] [] (fX11_product_L6 rc n h v0 v1 v2) := by
  intro n
  induction n with
  | zero => intros; exact go_none _ _ _
  | succ n ih =>
    intro h v0 v1 v2
    rw [fX11_product_L6]
    refine go_aload_n (pc := 6) C 0 dX11_product_6 rfl ?_
    refine go_bind (fun q7 hq7 => ?_)
    refine go_callV (rest := []) (st' := [.int (b2i q7)]) (c' := 0) (s' := 0) (pc := 7) C O miX11_145 mvX11_fine [] rfl (mX11_fine hq7).1 (mX11_fine hq7).2 dX11_product_7 ⟨by omega, by decide, by decide, by decide⟩ rfl (Nat.le_of_ble_eq_true rfl) rfl ⟨rfl, rfl⟩ ?_
    refine go_ifZ_eq (pc := 10) C 91 dX11_product_10 (by decide) (fun _ => ?_) (fun _ => ?_)
    · refine go_aload_n (pc := 13) C 0 dX11_product_13 rfl ?_
      refine go_bind (fun q8 hq8 => ?_)
      refine go_callV (rest := []) (st' := [.int q8]) (c' := 0) (s' := 0) (pc := 14) C O miX11_149 mvX11_here [] rfl (mX11_here hq8).1 (mX11_here hq8).2 dX11_product_14 ⟨by omega, by decide, by decide, by decide⟩ rfl (Nat.le_of_ble_eq_true rfl) rfl ⟨rfl, rfl⟩ ?_
      refine go_bipush (pc := 17) C dX11_product_17 kb_42 ?_
      refine go_icmp_eq (pc := 19) C 31 dX11_product_19 (by decide) (fun _ => ?_) (fun _ => ?_)
      · refine go_sub (ls' := [(0, .ref v0), (1, .int v1), (2, .int v2)]) [0, 1, 2] rfl ?_
        refine gX11_product_J31 hD hrc0 hrc1 hrc2 hrc3 C O E (ih) h v0 v1 v2
      · refine go_aload_n (pc := 22) C 0 dX11_product_22 rfl ?_
        refine go_bind (fun q9 hq9 => ?_)
        refine go_callV (rest := []) (st' := [.int q9]) (c' := 0) (s' := 0) (pc := 23) C O miX11_149 mvX11_here [] rfl (mX11_here hq9).1 (mX11_here hq9).2 dX11_product_23 ⟨by omega, by decide, by decide, by decide⟩ rfl (Nat.le_of_ble_eq_true rfl) rfl ⟨rfl, rfl⟩ ?_
        refine go_bipush (pc := 26) C dX11_product_26 kb_47 ?_
        refine go_icmp_ne (pc := 28) C 91 dX11_product_28 (by decide) (fun _ => ?_) (fun _ => ?_)
        · refine go_sub (ls' := [(0, .ref v0), (1, .int v1), (2, .int v2)]) [0, 1, 2] rfl ?_
          refine gX11_product_J31 hD hrc0 hrc1 hrc2 hrc3 C O E (ih) h v0 v1 v2
        · refine go_iload_n (pc := 91) C 2 dX11_product_91 rfl ?_
          exact go_iret (w := wIh) (pc := 92) C E ((v2, h)) v2 dX11_product_92 rfl
    · refine go_iload_n (pc := 91) C 2 dX11_product_91 rfl ?_
      exact go_iret (w := wIh) (pc := 92) C E ((v2, h)) v2 dX11_product_92 rfl
set_option maxHeartbeats 4000000 in
theorem mX11_product_b {h : AH} {a0 : Nat} {a1 : Int32} {r : Int32 × AH} {rc : Nat → AH → Nat → Int32 → Option (Int32 × AH)} {D : Nat} (hD : 7 ≤ D) (hrc0 : ∀ {h : AH} {a0 : Nat} {a1 : Int32} {r : Int32 × AH}, rc 0 h a0 a1 = some r → hasC h 11 a0 = true ∧ MC yX11_held cX11_held 3 (some .int) D 0 0 [.ref a0, .int a1] h (some (.int r.1)) r.2) (hrc1 : ∀ {h : AH} {a0 : Nat} {a1 : Int32} {r : Int32 × AH}, rc 1 h a0 a1 = some r → hasC h 11 a0 = true ∧ MC yX11_sum cX11_sum 5 (some .int) D 0 0 [.ref a0, .int a1] h (some (.int r.1)) r.2) (hrc2 : ∀ {h : AH} {a0 : Nat} {a1 : Int32} {r : Int32 × AH}, rc 2 h a0 a1 = some r → hasC h 11 a0 = true ∧ MC yX11_product cX11_product 5 (some .int) D 0 0 [.ref a0, .int a1] h (some (.int r.1)) r.2) (hrc3 : ∀ {h : AH} {a0 : Nat} {a1 : Int32} {r : Int32 × AH}, rc 3 h a0 a1 = some r → hasC h 11 a0 = true ∧ MC yX11_thing cX11_thing 4 (some .int) D 0 0 [.ref a0, .int a1] h (some (.int r.1)) r.2) (hr : fX11_product_b rc h a0 a1 = some r) : hasC h 11 a0 = true ∧ MC yX11_product cX11_product 5 (some .int) (D + 1) 0 0 [.ref a0, .int a1] h (some (.int r.1)) r.2 := by
  unfold fX11_product_b at hr
  obtain ⟨hc, hr⟩ := if_some hr
  refine ⟨hc, mc_of (l0 := [(0, .ref a0), (1, .int a1)]) rfl pn_X11 (Nat.le_of_ble_eq_true rfl) (fun Y X C E O hnm => go_run hr ?_)⟩
  have C : CT Y X RX11 cX11_product 5 := C
  refine go_aload_n (pc := 0) C 0 dX11_product_0 rfl ?_
  refine go_iload_n (pc := 1) C 1 dX11_product_1 rfl ?_
  refine go_bind (fun q10 hq10 => ?_)
  refine go_callV (rest := []) (st' := [.int q10.1]) (c' := 0) (s' := 0) (pc := 2) C O miX11_198 mvX11_thing [.int a1] rfl (hrc3 hq10).1 (hrc3 hq10).2 dX11_product_2 ⟨by omega, by decide, by decide, by decide⟩ rfl (Nat.le_of_ble_eq_true rfl) rfl ⟨rfl, rfl⟩ ?_
  refine go_istore_n (ls' := [(2, .int q10.1), (0, .ref a0), (1, .int a1)]) (pc := 5) C dX11_product_5 (by decide) rfl ?_
  refine go_sub (ls' := [(0, .ref a0), (1, .int a1), (2, .int q10.1)]) [1, 2, 0] rfl ?_
  refine gX11_product_L6 hD hrc0 hrc1 hrc2 hrc3 C O E FU q10.2 a0 a1 q10.1
set_option maxHeartbeats 4000000 in
theorem gX11_thing_J67 {Y : YT} {X : XT} {rc : Nat → AH → Nat → Int32 → Option (Int32 × AH)} {D : Nat} (hD : 7 ≤ D) (hrc0 : ∀ {h : AH} {a0 : Nat} {a1 : Int32} {r : Int32 × AH}, rc 0 h a0 a1 = some r → hasC h 11 a0 = true ∧ MC yX11_held cX11_held 3 (some .int) D 0 0 [.ref a0, .int a1] h (some (.int r.1)) r.2) (hrc1 : ∀ {h : AH} {a0 : Nat} {a1 : Int32} {r : Int32 × AH}, rc 1 h a0 a1 = some r → hasC h 11 a0 = true ∧ MC yX11_sum cX11_sum 5 (some .int) D 0 0 [.ref a0, .int a1] h (some (.int r.1)) r.2) (hrc2 : ∀ {h : AH} {a0 : Nat} {a1 : Int32} {r : Int32 × AH}, rc 2 h a0 a1 = some r → hasC h 11 a0 = true ∧ MC yX11_product cX11_product 5 (some .int) D 0 0 [.ref a0, .int a1] h (some (.int r.1)) r.2) (hrc3 : ∀ {h : AH} {a0 : Nat} {a1 : Int32} {r : Int32 × AH}, rc 3 h a0 a1 = some r → hasC h 11 a0 = true ∧ MC yX11_thing cX11_thing 4 (some .int) D 0 0 [.ref a0, .int a1] h (some (.int r.1)) r.2) (C : CT Y X RX11 cX11_thing 4) (O : RO X (D + 1) 0 0) {r : Int32 × AH} (E : RX Y X (some .int) (some (.int r.1)) r.2 0 0) : ∀ (h : AH) (v0 : Nat) (v2 : Int32), GO Y X 4 r h 0 0 67 [(0, .ref v0), (2, .int v2)] [] (fX11_thing_J67 rc h v0 v2) := by
  intro h v0 v2
  unfold fX11_thing_J67
  refine go_iload_n (pc := 67) C 1 dX11_thing_67 rfl ?_
  refine go_bipush (pc := 68) C dX11_thing_68 kb_48 ?_
  refine go_bipush (pc := 70) C dX11_thing_70 kb_57 ?_
  refine go_bind (fun q1 hq1 => ?_)
  refine go_callS (rest := []) (st' := [.int (b2i q1)]) (c' := 0) (s' := 0) (pc := 72) C O miX11_84 w_1437 [.int v2, .int 48, .int 57] rfl (mX11_in hq1) dX11_thing_72 ⟨by omega, by decide, by decide, by decide⟩ rfl (Nat.le_of_ble_eq_true rfl) rfl ⟨rfl, rfl⟩ ?_
  refine go_ifZ_eq (pc := 75) C 84 dX11_thing_75 (by decide) (fun _ => ?_) (fun _ => ?_)
  · refine go_aload_n (pc := 78) C 0 dX11_thing_78 rfl ?_
    refine go_iconst (pc := 79) C dX11_thing_79 ki_3 ?_
    refine go_bind (fun q2 hq2 => ?_)
    refine go_callV (rest := []) (st' := [.int q2.1]) (c' := 0) (s' := 0) (pc := 80) C O miX11_208 mvX11_number [.int 3] rfl (mX11_number hq2).1 (mX11_number hq2).2 dX11_thing_80 ⟨by omega, by decide, by decide, by decide⟩ rfl (Nat.le_of_ble_eq_true rfl) rfl ⟨rfl, rfl⟩ ?_
    exact go_iret (w := wIh) (pc := 83) C E ((q2.1, q2.2)) q2.1 dX11_thing_83 rfl
  · refine go_iload_n (pc := 84) C 1 dX11_thing_84 rfl ?_
    refine go_bind (fun q3 hq3 => ?_)
    refine go_callS (rest := []) (st' := [.int q3]) (c' := 0) (s' := 0) (pc := 85) C O miX11_211 w_1544 [.int v2] rfl (mX11_letterOf hq3) dX11_thing_85 ⟨by omega, by decide, by decide, by decide⟩ rfl (Nat.le_of_ble_eq_true rfl) rfl ⟨rfl, rfl⟩ ?_
    refine go_iconst (pc := 88) C dX11_thing_88 ki_m1 ?_
    refine go_icmp_ne (pc := 89) C 102 dX11_thing_89 (by decide) (fun _ => ?_) (fun _ => ?_)
    · refine go_aload_n (pc := 92) C 0 dX11_thing_92 rfl ?_
      refine go_aload_n (pc := 93) C 0 dX11_thing_93 rfl ?_
      refine go_gI (pc := 94) C fdX11_135 dX11_thing_94 (fun x4 => ?_)
      refine go_bind (fun q5 hq5 => ?_)
      refine go_callV (rest := []) (st' := []) (c' := 0) (s' := 0) (pc := 97) C O miX11_157 mvX11_fault [.int x4] rfl (mX11_fault hq5).1 (mX11_fault hq5).2 dX11_thing_97 ⟨by omega, by decide, by decide, by decide⟩ rfl (Nat.le_of_ble_eq_true rfl) rfl ⟨rfl, rfl⟩ ?_
      refine go_iconst (pc := 100) C dX11_thing_100 ki_0 ?_
      exact go_iret (w := wIh) (pc := 101) C E ((0, q5)) 0 dX11_thing_101 rfl
    · refine go_aload_n (pc := 102) C 0 dX11_thing_102 rfl ?_
      refine go_dup (pc := 103) C dX11_thing_103 rfl ?_
      refine go_gI (pc := 104) C fdX11_135 dX11_thing_104 (fun x6 => ?_)
      refine go_iconst (pc := 107) C dX11_thing_107 ki_1 ?_
      refine go_iadd (pc := 108) C dX11_thing_108 ?_
      refine go_pI (pc := 109) C fpX11_135 dX11_thing_109 (fun h7 => ?_)
      refine go_aload_n (pc := 112) C 0 dX11_thing_112 rfl ?_
      refine go_gZ (pc := 113) C fdX11_214 dX11_thing_113 (fun x8 => ?_)
      refine go_ifZ_eq (pc := 116) C 131 dX11_thing_116 (by decide) (fun _ => ?_) (fun _ => ?_)
      · refine go_aload_n (pc := 119) C 0 dX11_thing_119 rfl ?_
        refine go_gR (pc := 120) C fdX11_30 dX11_thing_120 (fun x9 => ?_)
        refine go_iload_n (pc := 123) C 1 dX11_thing_123 rfl ?_
        refine go_bind (fun q10 hq10 => ?_)
        refine go_callS (rest := [.ref x9]) (st' := [.int q10, .ref x9]) (c' := 0) (s' := 0) (pc := 124) C O miX11_211 w_1544 [.int v2] rfl (mX11_letterOf hq10) dX11_thing_124 ⟨by omega, by decide, by decide, by decide⟩ rfl (Nat.le_of_ble_eq_true rfl) rfl ⟨rfl, rfl⟩ ?_
        refine go_iald (pc := 127) C dX11_thing_127 (fun x11 => ?_)
        refine go_goto (pc := 128) C 132 dX11_thing_128 (by decide) ?_
        exact go_iret (w := wIh) (pc := 132) C E ((x11, h7)) x11 dX11_thing_132 rfl
      · refine go_iconst (pc := 131) C dX11_thing_131 ki_0 ?_
        exact go_iret (w := wIh) (pc := 132) C E ((0, h7)) 0 dX11_thing_132 rfl
set_option maxHeartbeats 4000000 in
theorem mX11_thing_b {h : AH} {a0 : Nat} {a1 : Int32} {r : Int32 × AH} {rc : Nat → AH → Nat → Int32 → Option (Int32 × AH)} {D : Nat} (hD : 7 ≤ D) (hrc0 : ∀ {h : AH} {a0 : Nat} {a1 : Int32} {r : Int32 × AH}, rc 0 h a0 a1 = some r → hasC h 11 a0 = true ∧ MC yX11_held cX11_held 3 (some .int) D 0 0 [.ref a0, .int a1] h (some (.int r.1)) r.2) (hrc1 : ∀ {h : AH} {a0 : Nat} {a1 : Int32} {r : Int32 × AH}, rc 1 h a0 a1 = some r → hasC h 11 a0 = true ∧ MC yX11_sum cX11_sum 5 (some .int) D 0 0 [.ref a0, .int a1] h (some (.int r.1)) r.2) (hrc2 : ∀ {h : AH} {a0 : Nat} {a1 : Int32} {r : Int32 × AH}, rc 2 h a0 a1 = some r → hasC h 11 a0 = true ∧ MC yX11_product cX11_product 5 (some .int) D 0 0 [.ref a0, .int a1] h (some (.int r.1)) r.2) (hrc3 : ∀ {h : AH} {a0 : Nat} {a1 : Int32} {r : Int32 × AH}, rc 3 h a0 a1 = some r → hasC h 11 a0 = true ∧ MC yX11_thing cX11_thing 4 (some .int) D 0 0 [.ref a0, .int a1] h (some (.int r.1)) r.2) (hr : fX11_thing_b rc h a0 a1 = some r) : hasC h 11 a0 = true ∧ MC yX11_thing cX11_thing 4 (some .int) (D + 1) 0 0 [.ref a0, .int a1] h (some (.int r.1)) r.2 := by
  unfold fX11_thing_b at hr
  obtain ⟨hc, hr⟩ := if_some hr
  refine ⟨hc, mc_of (l0 := [(0, .ref a0), (1, .int a1)]) rfl pn_X11 (Nat.le_of_ble_eq_true rfl) (fun Y X C E O hnm => go_run hr ?_)⟩
  have C : CT Y X RX11 cX11_thing 4 := C
  refine go_aload_n (pc := 0) C 0 dX11_thing_0 rfl ?_
  refine go_bipush (pc := 1) C dX11_thing_1 kb_45 ?_
  refine go_bind (fun q12 hq12 => ?_)
  refine go_callV (rest := []) (st' := [.int (b2i q12.1)]) (c' := 0) (s' := 0) (pc := 3) C O miX11_153 mvX11_passes [.int 45] rfl (mX11_passes hq12).1 (mX11_passes hq12).2 dX11_thing_3 ⟨by omega, by decide, by decide, by decide⟩ rfl (Nat.le_of_ble_eq_true rfl) rfl ⟨rfl, rfl⟩ ?_
  refine go_ifZ_eq (pc := 6) C 16 dX11_thing_6 (by decide) (fun _ => ?_) (fun _ => ?_)
  · refine go_aload_n (pc := 9) C 0 dX11_thing_9 rfl ?_
    refine go_iload_n (pc := 10) C 1 dX11_thing_10 rfl ?_
    refine go_bind (fun q13 hq13 => ?_)
    refine go_callV (rest := []) (st' := [.int q13.1]) (c' := 0) (s' := 0) (pc := 11) C O miX11_198 mvX11_thing [.int a1] rfl (hrc3 hq13).1 (hrc3 hq13).2 dX11_thing_11 ⟨by omega, by decide, by decide, by decide⟩ rfl (Nat.le_of_ble_eq_true rfl) rfl ⟨rfl, rfl⟩ ?_
    refine go_ineg (pc := 14) C dX11_thing_14 ?_
    exact go_iret (w := wIh) (pc := 15) C E ((-q13.1, q13.2)) (-q13.1) dX11_thing_15 rfl
  · refine go_aload_n (pc := 16) C 0 dX11_thing_16 rfl ?_
    refine go_bind (fun q14 hq14 => ?_)
    refine go_callV (rest := []) (st' := [.int (b2i q14)]) (c' := 0) (s' := 0) (pc := 17) C O miX11_145 mvX11_fine [] rfl (mX11_fine hq14).1 (mX11_fine hq14).2 dX11_thing_17 ⟨by omega, by decide, by decide, by decide⟩ rfl (Nat.le_of_ble_eq_true rfl) rfl ⟨rfl, rfl⟩ ?_
    refine go_ifZ_ne (pc := 20) C 25 dX11_thing_20 (by decide) (fun _ => ?_) (fun _ => ?_)
    · refine go_aload_n (pc := 25) C 0 dX11_thing_25 rfl ?_
      refine go_bind (fun q15 hq15 => ?_)
      refine go_callV (rest := []) (st' := [.int q15]) (c' := 0) (s' := 0) (pc := 26) C O miX11_149 mvX11_here [] rfl (mX11_here hq15).1 (mX11_here hq15).2 dX11_thing_26 ⟨by omega, by decide, by decide, by decide⟩ rfl (Nat.le_of_ble_eq_true rfl) rfl ⟨rfl, rfl⟩ ?_
      refine go_istore_n (ls' := [(2, .int q15), (0, .ref a0), (1, .int a1)]) (pc := 29) C dX11_thing_29 (by decide) rfl ?_
      refine go_iload_n (pc := 30) C 0 dX11_thing_30 rfl ?_
      refine go_bipush (pc := 31) C dX11_thing_31 kb_40 ?_
      refine go_icmp_ne (pc := 33) C 67 dX11_thing_33 (by decide) (fun _ => ?_) (fun _ => ?_)
      · refine go_iload_n (pc := 36) C 2 dX11_thing_36 rfl ?_
        refine go_iconst (pc := 37) C dX11_thing_37 ki_4 ?_
        refine go_icmp_ge (pc := 38) C 67 dX11_thing_38 (by decide) (fun _ => ?_) (fun _ => ?_)
        · refine go_sub (ls' := [(0, .ref a0), (2, .int q15)]) [1, 0] rfl ?_
          refine gX11_thing_J67 hD hrc0 hrc1 hrc2 hrc3 C O E q12.2 a0 q15
        · refine go_aload_n (pc := 41) C 1 dX11_thing_41 rfl ?_
          refine go_dup (pc := 42) C dX11_thing_42 rfl ?_
          refine go_gI (pc := 43) C fdX11_135 dX11_thing_43 (fun x16 => ?_)
          refine go_iconst (pc := 46) C dX11_thing_46 ki_1 ?_
          refine go_iadd (pc := 47) C dX11_thing_47 ?_
          refine go_pI (pc := 48) C fpX11_135 dX11_thing_48 (fun h17 => ?_)
          refine go_aload_n (pc := 51) C 1 dX11_thing_51 rfl ?_
          refine go_iload_n (pc := 52) C 2 dX11_thing_52 rfl ?_
          refine go_iconst (pc := 53) C dX11_thing_53 ki_1 ?_
          refine go_iadd (pc := 54) C dX11_thing_54 ?_
          refine go_bind (fun q18 hq18 => ?_)
          refine go_callV (rest := []) (st' := [.int q18.1]) (c' := 0) (s' := 0) (pc := 55) C O miX11_201 mvX11_held [.int (a1 + 1)] rfl (hrc0 hq18).1 (hrc0 hq18).2 dX11_thing_55 ⟨by omega, by decide, by decide, by decide⟩ rfl (Nat.le_of_ble_eq_true rfl) rfl ⟨rfl, rfl⟩ ?_
          refine go_istore_n (ls' := [(3, .int q18.1), (2, .int q15), (0, .ref a0), (1, .int a1)]) (pc := 58) C dX11_thing_58 (by decide) rfl ?_
          refine go_aload_n (pc := 59) C 2 dX11_thing_59 rfl ?_
          refine go_bipush (pc := 60) C dX11_thing_60 kb_41 ?_
          refine go_bind (fun q19 hq19 => ?_)
          refine go_callV (rest := []) (st' := []) (c' := 0) (s' := 0) (pc := 62) C O miX11_204 mvX11_need [.int 41] rfl (mX11_need hq19).1 (mX11_need hq19).2 dX11_thing_62 ⟨by omega, by decide, by decide, by decide⟩ rfl (Nat.le_of_ble_eq_true rfl) rfl ⟨rfl, rfl⟩ ?_
          refine go_iload_n (pc := 65) C 0 dX11_thing_65 rfl ?_
          exact go_iret (w := wIh) (pc := 66) C E ((q18.1, q19)) q18.1 dX11_thing_66 rfl
      · refine go_sub (ls' := [(0, .ref a0), (2, .int q15)]) [1, 0] rfl ?_
        refine gX11_thing_J67 hD hrc0 hrc1 hrc2 hrc3 C O E q12.2 a0 q15
    · refine go_iconst (pc := 23) C dX11_thing_23 ki_0 ?_
      exact go_iret (w := wIh) (pc := 24) C E ((0, q12.2)) 0 dX11_thing_24 rfl
def fX11_rec : Nat → Nat → AH → Nat → Int32 → Option (Int32 × AH)
  | 0, _, _, _, _ => none
  | d + 1, 0, h, a, x => fX11_held_b (fX11_rec d) h a x
  | d + 1, 1, h, a, x => fX11_sum_b (fX11_rec d) h a x
  | d + 1, 2, h, a, x => fX11_product_b (fX11_rec d) h a x
  | d + 1, _ + 3, h, a, x => fX11_thing_b (fX11_rec d) h a x
def RD : Nat := 200
theorem mX11_rec : ∀ (d : Nat), (∀ {h : AH} {a0 : Nat} {a1 : Int32} {r : Int32 × AH}, fX11_rec d 0 h a0 a1 = some r → hasC h 11 a0 = true ∧ MC yX11_held cX11_held 3 (some .int) (7 + d) 0 0 [.ref a0, .int a1] h (some (.int r.1)) r.2) ∧ (∀ {h : AH} {a0 : Nat} {a1 : Int32} {r : Int32 × AH}, fX11_rec d 1 h a0 a1 = some r → hasC h 11 a0 = true ∧ MC yX11_sum cX11_sum 5 (some .int) (7 + d) 0 0 [.ref a0, .int a1] h (some (.int r.1)) r.2) ∧ (∀ {h : AH} {a0 : Nat} {a1 : Int32} {r : Int32 × AH}, fX11_rec d 2 h a0 a1 = some r → hasC h 11 a0 = true ∧ MC yX11_product cX11_product 5 (some .int) (7 + d) 0 0 [.ref a0, .int a1] h (some (.int r.1)) r.2) ∧ (∀ {h : AH} {a0 : Nat} {a1 : Int32} {r : Int32 × AH}, fX11_rec d 3 h a0 a1 = some r → hasC h 11 a0 = true ∧ MC yX11_thing cX11_thing 4 (some .int) (7 + d) 0 0 [.ref a0, .int a1] h (some (.int r.1)) r.2)
  | 0 => ⟨fun e => (by cases e), fun e => (by cases e), fun e => (by cases e), fun e => (by cases e)⟩
  | d + 1 => by
    obtain ⟨i0, i1, i2, i3⟩ := mX11_rec d
    exact ⟨fun e => mX11_held_b (D := 7 + d) (Nat.le_add_right _ _) i0 i1 i2 i3 e, fun e => mX11_sum_b (D := 7 + d) (Nat.le_add_right _ _) i0 i1 i2 i3 e, fun e => mX11_product_b (D := 7 + d) (Nat.le_add_right _ _) i0 i1 i2 i3 e, fun e => mX11_thing_b (D := 7 + d) (Nat.le_add_right _ _) i0 i1 i2 i3 e⟩
def fX11_held (h : AH) (a0 : Nat) (a1 : Int32) : Option (Int32 × AH) := fX11_rec RD 0 h a0 a1
theorem mX11_held {h : AH} {a0 : Nat} {a1 : Int32} {r : Int32 × AH} (hr : fX11_held h a0 a1 = some r) : hasC h 11 a0 = true ∧ MC yX11_held cX11_held 3 (some .int) 207 0 0 [.ref a0, .int a1] h (some (.int r.1)) r.2 := (mX11_rec RD).1 hr
def fX11_sum (h : AH) (a0 : Nat) (a1 : Int32) : Option (Int32 × AH) := fX11_rec RD 1 h a0 a1
theorem mX11_sum {h : AH} {a0 : Nat} {a1 : Int32} {r : Int32 × AH} (hr : fX11_sum h a0 a1 = some r) : hasC h 11 a0 = true ∧ MC yX11_sum cX11_sum 5 (some .int) 207 0 0 [.ref a0, .int a1] h (some (.int r.1)) r.2 := (mX11_rec RD).2.1 hr
def fX11_product (h : AH) (a0 : Nat) (a1 : Int32) : Option (Int32 × AH) := fX11_rec RD 2 h a0 a1
theorem mX11_product {h : AH} {a0 : Nat} {a1 : Int32} {r : Int32 × AH} (hr : fX11_product h a0 a1 = some r) : hasC h 11 a0 = true ∧ MC yX11_product cX11_product 5 (some .int) 207 0 0 [.ref a0, .int a1] h (some (.int r.1)) r.2 := (mX11_rec RD).2.2.1 hr
def fX11_thing (h : AH) (a0 : Nat) (a1 : Int32) : Option (Int32 × AH) := fX11_rec RD 3 h a0 a1
theorem mX11_thing {h : AH} {a0 : Nat} {a1 : Int32} {r : Int32 × AH} (hr : fX11_thing h a0 a1 = some r) : hasC h 11 a0 = true ∧ MC yX11_thing cX11_thing 4 (some .int) 207 0 0 [.ref a0, .int a1] h (some (.int r.1)) r.2 := (mX11_rec RD).2.2.2 hr
theorem dX11_readRule_0 : decode cX11_readRule 0 = .ok (.aload_n 0, 1) := by decide +kernel
theorem dX11_readRule_1 : decode cX11_readRule 1 = .ok (.bipush 40, 2) := by decide +kernel
theorem dX11_readRule_3 : decode cX11_readRule 3 = .ok (.invokevirtual 169, 3) := by decide +kernel
theorem dX11_readRule_6 : decode cX11_readRule 6 = .ok (.aload_n 0, 1) := by decide +kernel
theorem dX11_readRule_7 : decode cX11_readRule 7 = .ok (.iconst 0, 1) := by decide +kernel
theorem dX11_readRule_8 : decode cX11_readRule 8 = .ok (.putfield 214, 3) := by decide +kernel
theorem dX11_readRule_11 : decode cX11_readRule 11 = .ok (.aload_n 0, 1) := by decide +kernel
theorem dX11_readRule_12 : decode cX11_readRule 12 = .ok (.getfield 129, 3) := by decide +kernel
theorem dX11_readRule_15 : decode cX11_readRule 15 = .ok (.ifCond .le 9, 3) := by decide +kernel
theorem dX11_readRule_18 : decode cX11_readRule 18 = .ok (.aload_n 0, 1) := by decide +kernel
theorem dX11_readRule_19 : decode cX11_readRule 19 = .ok (.iconst 0, 1) := by decide +kernel
theorem dX11_readRule_20 : decode cX11_readRule 20 = .ok (.invokevirtual 201, 3) := by decide +kernel
theorem dX11_readRule_23 : decode cX11_readRule 23 = .ok (.pop, 1) := by decide +kernel
theorem dX11_readRule_24 : decode cX11_readRule 24 = .ok (.aload_n 0, 1) := by decide +kernel
theorem dX11_readRule_25 : decode cX11_readRule 25 = .ok (.invokevirtual 175, 3) := by decide +kernel
theorem dX11_readRule_28 : decode cX11_readRule 28 = .ok (.ireturn, 1) := by decide +kernel
def fX11_readRule_J24 (h : AH) (v0 : Nat) : Option (Bool × AH) :=
    (fX11_wasRight h v0).bind fun q1 =>
    some ((q1.1, q1.2))
def fX11_readRule (h : AH) (a0 : Nat) : Option (Bool × AH) :=
  if hasC h 11 a0 = true then (
    (fX11_beginText h a0 40).bind fun q2 =>
    (pF q2 11 a0 15 (.int (b2i false))).bind fun h3 =>
    (gI h3 11 a0 7).bind fun x4 =>
    if x4 ≤ 0 then (
      fX11_readRule_J24 h3 a0
    ) else (
      (fX11_held h3 a0 0).bind fun q5 =>
      fX11_readRule_J24 q5.2 a0
    )
  ) else none
set_option maxHeartbeats 4000000 in
theorem gX11_readRule_J24 {Y : YT} {X : XT} (C : CT Y X RX11 cX11_readRule 1) (O : RO X 208 0 0) {r : Bool × AH} (E : RX Y X (some .boolean) (some (.int (b2i r.1))) r.2 0 0) : ∀ (h : AH) (v0 : Nat), GO Y X 1 r h 0 0 24 [(0, .ref v0)] [] (fX11_readRule_J24 h v0) := by
  intro h v0
  unfold fX11_readRule_J24
  refine go_aload_n (pc := 24) C 0 dX11_readRule_24 rfl ?_
  refine go_bind (fun q1 hq1 => ?_)
  refine go_callV (rest := []) (st' := [.int (b2i q1.1)]) (c' := 0) (s' := 0) (pc := 25) C O miX11_175 mvX11_wasRight [] rfl (mX11_wasRight hq1).1 (mX11_wasRight hq1).2 dX11_readRule_25 ⟨by decide, by decide, by decide, by decide⟩ rfl (Nat.le_of_ble_eq_true rfl) rfl ⟨rfl, rfl⟩ ?_
  exact go_bret (w := wZh) (pc := 28) C E ((q1.1, q1.2)) (b2i q1.1) q1.1 rfl dX11_readRule_28 rfl
set_option maxHeartbeats 4000000 in
theorem mX11_readRule {h : AH} {a0 : Nat} {r : Bool × AH} (hr : fX11_readRule h a0 = some r) : hasC h 11 a0 = true ∧ MC yX11_readRule cX11_readRule 1 (some .boolean) 208 0 0 [.ref a0] h (some (.int (b2i r.1))) r.2 := by
  unfold fX11_readRule at hr
  obtain ⟨hc, hr⟩ := if_some hr
  refine ⟨hc, mc_of (l0 := [(0, .ref a0)]) rfl pn_X11 (Nat.le_of_ble_eq_true rfl) (fun Y X C E O hnm => go_run hr ?_)⟩
  have C : CT Y X RX11 cX11_readRule 1 := C
  refine go_aload_n (pc := 0) C 0 dX11_readRule_0 rfl ?_
  refine go_bipush (pc := 1) C dX11_readRule_1 kb_40 ?_
  refine go_bind (fun q2 hq2 => ?_)
  refine go_callV (rest := []) (st' := []) (c' := 0) (s' := 0) (pc := 3) C O miX11_169 mvX11_beginText [.int 40] rfl (mX11_beginText hq2).1 (mX11_beginText hq2).2 dX11_readRule_3 ⟨by decide, by decide, by decide, by decide⟩ rfl (Nat.le_of_ble_eq_true rfl) rfl ⟨rfl, rfl⟩ ?_
  refine go_aload_n (pc := 6) C 0 dX11_readRule_6 rfl ?_
  refine go_iconst (pc := 7) C dX11_readRule_7 ki_0 ?_
  refine go_pZ (pc := 8) C false rfl fpX11_214 dX11_readRule_8 (fun h3 => ?_)
  refine go_aload_n (pc := 11) C 0 dX11_readRule_11 rfl ?_
  refine go_gI (pc := 12) C fdX11_129 dX11_readRule_12 (fun x4 => ?_)
  refine go_if_le (pc := 15) C 24 dX11_readRule_15 (by decide) (fun _ => ?_) (fun _ => ?_)
  · refine go_sub (ls' := [(0, .ref a0)]) [0] rfl ?_
    refine gX11_readRule_J24 C O E h3 a0
  · refine go_aload_n (pc := 18) C 0 dX11_readRule_18 rfl ?_
    refine go_iconst (pc := 19) C dX11_readRule_19 ki_0 ?_
    refine go_bind (fun q5 hq5 => ?_)
    refine go_callV (rest := []) (st' := [.int q5.1]) (c' := 0) (s' := 0) (pc := 20) C O miX11_201 mvX11_held [.int 0] rfl (mX11_held hq5).1 (mX11_held hq5).2 dX11_readRule_20 ⟨by decide, by decide, by decide, by decide⟩ rfl (Nat.le_of_ble_eq_true rfl) rfl ⟨rfl, rfl⟩ ?_
    refine go_pop (pc := 23) C dX11_readRule_23 rfl ?_
    refine go_sub (ls' := [(0, .ref a0)]) [0] rfl ?_
    refine gX11_readRule_J24 C O E q5.2 a0
theorem dX11_rule_0 : decode cX11_rule 0 = .ok (.aload_n 0, 1) := by decide +kernel
theorem dX11_rule_1 : decode cX11_rule 1 = .ok (.iconst 0, 1) := by decide +kernel
theorem dX11_rule_2 : decode cX11_rule 2 = .ok (.putfield 77, 3) := by decide +kernel
theorem dX11_rule_5 : decode cX11_rule 5 = .ok (.aload_n 0, 1) := by decide +kernel
theorem dX11_rule_6 : decode cX11_rule 6 = .ok (.getfield 123, 3) := by decide +kernel
theorem dX11_rule_9 : decode cX11_rule 9 = .ok (.istore_n 1, 1) := by decide +kernel
theorem dX11_rule_10 : decode cX11_rule 10 = .ok (.aload_n 0, 1) := by decide +kernel
theorem dX11_rule_11 : decode cX11_rule 11 = .ok (.invokevirtual 218, 3) := by decide +kernel
theorem dX11_rule_14 : decode cX11_rule 14 = .ok (.ifCond .ne 10, 3) := by decide +kernel
theorem dX11_rule_17 : decode cX11_rule 17 = .ok (.iconst (-1), 1) := by decide +kernel
theorem dX11_rule_18 : decode cX11_rule 18 = .ok (.aload_n 0, 1) := by decide +kernel
theorem dX11_rule_19 : decode cX11_rule 19 = .ok (.getfield 138, 3) := by decide +kernel
theorem dX11_rule_22 : decode cX11_rule 22 = .ok (.isub, 1) := by decide +kernel
theorem dX11_rule_23 : decode cX11_rule 23 = .ok (.ireturn, 1) := by decide +kernel
theorem dX11_rule_24 : decode cX11_rule 24 = .ok (.iconst 0, 1) := by decide +kernel
theorem dX11_rule_25 : decode cX11_rule 25 = .ok (.istore_n 2, 1) := by decide +kernel
theorem dX11_rule_26 : decode cX11_rule 26 = .ok (.iload_n 2, 1) := by decide +kernel
theorem dX11_rule_27 : decode cX11_rule 27 = .ok (.iload_n 1, 1) := by decide +kernel
theorem dX11_rule_28 : decode cX11_rule 28 = .ok (.if_icmp .ge 21, 3) := by decide +kernel
theorem dX11_rule_31 : decode cX11_rule 31 = .ok (.aload_n 0, 1) := by decide +kernel
theorem dX11_rule_32 : decode cX11_rule 32 = .ok (.getfield 24, 3) := by decide +kernel
theorem dX11_rule_35 : decode cX11_rule 35 = .ok (.iload_n 2, 1) := by decide +kernel
theorem dX11_rule_36 : decode cX11_rule 36 = .ok (.aload_n 0, 1) := by decide +kernel
theorem dX11_rule_37 : decode cX11_rule 37 = .ok (.getfield 13, 3) := by decide +kernel
theorem dX11_rule_40 : decode cX11_rule 40 = .ok (.iload_n 2, 1) := by decide +kernel
theorem dX11_rule_41 : decode cX11_rule 41 = .ok (.baload, 1) := by decide +kernel
theorem dX11_rule_42 : decode cX11_rule 42 = .ok (.bastore, 1) := by decide +kernel
theorem dX11_rule_43 : decode cX11_rule 43 = .ok (.iinc 2 1, 3) := by decide +kernel
theorem dX11_rule_46 : decode cX11_rule 46 = .ok (.goto (-20), 3) := by decide +kernel
theorem dX11_rule_49 : decode cX11_rule 49 = .ok (.aload_n 0, 1) := by decide +kernel
theorem dX11_rule_50 : decode cX11_rule 50 = .ok (.iload_n 1, 1) := by decide +kernel
theorem dX11_rule_51 : decode cX11_rule 51 = .ok (.putfield 221, 3) := by decide +kernel
theorem dX11_rule_54 : decode cX11_rule 54 = .ok (.iconst 0, 1) := by decide +kernel
theorem dX11_rule_55 : decode cX11_rule 55 = .ok (.ireturn, 1) := by decide +kernel
def fX11_rule_L26 : Nat → AH → Nat → Int32 → Int32 → Option (Int32 × AH)
  | 0, _, _, _, _ => none
  | n + 1, h, v0, v1, v2 =>
    if v1 ≤ v2 then (
      (pF h 11 v0 14 (.int v1)).bind fun h1 =>
      some ((0, h1))
    ) else (
      (gR h 11 v0 12).bind fun x2 =>
      (gR h 11 v0 1).bind fun x3 =>
      (aI h 3 x3 v2).bind fun x4 =>
      (sI h 3 x2 v2 x4).bind fun h5 =>
      letF (v2 + 1 : Int32) fun x6 =>
      fX11_rule_L26 n h5 v0 v1 x6
    )
def fX11_rule (h : AH) (a0 : Nat) : Option (Int32 × AH) :=
  if hasC h 11 a0 = true then (
    (pF h 11 a0 5 (.int 0)).bind fun h7 =>
    (gI h7 11 a0 2).bind fun x8 =>
    (fX11_readRule h7 a0).bind fun q9 =>
    if q9.1 = true then (
      fX11_rule_L26 FU q9.2 a0 x8 0
    ) else (
      (gI q9.2 11 a0 10).bind fun x10 =>
      some ((((-1)) - x10, q9.2))
    )
  ) else none
set_option maxHeartbeats 4000000 in
theorem gX11_rule_L26 {Y : YT} {X : XT} (C : CT Y X RX11 cX11_rule 3) (O : RO X 209 0 0) {r : Int32 × AH} (E : RX Y X (some .int) (some (.int r.1)) r.2 0 0) : ∀ (n : Nat) (h : AH) (v0 : Nat) (v1 : Int32) (v2 : Int32), GO Y X 3 r h 0 0 26 [(0, .ref v0), (1, .int v1), (2, .int v2)] [] (fX11_rule_L26 n h v0 v1 v2) := by
  intro n
  induction n with
  | zero => intros; exact go_none _ _ _
  | succ n ih =>
    intro h v0 v1 v2
    rw [fX11_rule_L26]
    refine go_iload_n (pc := 26) C 2 dX11_rule_26 rfl ?_
    refine go_iload_n (pc := 27) C 1 dX11_rule_27 rfl ?_
    refine go_icmp_ge (pc := 28) C 49 dX11_rule_28 (by decide) (fun _ => ?_) (fun _ => ?_)
    · refine go_aload_n (pc := 49) C 0 dX11_rule_49 rfl ?_
      refine go_iload_n (pc := 50) C 1 dX11_rule_50 rfl ?_
      refine go_pI (pc := 51) C fpX11_221 dX11_rule_51 (fun h1 => ?_)
      refine go_iconst (pc := 54) C dX11_rule_54 ki_0 ?_
      exact go_iret (w := wIh) (pc := 55) C E ((0, h1)) 0 dX11_rule_55 rfl
    · refine go_aload_n (pc := 31) C 0 dX11_rule_31 rfl ?_
      refine go_gR (pc := 32) C fdX11_24 dX11_rule_32 (fun x2 => ?_)
      refine go_iload_n (pc := 35) C 2 dX11_rule_35 rfl ?_
      refine go_aload_n (pc := 36) C 0 dX11_rule_36 rfl ?_
      refine go_gR (pc := 37) C fdX11_13 dX11_rule_37 (fun x3 => ?_)
      refine go_iload_n (pc := 40) C 2 dX11_rule_40 rfl ?_
      refine go_bald (pc := 41) C dX11_rule_41 (fun x4 => ?_)
      refine go_bast (pc := 42) C dX11_rule_42 (fun h5 => ?_)
      refine go_iincL (pc := 43) C 2 dX11_rule_43 rfl ki_1 (by decide) (fun x6 => [(2, .int x6), (0, .ref v0), (1, .int v1)]) (fun _ => rfl) (fun x6 => ?_)
      refine go_goto (pc := 46) C 26 dX11_rule_46 (by decide) ?_
      refine go_sub (ls' := [(0, .ref v0), (1, .int v1), (2, .int x6)]) [1, 2, 0] rfl ?_
      exact ih h5 v0 v1 x6
set_option maxHeartbeats 4000000 in
theorem mX11_rule {h : AH} {a0 : Nat} {r : Int32 × AH} (hr : fX11_rule h a0 = some r) : hasC h 11 a0 = true ∧ MC yX11_rule cX11_rule 3 (some .int) 209 0 0 [.ref a0] h (some (.int r.1)) r.2 := by
  unfold fX11_rule at hr
  obtain ⟨hc, hr⟩ := if_some hr
  refine ⟨hc, mc_of (l0 := [(0, .ref a0)]) rfl pn_X11 (Nat.le_of_ble_eq_true rfl) (fun Y X C E O hnm => go_run hr ?_)⟩
  have C : CT Y X RX11 cX11_rule 3 := C
  refine go_aload_n (pc := 0) C 0 dX11_rule_0 rfl ?_
  refine go_iconst (pc := 1) C dX11_rule_1 ki_0 ?_
  refine go_pI (pc := 2) C fpX11_77 dX11_rule_2 (fun h7 => ?_)
  refine go_aload_n (pc := 5) C 0 dX11_rule_5 rfl ?_
  refine go_gI (pc := 6) C fdX11_123 dX11_rule_6 (fun x8 => ?_)
  refine go_istore_n (ls' := [(1, .int x8), (0, .ref a0)]) (pc := 9) C dX11_rule_9 (by decide) rfl ?_
  refine go_aload_n (pc := 10) C 1 dX11_rule_10 rfl ?_
  refine go_bind (fun q9 hq9 => ?_)
  refine go_callV (rest := []) (st' := [.int (b2i q9.1)]) (c' := 0) (s' := 0) (pc := 11) C O miX11_218 mvX11_readRule [] rfl (mX11_readRule hq9).1 (mX11_readRule hq9).2 dX11_rule_11 ⟨by decide, by decide, by decide, by decide⟩ rfl (Nat.le_of_ble_eq_true rfl) rfl ⟨rfl, rfl⟩ ?_
  refine go_ifZ_ne (pc := 14) C 24 dX11_rule_14 (by decide) (fun _ => ?_) (fun _ => ?_)
  · refine go_iconst (pc := 24) C dX11_rule_24 ki_0 ?_
    refine go_istore_n (ls' := [(2, .int 0), (1, .int x8), (0, .ref a0)]) (pc := 25) C dX11_rule_25 (by decide) rfl ?_
    refine go_sub (ls' := [(0, .ref a0), (1, .int x8), (2, .int 0)]) [2, 1, 0] rfl ?_
    refine gX11_rule_L26 C O E FU q9.2 a0 x8 0
  · refine go_iconst (pc := 17) C dX11_rule_17 ki_m1 ?_
    refine go_aload_n (pc := 18) C 1 dX11_rule_18 rfl ?_
    refine go_gI (pc := 19) C fdX11_138 dX11_rule_19 (fun x10 => ?_)
    refine go_isub (pc := 22) C dX11_rule_22 ?_
    exact go_iret (w := wIh) (pc := 23) C E ((((-1)) - x10, q9.2)) (((-1)) - x10) dX11_rule_23 rfl
theorem dX11_ruleOf_0 : decode cX11_ruleOf 0 = .ok (.aload_n 0, 1) := by decide +kernel
theorem dX11_ruleOf_1 : decode cX11_ruleOf 1 = .ok (.getfield 221, 3) := by decide +kernel
theorem dX11_ruleOf_4 : decode cX11_ruleOf 4 = .ok (.ifCond .ne 18, 3) := by decide +kernel
theorem dX11_ruleOf_7 : decode cX11_ruleOf 7 = .ok (.aload_n 1, 1) := by decide +kernel
theorem dX11_ruleOf_8 : decode cX11_ruleOf 8 = .ok (.iload_n 2, 1) := by decide +kernel
theorem dX11_ruleOf_9 : decode cX11_ruleOf 9 = .ok (.invokestatic 116, 3) := by decide +kernel
theorem dX11_ruleOf_12 : decode cX11_ruleOf 12 = .ok (.iconst 3, 1) := by decide +kernel
theorem dX11_ruleOf_13 : decode cX11_ruleOf 13 = .ok (.if_icmp .le 7, 3) := by decide +kernel
theorem dX11_ruleOf_16 : decode cX11_ruleOf 16 = .ok (.iconst 1, 1) := by decide +kernel
theorem dX11_ruleOf_17 : decode cX11_ruleOf 17 = .ok (.goto 4, 3) := by decide +kernel
theorem dX11_ruleOf_20 : decode cX11_ruleOf 20 = .ok (.iconst 0, 1) := by decide +kernel
theorem dX11_ruleOf_21 : decode cX11_ruleOf 21 = .ok (.ireturn, 1) := by decide +kernel
theorem dX11_ruleOf_22 : decode cX11_ruleOf 22 = .ok (.aload_n 0, 1) := by decide +kernel
theorem dX11_ruleOf_23 : decode cX11_ruleOf 23 = .ok (.getfield 30, 3) := by decide +kernel
theorem dX11_ruleOf_26 : decode cX11_ruleOf 26 = .ok (.iconst 0, 1) := by decide +kernel
theorem dX11_ruleOf_27 : decode cX11_ruleOf 27 = .ok (.aload_n 1, 1) := by decide +kernel
theorem dX11_ruleOf_28 : decode cX11_ruleOf 28 = .ok (.iload_n 2, 1) := by decide +kernel
theorem dX11_ruleOf_29 : decode cX11_ruleOf 29 = .ok (.invokestatic 116, 3) := by decide +kernel
theorem dX11_ruleOf_32 : decode cX11_ruleOf 32 = .ok (.iastore, 1) := by decide +kernel
theorem dX11_ruleOf_33 : decode cX11_ruleOf 33 = .ok (.aload_n 0, 1) := by decide +kernel
theorem dX11_ruleOf_34 : decode cX11_ruleOf 34 = .ok (.getfield 30, 3) := by decide +kernel
theorem dX11_ruleOf_37 : decode cX11_ruleOf 37 = .ok (.iconst 1, 1) := by decide +kernel
theorem dX11_ruleOf_38 : decode cX11_ruleOf 38 = .ok (.aload_n 1, 1) := by decide +kernel
theorem dX11_ruleOf_39 : decode cX11_ruleOf 39 = .ok (.invokestatic 181, 3) := by decide +kernel
theorem dX11_ruleOf_42 : decode cX11_ruleOf 42 = .ok (.iastore, 1) := by decide +kernel
theorem dX11_ruleOf_43 : decode cX11_ruleOf 43 = .ok (.aload_n 0, 1) := by decide +kernel
theorem dX11_ruleOf_44 : decode cX11_ruleOf 44 = .ok (.getfield 30, 3) := by decide +kernel
theorem dX11_ruleOf_47 : decode cX11_ruleOf 47 = .ok (.iconst 2, 1) := by decide +kernel
theorem dX11_ruleOf_48 : decode cX11_ruleOf 48 = .ok (.aload_n 1, 1) := by decide +kernel
theorem dX11_ruleOf_49 : decode cX11_ruleOf 49 = .ok (.invokestatic 224, 3) := by decide +kernel
theorem dX11_ruleOf_52 : decode cX11_ruleOf 52 = .ok (.invokestatic 100, 3) := by decide +kernel
theorem dX11_ruleOf_55 : decode cX11_ruleOf 55 = .ok (.iastore, 1) := by decide +kernel
theorem dX11_ruleOf_56 : decode cX11_ruleOf 56 = .ok (.aload_n 0, 1) := by decide +kernel
theorem dX11_ruleOf_57 : decode cX11_ruleOf 57 = .ok (.getfield 30, 3) := by decide +kernel
theorem dX11_ruleOf_60 : decode cX11_ruleOf 60 = .ok (.iconst 3, 1) := by decide +kernel
theorem dX11_ruleOf_61 : decode cX11_ruleOf 61 = .ok (.iload_n 2, 1) := by decide +kernel
theorem dX11_ruleOf_62 : decode cX11_ruleOf 62 = .ok (.iastore, 1) := by decide +kernel
theorem dX11_ruleOf_63 : decode cX11_ruleOf 63 = .ok (.aload_n 0, 1) := by decide +kernel
theorem dX11_ruleOf_64 : decode cX11_ruleOf 64 = .ok (.getfield 30, 3) := by decide +kernel
theorem dX11_ruleOf_67 : decode cX11_ruleOf 67 = .ok (.iconst 4, 1) := by decide +kernel
theorem dX11_ruleOf_68 : decode cX11_ruleOf 68 = .ok (.iload_n 3, 1) := by decide +kernel
theorem dX11_ruleOf_69 : decode cX11_ruleOf 69 = .ok (.iastore, 1) := by decide +kernel
theorem dX11_ruleOf_70 : decode cX11_ruleOf 70 = .ok (.aload_n 0, 1) := by decide +kernel
theorem dX11_ruleOf_71 : decode cX11_ruleOf 71 = .ok (.getfield 30, 3) := by decide +kernel
theorem dX11_ruleOf_74 : decode cX11_ruleOf 74 = .ok (.iconst 5, 1) := by decide +kernel
theorem dX11_ruleOf_75 : decode cX11_ruleOf 75 = .ok (.aload_n 1, 1) := by decide +kernel
theorem dX11_ruleOf_76 : decode cX11_ruleOf 76 = .ok (.sipush 324, 3) := by decide +kernel
theorem dX11_ruleOf_79 : decode cX11_ruleOf 79 = .ok (.iaload, 1) := by decide +kernel
theorem dX11_ruleOf_80 : decode cX11_ruleOf 80 = .ok (.bipush 7, 2) := by decide +kernel
theorem dX11_ruleOf_82 : decode cX11_ruleOf 82 = .ok (.irem, 1) := by decide +kernel
theorem dX11_ruleOf_83 : decode cX11_ruleOf 83 = .ok (.iastore, 1) := by decide +kernel
theorem dX11_ruleOf_84 : decode cX11_ruleOf 84 = .ok (.aload_n 0, 1) := by decide +kernel
theorem dX11_ruleOf_85 : decode cX11_ruleOf 85 = .ok (.getfield 30, 3) := by decide +kernel
theorem dX11_ruleOf_88 : decode cX11_ruleOf 88 = .ok (.bipush 6, 2) := by decide +kernel
theorem dX11_ruleOf_90 : decode cX11_ruleOf 90 = .ok (.aload_n 1, 1) := by decide +kernel
theorem dX11_ruleOf_91 : decode cX11_ruleOf 91 = .ok (.aload_n 1, 1) := by decide +kernel
theorem dX11_ruleOf_92 : decode cX11_ruleOf 92 = .ok (.sipush 312, 3) := by decide +kernel
theorem dX11_ruleOf_95 : decode cX11_ruleOf 95 = .ok (.iload_n 2, 1) := by decide +kernel
theorem dX11_ruleOf_96 : decode cX11_ruleOf 96 = .ok (.iadd, 1) := by decide +kernel
theorem dX11_ruleOf_97 : decode cX11_ruleOf 97 = .ok (.iaload, 1) := by decide +kernel
theorem dX11_ruleOf_98 : decode cX11_ruleOf 98 = .ok (.invokestatic 96, 3) := by decide +kernel
theorem dX11_ruleOf_101 : decode cX11_ruleOf 101 = .ok (.invokestatic 100, 3) := by decide +kernel
theorem dX11_ruleOf_104 : decode cX11_ruleOf 104 = .ok (.iastore, 1) := by decide +kernel
theorem dX11_ruleOf_105 : decode cX11_ruleOf 105 = .ok (.aload_n 0, 1) := by decide +kernel
theorem dX11_ruleOf_106 : decode cX11_ruleOf 106 = .ok (.aload_n 0, 1) := by decide +kernel
theorem dX11_ruleOf_107 : decode cX11_ruleOf 107 = .ok (.getfield 24, 3) := by decide +kernel
theorem dX11_ruleOf_110 : decode cX11_ruleOf 110 = .ok (.aload_n 0, 1) := by decide +kernel
theorem dX11_ruleOf_111 : decode cX11_ruleOf 111 = .ok (.getfield 221, 3) := by decide +kernel
theorem dX11_ruleOf_114 : decode cX11_ruleOf 114 = .ok (.bipush 40, 2) := by decide +kernel
theorem dX11_ruleOf_116 : decode cX11_ruleOf 116 = .ok (.invokevirtual 141, 3) := by decide +kernel
theorem dX11_ruleOf_119 : decode cX11_ruleOf 119 = .ok (.aload_n 0, 1) := by decide +kernel
theorem dX11_ruleOf_120 : decode cX11_ruleOf 120 = .ok (.iconst 1, 1) := by decide +kernel
theorem dX11_ruleOf_121 : decode cX11_ruleOf 121 = .ok (.putfield 214, 3) := by decide +kernel
theorem dX11_ruleOf_124 : decode cX11_ruleOf 124 = .ok (.aload_n 0, 1) := by decide +kernel
theorem dX11_ruleOf_125 : decode cX11_ruleOf 125 = .ok (.iconst 0, 1) := by decide +kernel
theorem dX11_ruleOf_126 : decode cX11_ruleOf 126 = .ok (.invokevirtual 201, 3) := by decide +kernel
theorem dX11_ruleOf_129 : decode cX11_ruleOf 129 = .ok (.istore 4, 2) := by decide +kernel
theorem dX11_ruleOf_131 : decode cX11_ruleOf 131 = .ok (.aload_n 0, 1) := by decide +kernel
theorem dX11_ruleOf_132 : decode cX11_ruleOf 132 = .ok (.iconst 0, 1) := by decide +kernel
theorem dX11_ruleOf_133 : decode cX11_ruleOf 133 = .ok (.putfield 214, 3) := by decide +kernel
theorem dX11_ruleOf_136 : decode cX11_ruleOf 136 = .ok (.iload 4, 2) := by decide +kernel
theorem dX11_ruleOf_138 : decode cX11_ruleOf 138 = .ok (.ireturn, 1) := by decide +kernel
def fX11_ruleOf (h : AH) (a0 : Nat) (a1 : Nat) (a2 : Int32) (a3 : Int32) : Option (Int32 × AH) :=
  if hasC h 11 a0 = true then (
    (gI h 11 a0 14).bind fun x1 =>
    if x1 = 0 then (
      (fX11_lengthOf h a1 a2).bind fun q2 =>
      if q2 ≤ 3 then (
        some ((0, h))
      ) else (
        some ((1, h))
      )
    ) else (
      (gR h 11 a0 16).bind fun x3 =>
      (fX11_lengthOf h a1 a2).bind fun q4 =>
      (sI h 0 x3 0 q4).bind fun h5 =>
      (gR h5 11 a0 16).bind fun x6 =>
      (fX11_framesOf h5 a1).bind fun q7 =>
      (sI h5 0 x6 1 q7).bind fun h8 =>
      (gR h8 11 a0 16).bind fun x9 =>
      (fX11_objectsOf h8 a1).bind fun q10 =>
      (fJ6_bitCount_0f7a4 h8 q10).bind fun q11 =>
      (sI h8 0 x9 2 q11).bind fun h12 =>
      (gR h12 11 a0 16).bind fun x13 =>
      (sI h12 0 x13 3 a2).bind fun h14 =>
      (gR h14 11 a0 16).bind fun x15 =>
      (sI h14 0 x15 4 a3).bind fun h16 =>
      (gR h16 11 a0 16).bind fun x17 =>
      (aI h16 0 a1 324).bind fun x18 =>
      (jrem x18 7).bind fun x19 =>
      (sI h16 0 x17 5 x19).bind fun h20 =>
      (gR h20 11 a0 16).bind fun x21 =>
      (aI h20 0 a1 (312 + a2)).bind fun x22 =>
      (fX11_pagesOf h20 a1 x22).bind fun q23 =>
      (fJ6_bitCount_0f7a4 h20 q23).bind fun q24 =>
      (sI h20 0 x21 6 q24).bind fun h25 =>
      (gR h25 11 a0 12).bind fun x26 =>
      (gI h25 11 a0 14).bind fun x27 =>
      (fX11_begin h25 a0 x26 x27 40).bind fun q28 =>
      (pF q28 11 a0 15 (.int (b2i true))).bind fun h29 =>
      (fX11_held h29 a0 0).bind fun q30 =>
      (pF q30.2 11 a0 15 (.int (b2i false))).bind fun h31 =>
      some ((q30.1, h31))
    )
  ) else none
set_option maxHeartbeats 4000000 in
theorem mX11_ruleOf {h : AH} {a0 : Nat} {a1 : Nat} {a2 : Int32} {a3 : Int32} {r : Int32 × AH} (hr : fX11_ruleOf h a0 a1 a2 a3 = some r) : hasC h 11 a0 = true ∧ MC yX11_ruleOf cX11_ruleOf 5 (some .int) 208 0 0 [.ref a0, .ref a1, .int a2, .int a3] h (some (.int r.1)) r.2 := by
  unfold fX11_ruleOf at hr
  obtain ⟨hc, hr⟩ := if_some hr
  refine ⟨hc, mc_of (l0 := [(0, .ref a0), (1, .ref a1), (2, .int a2), (3, .int a3)]) rfl pn_X11 (Nat.le_of_ble_eq_true rfl) (fun Y X C E O hnm => go_run hr ?_)⟩
  have C : CT Y X RX11 cX11_ruleOf 5 := C
  refine go_aload_n (pc := 0) C 0 dX11_ruleOf_0 rfl ?_
  refine go_gI (pc := 1) C fdX11_221 dX11_ruleOf_1 (fun x1 => ?_)
  refine go_if_ne (pc := 4) C 22 dX11_ruleOf_4 (by decide) (fun _ => ?_) (fun _ => ?_)
  · refine go_aload_n (pc := 7) C 1 dX11_ruleOf_7 rfl ?_
    refine go_iload_n (pc := 8) C 2 dX11_ruleOf_8 rfl ?_
    refine go_bind (fun q2 hq2 => ?_)
    refine go_callS (rest := []) (st' := [.int q2]) (c' := 0) (s' := 0) (pc := 9) C O miX11_116 w_1555 [.ref a1, .int a2] rfl (mX11_lengthOf hq2) dX11_ruleOf_9 ⟨by decide, by decide, by decide, by decide⟩ rfl (Nat.le_of_ble_eq_true rfl) rfl ⟨rfl, rfl⟩ ?_
    refine go_iconst (pc := 12) C dX11_ruleOf_12 ki_3 ?_
    refine go_icmp_le (pc := 13) C 20 dX11_ruleOf_13 (by decide) (fun _ => ?_) (fun _ => ?_)
    · refine go_iconst (pc := 20) C dX11_ruleOf_20 ki_0 ?_
      exact go_iret (w := wIh) (pc := 21) C E ((0, h)) 0 dX11_ruleOf_21 rfl
    · refine go_iconst (pc := 16) C dX11_ruleOf_16 ki_1 ?_
      refine go_goto (pc := 17) C 21 dX11_ruleOf_17 (by decide) ?_
      exact go_iret (w := wIh) (pc := 21) C E ((1, h)) 1 dX11_ruleOf_21 rfl
  · refine go_aload_n (pc := 22) C 0 dX11_ruleOf_22 rfl ?_
    refine go_gR (pc := 23) C fdX11_30 dX11_ruleOf_23 (fun x3 => ?_)
    refine go_iconst (pc := 26) C dX11_ruleOf_26 ki_0 ?_
    refine go_aload_n (pc := 27) C 1 dX11_ruleOf_27 rfl ?_
    refine go_iload_n (pc := 28) C 2 dX11_ruleOf_28 rfl ?_
    refine go_bind (fun q4 hq4 => ?_)
    refine go_callS (rest := [.int 0, .ref x3]) (st' := [.int q4, .int 0, .ref x3]) (c' := 0) (s' := 0) (pc := 29) C O miX11_116 w_1555 [.ref a1, .int a2] rfl (mX11_lengthOf hq4) dX11_ruleOf_29 ⟨by decide, by decide, by decide, by decide⟩ rfl (Nat.le_of_ble_eq_true rfl) rfl ⟨rfl, rfl⟩ ?_
    refine go_iast (pc := 32) C dX11_ruleOf_32 (fun h5 => ?_)
    refine go_aload_n (pc := 33) C 0 dX11_ruleOf_33 rfl ?_
    refine go_gR (pc := 34) C fdX11_30 dX11_ruleOf_34 (fun x6 => ?_)
    refine go_iconst (pc := 37) C dX11_ruleOf_37 ki_1 ?_
    refine go_aload_n (pc := 38) C 1 dX11_ruleOf_38 rfl ?_
    refine go_bind (fun q7 hq7 => ?_)
    refine go_callS (rest := [.int 1, .ref x6]) (st' := [.int q7, .int 1, .ref x6]) (c' := 0) (s' := 0) (pc := 39) C O miX11_181 w_1488 [.ref a1] rfl (mX11_framesOf hq7) dX11_ruleOf_39 ⟨by decide, by decide, by decide, by decide⟩ rfl (Nat.le_of_ble_eq_true rfl) rfl ⟨rfl, rfl⟩ ?_
    refine go_iast (pc := 42) C dX11_ruleOf_42 (fun h8 => ?_)
    refine go_aload_n (pc := 43) C 0 dX11_ruleOf_43 rfl ?_
    refine go_gR (pc := 44) C fdX11_30 dX11_ruleOf_44 (fun x9 => ?_)
    refine go_iconst (pc := 47) C dX11_ruleOf_47 ki_2 ?_
    refine go_aload_n (pc := 48) C 1 dX11_ruleOf_48 rfl ?_
    refine go_bind (fun q10 hq10 => ?_)
    refine go_callS (rest := [.int 2, .ref x9]) (st' := [.int q10, .int 2, .ref x9]) (c' := 0) (s' := 0) (pc := 49) C O miX11_224 w_1562 [.ref a1] rfl (mX11_objectsOf hq10) dX11_ruleOf_49 ⟨by decide, by decide, by decide, by decide⟩ rfl (Nat.le_of_ble_eq_true rfl) rfl ⟨rfl, rfl⟩ ?_
    refine go_bind (fun q11 hq11 => ?_)
    refine go_callS (rest := [.int 2, .ref x9]) (st' := [.int q11, .int 2, .ref x9]) (c' := 0) (s' := 0) (pc := 52) C O miX11_100 w_397 [.int q10] rfl (mJ6_bitCount_0f7a4 hq11) dX11_ruleOf_52 ⟨by decide, by decide, by decide, by decide⟩ rfl (Nat.le_of_ble_eq_true rfl) rfl ⟨rfl, rfl⟩ ?_
    refine go_iast (pc := 55) C dX11_ruleOf_55 (fun h12 => ?_)
    refine go_aload_n (pc := 56) C 0 dX11_ruleOf_56 rfl ?_
    refine go_gR (pc := 57) C fdX11_30 dX11_ruleOf_57 (fun x13 => ?_)
    refine go_iconst (pc := 60) C dX11_ruleOf_60 ki_3 ?_
    refine go_iload_n (pc := 61) C 2 dX11_ruleOf_61 rfl ?_
    refine go_iast (pc := 62) C dX11_ruleOf_62 (fun h14 => ?_)
    refine go_aload_n (pc := 63) C 0 dX11_ruleOf_63 rfl ?_
    refine go_gR (pc := 64) C fdX11_30 dX11_ruleOf_64 (fun x15 => ?_)
    refine go_iconst (pc := 67) C dX11_ruleOf_67 ki_4 ?_
    refine go_iload_n (pc := 68) C 3 dX11_ruleOf_68 rfl ?_
    refine go_iast (pc := 69) C dX11_ruleOf_69 (fun h16 => ?_)
    refine go_aload_n (pc := 70) C 0 dX11_ruleOf_70 rfl ?_
    refine go_gR (pc := 71) C fdX11_30 dX11_ruleOf_71 (fun x17 => ?_)
    refine go_iconst (pc := 74) C dX11_ruleOf_74 ki_5 ?_
    refine go_aload_n (pc := 75) C 1 dX11_ruleOf_75 rfl ?_
    refine go_sipush (pc := 76) C dX11_ruleOf_76 ks_324 ?_
    refine go_iald (pc := 79) C dX11_ruleOf_79 (fun x18 => ?_)
    refine go_bipush (pc := 80) C dX11_ruleOf_80 kb_7 ?_
    refine go_irem (pc := 82) C dX11_ruleOf_82 (fun x19 => ?_)
    refine go_iast (pc := 83) C dX11_ruleOf_83 (fun h20 => ?_)
    refine go_aload_n (pc := 84) C 0 dX11_ruleOf_84 rfl ?_
    refine go_gR (pc := 85) C fdX11_30 dX11_ruleOf_85 (fun x21 => ?_)
    refine go_bipush (pc := 88) C dX11_ruleOf_88 kb_6 ?_
    refine go_aload_n (pc := 90) C 1 dX11_ruleOf_90 rfl ?_
    refine go_aload_n (pc := 91) C 1 dX11_ruleOf_91 rfl ?_
    refine go_sipush (pc := 92) C dX11_ruleOf_92 ks_312 ?_
    refine go_iload_n (pc := 95) C 2 dX11_ruleOf_95 rfl ?_
    refine go_iadd (pc := 96) C dX11_ruleOf_96 ?_
    refine go_iald (pc := 97) C dX11_ruleOf_97 (fun x22 => ?_)
    refine go_bind (fun q23 hq23 => ?_)
    refine go_callS (rest := [.int 6, .ref x21]) (st' := [.int q23, .int 6, .ref x21]) (c' := 0) (s' := 0) (pc := 98) C O miX11_96 w_1491 [.ref a1, .int x22] rfl (mX11_pagesOf hq23) dX11_ruleOf_98 ⟨by decide, by decide, by decide, by decide⟩ rfl (Nat.le_of_ble_eq_true rfl) rfl ⟨rfl, rfl⟩ ?_
    refine go_bind (fun q24 hq24 => ?_)
    refine go_callS (rest := [.int 6, .ref x21]) (st' := [.int q24, .int 6, .ref x21]) (c' := 0) (s' := 0) (pc := 101) C O miX11_100 w_397 [.int q23] rfl (mJ6_bitCount_0f7a4 hq24) dX11_ruleOf_101 ⟨by decide, by decide, by decide, by decide⟩ rfl (Nat.le_of_ble_eq_true rfl) rfl ⟨rfl, rfl⟩ ?_
    refine go_iast (pc := 104) C dX11_ruleOf_104 (fun h25 => ?_)
    refine go_aload_n (pc := 105) C 0 dX11_ruleOf_105 rfl ?_
    refine go_aload_n (pc := 106) C 0 dX11_ruleOf_106 rfl ?_
    refine go_gR (pc := 107) C fdX11_24 dX11_ruleOf_107 (fun x26 => ?_)
    refine go_aload_n (pc := 110) C 0 dX11_ruleOf_110 rfl ?_
    refine go_gI (pc := 111) C fdX11_221 dX11_ruleOf_111 (fun x27 => ?_)
    refine go_bipush (pc := 114) C dX11_ruleOf_114 kb_40 ?_
    refine go_bind (fun q28 hq28 => ?_)
    refine go_callV (rest := []) (st' := []) (c' := 0) (s' := 0) (pc := 116) C O miX11_141 mvX11_begin [.ref x26, .int x27, .int 40] rfl (mX11_begin hq28).1 (mX11_begin hq28).2 dX11_ruleOf_116 ⟨by decide, by decide, by decide, by decide⟩ rfl (Nat.le_of_ble_eq_true rfl) rfl ⟨rfl, rfl⟩ ?_
    refine go_aload_n (pc := 119) C 0 dX11_ruleOf_119 rfl ?_
    refine go_iconst (pc := 120) C dX11_ruleOf_120 ki_1 ?_
    refine go_pZ (pc := 121) C true rfl fpX11_214 dX11_ruleOf_121 (fun h29 => ?_)
    refine go_aload_n (pc := 124) C 0 dX11_ruleOf_124 rfl ?_
    refine go_iconst (pc := 125) C dX11_ruleOf_125 ki_0 ?_
    refine go_bind (fun q30 hq30 => ?_)
    refine go_callV (rest := []) (st' := [.int q30.1]) (c' := 0) (s' := 0) (pc := 126) C O miX11_201 mvX11_held [.int 0] rfl (mX11_held hq30).1 (mX11_held hq30).2 dX11_ruleOf_126 ⟨by decide, by decide, by decide, by decide⟩ rfl (Nat.le_of_ble_eq_true rfl) rfl ⟨rfl, rfl⟩ ?_
    refine go_istore (ls' := [(4, .int q30.1), (0, .ref a0), (1, .ref a1), (2, .int a2), (3, .int a3)]) (pc := 129) C dX11_ruleOf_129 (by decide) rfl ?_
    refine go_aload_n (pc := 131) C 1 dX11_ruleOf_131 rfl ?_
    refine go_iconst (pc := 132) C dX11_ruleOf_132 ki_0 ?_
    refine go_pZ (pc := 133) C false rfl fpX11_214 dX11_ruleOf_133 (fun h31 => ?_)
    refine go_iload (pc := 136) C 0 dX11_ruleOf_136 rfl ?_
    exact go_iret (w := wIh) (pc := 138) C E ((q30.1, h31)) q30.1 dX11_ruleOf_138 rfl
theorem dX11_space_0 : decode cX11_space 0 = .ok (.aload_n 0, 1) := by decide +kernel
theorem dX11_space_1 : decode cX11_space 1 = .ok (.iconst 0, 1) := by decide +kernel
theorem dX11_space_2 : decode cX11_space 2 = .ok (.putfield 77, 3) := by decide +kernel
theorem dX11_space_5 : decode cX11_space 5 = .ok (.aload_n 0, 1) := by decide +kernel
theorem dX11_space_6 : decode cX11_space 6 = .ok (.getfield 9, 3) := by decide +kernel
theorem dX11_space_9 : decode cX11_space 9 = .ok (.iload_n 1, 1) := by decide +kernel
theorem dX11_space_10 : decode cX11_space 10 = .ok (.invokestatic 106, 3) := by decide +kernel
theorem dX11_space_13 : decode cX11_space 13 = .ok (.ifCond .eq 12, 3) := by decide +kernel
theorem dX11_space_16 : decode cX11_space 16 = .ok (.iload_n 2, 1) := by decide +kernel
theorem dX11_space_17 : decode cX11_space 17 = .ok (.iconst 0, 1) := by decide +kernel
theorem dX11_space_18 : decode cX11_space 18 = .ok (.iconst 3, 1) := by decide +kernel
theorem dX11_space_19 : decode cX11_space 19 = .ok (.invokestatic 84, 3) := by decide +kernel
theorem dX11_space_22 : decode cX11_space 22 = .ok (.ifCond .ne 8, 3) := by decide +kernel
theorem dX11_space_25 : decode cX11_space 25 = .ok (.aload_n 0, 1) := by decide +kernel
theorem dX11_space_26 : decode cX11_space 26 = .ok (.invokevirtual 227, 3) := by decide +kernel
theorem dX11_space_29 : decode cX11_space 29 = .ok (.ireturn, 1) := by decide +kernel
theorem dX11_space_30 : decode cX11_space 30 = .ok (.iload_n 2, 1) := by decide +kernel
theorem dX11_space_31 : decode cX11_space 31 = .ok (.ifCond .ne 14, 3) := by decide +kernel
theorem dX11_space_34 : decode cX11_space 34 = .ok (.aload_n 0, 1) := by decide +kernel
theorem dX11_space_35 : decode cX11_space 35 = .ok (.getfield 9, 3) := by decide +kernel
theorem dX11_space_38 : decode cX11_space 38 = .ok (.sipush 312, 3) := by decide +kernel
theorem dX11_space_41 : decode cX11_space 41 = .ok (.iload_n 1, 1) := by decide +kernel
theorem dX11_space_42 : decode cX11_space 42 = .ok (.iadd, 1) := by decide +kernel
theorem dX11_space_43 : decode cX11_space 43 = .ok (.iaload, 1) := by decide +kernel
theorem dX11_space_44 : decode cX11_space 44 = .ok (.ireturn, 1) := by decide +kernel
theorem dX11_space_45 : decode cX11_space 45 = .ok (.iload_n 2, 1) := by decide +kernel
theorem dX11_space_46 : decode cX11_space 46 = .ok (.iconst 1, 1) := by decide +kernel
theorem dX11_space_47 : decode cX11_space 47 = .ok (.if_icmp .ne 14, 3) := by decide +kernel
theorem dX11_space_50 : decode cX11_space 50 = .ok (.aload_n 0, 1) := by decide +kernel
theorem dX11_space_51 : decode cX11_space 51 = .ok (.getfield 9, 3) := by decide +kernel
theorem dX11_space_54 : decode cX11_space 54 = .ok (.sipush 318, 3) := by decide +kernel
theorem dX11_space_57 : decode cX11_space 57 = .ok (.iload_n 1, 1) := by decide +kernel
theorem dX11_space_58 : decode cX11_space 58 = .ok (.iadd, 1) := by decide +kernel
theorem dX11_space_59 : decode cX11_space 59 = .ok (.iaload, 1) := by decide +kernel
theorem dX11_space_60 : decode cX11_space 60 = .ok (.ireturn, 1) := by decide +kernel
theorem dX11_space_61 : decode cX11_space 61 = .ok (.iload_n 2, 1) := by decide +kernel
theorem dX11_space_62 : decode cX11_space 62 = .ok (.iconst 2, 1) := by decide +kernel
theorem dX11_space_63 : decode cX11_space 63 = .ok (.if_icmp .ne 14, 3) := by decide +kernel
theorem dX11_space_66 : decode cX11_space 66 = .ok (.aload_n 0, 1) := by decide +kernel
theorem dX11_space_67 : decode cX11_space 67 = .ok (.getfield 9, 3) := by decide +kernel
theorem dX11_space_70 : decode cX11_space 70 = .ok (.iload_n 1, 1) := by decide +kernel
theorem dX11_space_71 : decode cX11_space 71 = .ok (.invokestatic 116, 3) := by decide +kernel
theorem dX11_space_74 : decode cX11_space 74 = .ok (.goto 26, 3) := by decide +kernel
theorem dX11_space_77 : decode cX11_space 77 = .ok (.bipush 100, 2) := by decide +kernel
theorem dX11_space_79 : decode cX11_space 79 = .ok (.bipush (-99), 2) := by decide +kernel
theorem dX11_space_81 : decode cX11_space 81 = .ok (.bipush 99, 2) := by decide +kernel
theorem dX11_space_83 : decode cX11_space 83 = .ok (.aload_n 0, 1) := by decide +kernel
theorem dX11_space_84 : decode cX11_space 84 = .ok (.aload_n 0, 1) := by decide +kernel
theorem dX11_space_85 : decode cX11_space 85 = .ok (.getfield 9, 3) := by decide +kernel
theorem dX11_space_88 : decode cX11_space 88 = .ok (.iload_n 1, 1) := by decide +kernel
theorem dX11_space_89 : decode cX11_space 89 = .ok (.iconst 0, 1) := by decide +kernel
theorem dX11_space_90 : decode cX11_space 90 = .ok (.invokevirtual 230, 3) := by decide +kernel
theorem dX11_space_93 : decode cX11_space 93 = .ok (.invokestatic 233, 3) := by decide +kernel
theorem dX11_space_96 : decode cX11_space 96 = .ok (.invokestatic 239, 3) := by decide +kernel
theorem dX11_space_99 : decode cX11_space 99 = .ok (.iadd, 1) := by decide +kernel
theorem dX11_space_100 : decode cX11_space 100 = .ok (.ireturn, 1) := by decide +kernel
def fX11_space_J25 (h : AH) (v0 : Nat) : Option (Int32 × AH) :=
    (fX11_lost h v0).bind fun q1 =>
    some ((q1.1, q1.2))
def fX11_space (h : AH) (a0 : Nat) (a1 : Int32) (a2 : Int32) : Option (Int32 × AH) :=
  if hasC h 11 a0 = true then (
    (pF h 11 a0 5 (.int 0)).bind fun h2 =>
    (gR h2 11 a0 0).bind fun x3 =>
    (fX11_isSpace h2 x3 a1).bind fun q4 =>
    if q4 = true then (
      (fX11_in h2 a2 0 3).bind fun q5 =>
      if q5 = true then (
        if a2 = 0 then (
          (gR h2 11 a0 0).bind fun x6 =>
          (aI h2 0 x6 (312 + a1)).bind fun x7 =>
          some ((x7, h2))
        ) else (
          if a2 = 1 then (
            (gR h2 11 a0 0).bind fun x8 =>
            (aI h2 0 x8 (318 + a1)).bind fun x9 =>
            some ((x9, h2))
          ) else (
            if a2 = 2 then (
              (gR h2 11 a0 0).bind fun x10 =>
              (fX11_lengthOf h2 x10 a1).bind fun q11 =>
              some ((q11, h2))
            ) else (
              (gR h2 11 a0 0).bind fun x12 =>
              (fX11_ruleOf h2 a0 x12 a1 0).bind fun q13 =>
              some ((100 + (jmax ((-99)) (jmin 99 q13.1)), q13.2))
            )
          )
        )
      ) else (
        fX11_space_J25 h2 a0
      )
    ) else (
      fX11_space_J25 h2 a0
    )
  ) else none
set_option maxHeartbeats 4000000 in
theorem gX11_space_J25 {Y : YT} {X : XT} (C : CT Y X RX11 cX11_space 3) (O : RO X 209 0 0) {r : Int32 × AH} (E : RX Y X (some .int) (some (.int r.1)) r.2 0 0) : ∀ (h : AH) (v0 : Nat), GO Y X 3 r h 0 0 25 [(0, .ref v0)] [] (fX11_space_J25 h v0) := by
  intro h v0
  unfold fX11_space_J25
  refine go_aload_n (pc := 25) C 0 dX11_space_25 rfl ?_
  refine go_bind (fun q1 hq1 => ?_)
  refine go_callV (rest := []) (st' := [.int q1.1]) (c' := 0) (s' := 0) (pc := 26) C O miX11_227 mvX11_lost [] rfl (mX11_lost hq1).1 (mX11_lost hq1).2 dX11_space_26 ⟨by decide, by decide, by decide, by decide⟩ rfl (Nat.le_of_ble_eq_true rfl) rfl ⟨rfl, rfl⟩ ?_
  exact go_iret (w := wIh) (pc := 29) C E ((q1.1, q1.2)) q1.1 dX11_space_29 rfl
set_option maxHeartbeats 4000000 in
theorem mX11_space {h : AH} {a0 : Nat} {a1 : Int32} {a2 : Int32} {r : Int32 × AH} (hr : fX11_space h a0 a1 a2 = some r) : hasC h 11 a0 = true ∧ MC yX11_space cX11_space 3 (some .int) 209 0 0 [.ref a0, .int a1, .int a2] h (some (.int r.1)) r.2 := by
  unfold fX11_space at hr
  obtain ⟨hc, hr⟩ := if_some hr
  refine ⟨hc, mc_of (l0 := [(0, .ref a0), (1, .int a1), (2, .int a2)]) rfl pn_X11 (Nat.le_of_ble_eq_true rfl) (fun Y X C E O hnm => go_run hr ?_)⟩
  have C : CT Y X RX11 cX11_space 3 := C
  refine go_aload_n (pc := 0) C 0 dX11_space_0 rfl ?_
  refine go_iconst (pc := 1) C dX11_space_1 ki_0 ?_
  refine go_pI (pc := 2) C fpX11_77 dX11_space_2 (fun h2 => ?_)
  refine go_aload_n (pc := 5) C 0 dX11_space_5 rfl ?_
  refine go_gR (pc := 6) C fdX11_9 dX11_space_6 (fun x3 => ?_)
  refine go_iload_n (pc := 9) C 1 dX11_space_9 rfl ?_
  refine go_bind (fun q4 hq4 => ?_)
  refine go_callS (rest := []) (st' := [.int (b2i q4)]) (c' := 0) (s' := 0) (pc := 10) C O miX11_106 w_1479 [.ref x3, .int a1] rfl (mX11_isSpace hq4) dX11_space_10 ⟨by decide, by decide, by decide, by decide⟩ rfl (Nat.le_of_ble_eq_true rfl) rfl ⟨rfl, rfl⟩ ?_
  refine go_ifZ_eq (pc := 13) C 25 dX11_space_13 (by decide) (fun _ => ?_) (fun _ => ?_)
  · refine go_iload_n (pc := 16) C 2 dX11_space_16 rfl ?_
    refine go_iconst (pc := 17) C dX11_space_17 ki_0 ?_
    refine go_iconst (pc := 18) C dX11_space_18 ki_3 ?_
    refine go_bind (fun q5 hq5 => ?_)
    refine go_callS (rest := []) (st' := [.int (b2i q5)]) (c' := 0) (s' := 0) (pc := 19) C O miX11_84 w_1437 [.int a2, .int 0, .int 3] rfl (mX11_in hq5) dX11_space_19 ⟨by decide, by decide, by decide, by decide⟩ rfl (Nat.le_of_ble_eq_true rfl) rfl ⟨rfl, rfl⟩ ?_
    refine go_ifZ_ne (pc := 22) C 30 dX11_space_22 (by decide) (fun _ => ?_) (fun _ => ?_)
    · refine go_iload_n (pc := 30) C 2 dX11_space_30 rfl ?_
      refine go_if_ne (pc := 31) C 45 dX11_space_31 (by decide) (fun _ => ?_) (fun _ => ?_)
      · refine go_aload_n (pc := 34) C 0 dX11_space_34 rfl ?_
        refine go_gR (pc := 35) C fdX11_9 dX11_space_35 (fun x6 => ?_)
        refine go_sipush (pc := 38) C dX11_space_38 ks_312 ?_
        refine go_iload_n (pc := 41) C 1 dX11_space_41 rfl ?_
        refine go_iadd (pc := 42) C dX11_space_42 ?_
        refine go_iald (pc := 43) C dX11_space_43 (fun x7 => ?_)
        exact go_iret (w := wIh) (pc := 44) C E ((x7, h2)) x7 dX11_space_44 rfl
      · refine go_iload_n (pc := 45) C 2 dX11_space_45 rfl ?_
        refine go_iconst (pc := 46) C dX11_space_46 ki_1 ?_
        refine go_icmp_ne (pc := 47) C 61 dX11_space_47 (by decide) (fun _ => ?_) (fun _ => ?_)
        · refine go_aload_n (pc := 50) C 0 dX11_space_50 rfl ?_
          refine go_gR (pc := 51) C fdX11_9 dX11_space_51 (fun x8 => ?_)
          refine go_sipush (pc := 54) C dX11_space_54 ks_318 ?_
          refine go_iload_n (pc := 57) C 1 dX11_space_57 rfl ?_
          refine go_iadd (pc := 58) C dX11_space_58 ?_
          refine go_iald (pc := 59) C dX11_space_59 (fun x9 => ?_)
          exact go_iret (w := wIh) (pc := 60) C E ((x9, h2)) x9 dX11_space_60 rfl
        · refine go_iload_n (pc := 61) C 2 dX11_space_61 rfl ?_
          refine go_iconst (pc := 62) C dX11_space_62 ki_2 ?_
          refine go_icmp_ne (pc := 63) C 77 dX11_space_63 (by decide) (fun _ => ?_) (fun _ => ?_)
          · refine go_aload_n (pc := 66) C 0 dX11_space_66 rfl ?_
            refine go_gR (pc := 67) C fdX11_9 dX11_space_67 (fun x10 => ?_)
            refine go_iload_n (pc := 70) C 1 dX11_space_70 rfl ?_
            refine go_bind (fun q11 hq11 => ?_)
            refine go_callS (rest := []) (st' := [.int q11]) (c' := 0) (s' := 0) (pc := 71) C O miX11_116 w_1555 [.ref x10, .int a1] rfl (mX11_lengthOf hq11) dX11_space_71 ⟨by decide, by decide, by decide, by decide⟩ rfl (Nat.le_of_ble_eq_true rfl) rfl ⟨rfl, rfl⟩ ?_
            refine go_goto (pc := 74) C 100 dX11_space_74 (by decide) ?_
            exact go_iret (w := wIh) (pc := 100) C E ((q11, h2)) q11 dX11_space_100 rfl
          · refine go_bipush (pc := 77) C dX11_space_77 kb_100 ?_
            refine go_bipush (pc := 79) C dX11_space_79 kb_m99 ?_
            refine go_bipush (pc := 81) C dX11_space_81 kb_99 ?_
            refine go_aload_n (pc := 83) C 0 dX11_space_83 rfl ?_
            refine go_aload_n (pc := 84) C 0 dX11_space_84 rfl ?_
            refine go_gR (pc := 85) C fdX11_9 dX11_space_85 (fun x12 => ?_)
            refine go_iload_n (pc := 88) C 1 dX11_space_88 rfl ?_
            refine go_iconst (pc := 89) C dX11_space_89 ki_0 ?_
            refine go_bind (fun q13 hq13 => ?_)
            refine go_callV (rest := [.int 99, .int ((-99)), .int 100]) (st' := [.int q13.1, .int 99, .int ((-99)), .int 100]) (c' := 0) (s' := 0) (pc := 90) C O miX11_230 mvX11_ruleOf [.ref x12, .int a1, .int 0] rfl (mX11_ruleOf hq13).1 (mX11_ruleOf hq13).2 dX11_space_90 ⟨by decide, by decide, by decide, by decide⟩ rfl (Nat.le_of_ble_eq_true rfl) rfl ⟨rfl, rfl⟩ ?_
            refine go_mmin (pc := 93) C O w_1564 w_441 w_102 w_442 ⟨by decide, by decide, by decide⟩ (Nat.le_of_ble_eq_true rfl) dX11_space_93 ?_
            refine go_mmax (pc := 96) C O w_1565 w_524 w_102 w_525 ⟨by decide, by decide, by decide⟩ (Nat.le_of_ble_eq_true rfl) dX11_space_96 ?_
            refine go_iadd (pc := 99) C dX11_space_99 ?_
            exact go_iret (w := wIh) (pc := 100) C E ((100 + (jmax ((-99)) (jmin 99 q13.1)), q13.2)) (100 + (jmax ((-99)) (jmin 99 q13.1))) dX11_space_100 rfl
    · refine go_sub (ls' := [(0, .ref a0)]) [0] rfl ?_
      refine gX11_space_J25 C O E h2 a0
  · refine go_sub (ls' := [(0, .ref a0)]) [0] rfl ?_
    refine gX11_space_J25 C O E h2 a0
theorem dX11_told24_0 : decode cX11_told24 0 = .ok (.iload_n 0, 1) := by decide +kernel
theorem dX11_told24_1 : decode cX11_told24 1 = .ok (.iconst (-1), 1) := by decide +kernel
theorem dX11_told24_2 : decode cX11_told24 2 = .ok (.if_icmp .ne 8, 3) := by decide +kernel
theorem dX11_told24_5 : decode cX11_told24 5 = .ok (.bipush 24, 2) := by decide +kernel
theorem dX11_told24_7 : decode cX11_told24 7 = .ok (.goto 4, 3) := by decide +kernel
theorem dX11_told24_10 : decode cX11_told24 10 = .ok (.iload_n 0, 1) := by decide +kernel
theorem dX11_told24_11 : decode cX11_told24 11 = .ok (.ireturn, 1) := by decide +kernel
def fX11_told24 (h : AH) (a0 : Int32) : Option (Int32) :=
  if a0 = ((-1)) then (
    some 24
  ) else (
    some a0
  )
set_option maxHeartbeats 4000000 in
theorem mX11_told24 {h : AH} {a0 : Int32} {r : Int32} (hr : fX11_told24 h a0 = some r) : MC yX11_told24 cX11_told24 1 (some .int) 1 0 0 [.int a0] h (some (.int r)) h := by
  unfold fX11_told24 at hr
  refine mc_of (l0 := [(0, .int a0)]) rfl pn_X11 (Nat.le_of_ble_eq_true rfl) (fun Y X C E O hnm => go_run hr ?_)
  have C : CT Y X RX11 cX11_told24 1 := C
  refine go_iload_n (pc := 0) C 0 dX11_told24_0 rfl ?_
  refine go_iconst (pc := 1) C dX11_told24_1 ki_m1 ?_
  refine go_icmp_ne (pc := 2) C 10 dX11_told24_2 (by decide) (fun _ => ?_) (fun _ => ?_)
  · refine go_bipush (pc := 5) C dX11_told24_5 kb_24 ?_
    refine go_goto (pc := 7) C 11 dX11_told24_7 (by decide) ?_
    exact go_iret (w := (wI h)) (pc := 11) C E 24 24 dX11_told24_11 rfl
  · refine go_iload_n (pc := 10) C 0 dX11_told24_10 rfl ?_
    exact go_iret (w := (wI h)) (pc := 11) C E a0 a0 dX11_told24_11 rfl
