/-! walks, by program: X9_release X9_bypass X9_collapse X9_tidyChain X9_writePage X9_arrivePage X9_comeCopy X9_forkSpace X9_endSpace X10_sign X10_end X10_takeText X10_signAt X10_standsInSpace X10_wrongSpaceSign X10_toldPages X10_digitAt X10_numberAt X10_spaces X10_rule X10_clamp X10_space -/
theorem dX9_release_0 : decode cX9_release 0 = .ok (.iconst 0, 1) := by decide +kernel
theorem dX9_release_1 : decode cX9_release 1 = .ok (.istore_n 2, 1) := by decide +kernel
theorem dX9_release_2 : decode cX9_release 2 = .ok (.iload_n 1, 1) := by decide +kernel
theorem dX9_release_3 : decode cX9_release 3 = .ok (.istore_n 3, 1) := by decide +kernel
theorem dX9_release_4 : decode cX9_release 4 = .ok (.iload_n 2, 1) := by decide +kernel
theorem dX9_release_5 : decode cX9_release 5 = .ok (.bipush 24, 2) := by decide +kernel
theorem dX9_release_7 : decode cX9_release 7 = .ok (.if_icmp .ge 43, 3) := by decide +kernel
theorem dX9_release_10 : decode cX9_release 10 = .ok (.aload_n 0, 1) := by decide +kernel
theorem dX9_release_11 : decode cX9_release 11 = .ok (.iload_n 3, 1) := by decide +kernel
theorem dX9_release_12 : decode cX9_release 12 = .ok (.invokevirtual 55, 3) := by decide +kernel
theorem dX9_release_15 : decode cX9_release 15 = .ok (.ifCond .eq 35, 3) := by decide +kernel
theorem dX9_release_18 : decode cX9_release 18 = .ok (.aload_n 0, 1) := by decide +kernel
theorem dX9_release_19 : decode cX9_release 19 = .ok (.iload_n 3, 1) := by decide +kernel
theorem dX9_release_20 : decode cX9_release 20 = .ok (.invokevirtual 178, 3) := by decide +kernel
theorem dX9_release_23 : decode cX9_release 23 = .ok (.ifCond .ne 27, 3) := by decide +kernel
theorem dX9_release_26 : decode cX9_release 26 = .ok (.aload_n 0, 1) := by decide +kernel
theorem dX9_release_27 : decode cX9_release 27 = .ok (.getfield 21, 3) := by decide +kernel
theorem dX9_release_30 : decode cX9_release 30 = .ok (.iload_n 3, 1) := by decide +kernel
theorem dX9_release_31 : decode cX9_release 31 = .ok (.iaload, 1) := by decide +kernel
theorem dX9_release_32 : decode cX9_release 32 = .ok (.istore 4, 2) := by decide +kernel
theorem dX9_release_34 : decode cX9_release 34 = .ok (.aload_n 0, 1) := by decide +kernel
theorem dX9_release_35 : decode cX9_release 35 = .ok (.iload_n 3, 1) := by decide +kernel
theorem dX9_release_36 : decode cX9_release 36 = .ok (.bipush 24, 2) := by decide +kernel
theorem dX9_release_38 : decode cX9_release 38 = .ok (.invokevirtual 196, 3) := by decide +kernel
theorem dX9_release_41 : decode cX9_release 41 = .ok (.iload 4, 2) := by decide +kernel
theorem dX9_release_43 : decode cX9_release 43 = .ok (.istore_n 3, 1) := by decide +kernel
theorem dX9_release_44 : decode cX9_release 44 = .ok (.iinc 2 1, 3) := by decide +kernel
theorem dX9_release_47 : decode cX9_release 47 = .ok (.goto (-43), 3) := by decide +kernel
theorem dX9_release_50 : decode cX9_release 50 = .ok (.iload_n 2, 1) := by decide +kernel
theorem dX9_release_51 : decode cX9_release 51 = .ok (.ireturn, 1) := by decide +kernel
def fX9_release_L4 : Nat → AH → Nat → Int32 → Int32 → Option (Int32 × AH)
  | 0, _, _, _, _ => none
  | n + 1, h, v0, v2, v3 =>
    if 24 ≤ v2 then (
      some ((v2, h))
    ) else (
      (fX9_hasObject h v0 v3).bind fun q1 =>
      if q1 = true then (
        (fX9_holderTotal h v0 v3).bind fun q2 =>
        if q2 = 0 then (
          (gR h 9 v0 7).bind fun x3 =>
          (aI h 0 x3 v3).bind fun x4 =>
          (fX9_remove h v0 v3 24).bind fun q5 =>
          letF (v2 + 1 : Int32) fun x6 =>
          fX9_release_L4 n q5 v0 x6 x4
        ) else (
          some ((v2, h))
        )
      ) else (
        some ((v2, h))
      )
    )
def fX9_release (h : AH) (a0 : Nat) (a1 : Int32) : Option (Int32 × AH) :=
  if hasC h 9 a0 = true then (
    fX9_release_L4 FU h a0 0 a1
  ) else none
set_option maxHeartbeats 4000000 in
theorem gX9_release_L4 {Y : YT} {X : XT} (C : CT Y X RX9 cX9_release 5) (O : RO X 3 0 0) {r : Int32 × AH} (E : RX Y X (some .int) (some (.int r.1)) r.2 0 0) : ∀ (n : Nat) (h : AH) (v0 : Nat) (v2 : Int32) (v3 : Int32), GO Y X 5 r h 0 0 4 [(0, .ref v0), (2, .int v2), (3, .int v3)] [] (fX9_release_L4 n h v0 v2 v3) := by
  intro n
  induction n with
  | zero => intros; exact go_none _ _ _
  | succ n ih =>
    intro h v0 v2 v3
    rw [fX9_release_L4]
    refine go_iload_n (pc := 4) C 1 dX9_release_4 rfl ?_
    refine go_bipush (pc := 5) C dX9_release_5 kb_24 ?_
    refine go_icmp_ge (pc := 7) C 50 dX9_release_7 (by decide) (fun _ => ?_) (fun _ => ?_)
    · refine go_iload_n (pc := 50) C 1 dX9_release_50 rfl ?_
      exact go_iret (w := wIh) (pc := 51) C E ((v2, h)) v2 dX9_release_51 rfl
    · refine go_aload_n (pc := 10) C 0 dX9_release_10 rfl ?_
      refine go_iload_n (pc := 11) C 2 dX9_release_11 rfl ?_
      refine go_bind (fun q1 hq1 => ?_)
      refine go_callV (rest := []) (st' := [.int (b2i q1)]) (c' := 0) (s' := 0) (pc := 12) C O miX9_55 mvX9_hasObject [.int v3] rfl (mX9_hasObject hq1).1 (mX9_hasObject hq1).2 dX9_release_12 ⟨by decide, by decide, by decide, by decide⟩ rfl (Nat.le_of_ble_eq_true rfl) rfl ⟨rfl, rfl⟩ ?_
      refine go_ifZ_eq (pc := 15) C 50 dX9_release_15 (by decide) (fun _ => ?_) (fun _ => ?_)
      · refine go_aload_n (pc := 18) C 0 dX9_release_18 rfl ?_
        refine go_iload_n (pc := 19) C 2 dX9_release_19 rfl ?_
        refine go_bind (fun q2 hq2 => ?_)
        refine go_callV (rest := []) (st' := [.int q2]) (c' := 0) (s' := 0) (pc := 20) C O miX9_178 mvX9_holderTotal [.int v3] rfl (mX9_holderTotal hq2).1 (mX9_holderTotal hq2).2 dX9_release_20 ⟨by decide, by decide, by decide, by decide⟩ rfl (Nat.le_of_ble_eq_true rfl) rfl ⟨rfl, rfl⟩ ?_
        refine go_if_ne (pc := 23) C 50 dX9_release_23 (by decide) (fun _ => ?_) (fun _ => ?_)
        · refine go_aload_n (pc := 26) C 0 dX9_release_26 rfl ?_
          refine go_gR (pc := 27) C fdX9_21 dX9_release_27 (fun x3 => ?_)
          refine go_iload_n (pc := 30) C 2 dX9_release_30 rfl ?_
          refine go_iald (pc := 31) C dX9_release_31 (fun x4 => ?_)
          refine go_istore (ls' := [(4, .int x4), (0, .ref v0), (2, .int v2), (3, .int v3)]) (pc := 32) C dX9_release_32 (by decide) rfl ?_
          refine go_aload_n (pc := 34) C 1 dX9_release_34 rfl ?_
          refine go_iload_n (pc := 35) C 3 dX9_release_35 rfl ?_
          refine go_bipush (pc := 36) C dX9_release_36 kb_24 ?_
          refine go_bind (fun q5 hq5 => ?_)
          refine go_callV (rest := []) (st' := []) (c' := 0) (s' := 0) (pc := 38) C O miX9_196 mvX9_remove [.int v3, .int 24] rfl (mX9_remove hq5).1 (mX9_remove hq5).2 dX9_release_38 ⟨by decide, by decide, by decide, by decide⟩ rfl (Nat.le_of_ble_eq_true rfl) rfl ⟨rfl, rfl⟩ ?_
          refine go_iload (pc := 41) C 0 dX9_release_41 rfl ?_
          refine go_istore_n (ls' := [(3, .int x4), (4, .int x4), (0, .ref v0), (2, .int v2)]) (pc := 43) C dX9_release_43 (by decide) rfl ?_
          refine go_iincL (pc := 44) C 3 dX9_release_44 rfl ki_1 (by decide) (fun x6 => [(2, .int x6), (3, .int x4), (4, .int x4), (0, .ref v0)]) (fun _ => rfl) (fun x6 => ?_)
          refine go_goto (pc := 47) C 4 dX9_release_47 (by decide) ?_
          refine go_sub (ls' := [(0, .ref v0), (2, .int x6), (3, .int x4)]) [3, 0, 1] rfl ?_
          exact ih q5 v0 x6 x4
        · refine go_iload_n (pc := 50) C 1 dX9_release_50 rfl ?_
          exact go_iret (w := wIh) (pc := 51) C E ((v2, h)) v2 dX9_release_51 rfl
      · refine go_iload_n (pc := 50) C 1 dX9_release_50 rfl ?_
        exact go_iret (w := wIh) (pc := 51) C E ((v2, h)) v2 dX9_release_51 rfl
set_option maxHeartbeats 4000000 in
theorem mX9_release {h : AH} {a0 : Nat} {a1 : Int32} {r : Int32 × AH} (hr : fX9_release h a0 a1 = some r) : hasC h 9 a0 = true ∧ MC yX9_release cX9_release 5 (some .int) 3 0 0 [.ref a0, .int a1] h (some (.int r.1)) r.2 := by
  unfold fX9_release at hr
  obtain ⟨hc, hr⟩ := if_some hr
  refine ⟨hc, mc_of (l0 := [(0, .ref a0), (1, .int a1)]) rfl pn_X9 (Nat.le_of_ble_eq_true rfl) (fun Y X C E O hnm => go_run hr ?_)⟩
  have C : CT Y X RX9 cX9_release 5 := C
  refine go_iconst (pc := 0) C dX9_release_0 ki_0 ?_
  refine go_istore_n (ls' := [(2, .int 0), (0, .ref a0), (1, .int a1)]) (pc := 1) C dX9_release_1 (by decide) rfl ?_
  refine go_iload_n (pc := 2) C 2 dX9_release_2 rfl ?_
  refine go_istore_n (ls' := [(3, .int a1), (2, .int 0), (0, .ref a0), (1, .int a1)]) (pc := 3) C dX9_release_3 (by decide) rfl ?_
  refine go_sub (ls' := [(0, .ref a0), (2, .int 0), (3, .int a1)]) [2, 1, 0] rfl ?_
  refine gX9_release_L4 C O E FU h a0 0 a1
theorem dX9_bypass_0 : decode cX9_bypass 0 = .ok (.aload_n 0, 1) := by decide +kernel
theorem dX9_bypass_1 : decode cX9_bypass 1 = .ok (.iload_n 1, 1) := by decide +kernel
theorem dX9_bypass_2 : decode cX9_bypass 2 = .ok (.invokevirtual 55, 3) := by decide +kernel
theorem dX9_bypass_5 : decode cX9_bypass 5 = .ok (.ifCond .eq 46, 3) := by decide +kernel
theorem dX9_bypass_8 : decode cX9_bypass 8 = .ok (.aload_n 0, 1) := by decide +kernel
theorem dX9_bypass_9 : decode cX9_bypass 9 = .ok (.getfield 21, 3) := by decide +kernel
theorem dX9_bypass_12 : decode cX9_bypass 12 = .ok (.iload_n 1, 1) := by decide +kernel
theorem dX9_bypass_13 : decode cX9_bypass 13 = .ok (.iaload, 1) := by decide +kernel
theorem dX9_bypass_14 : decode cX9_bypass 14 = .ok (.istore_n 3, 1) := by decide +kernel
theorem dX9_bypass_15 : decode cX9_bypass 15 = .ok (.aload_n 0, 1) := by decide +kernel
theorem dX9_bypass_16 : decode cX9_bypass 16 = .ok (.getfield 21, 3) := by decide +kernel
theorem dX9_bypass_19 : decode cX9_bypass 19 = .ok (.iload_n 1, 1) := by decide +kernel
theorem dX9_bypass_20 : decode cX9_bypass 20 = .ok (.iload_n 2, 1) := by decide +kernel
theorem dX9_bypass_21 : decode cX9_bypass 21 = .ok (.iastore, 1) := by decide +kernel
theorem dX9_bypass_22 : decode cX9_bypass 22 = .ok (.iload_n 2, 1) := by decide +kernel
theorem dX9_bypass_23 : decode cX9_bypass 23 = .ok (.bipush 24, 2) := by decide +kernel
theorem dX9_bypass_25 : decode cX9_bypass 25 = .ok (.if_icmp .ne 10, 3) := by decide +kernel
theorem dX9_bypass_28 : decode cX9_bypass 28 = .ok (.aload_n 0, 1) := by decide +kernel
theorem dX9_bypass_29 : decode cX9_bypass 29 = .ok (.iload_n 1, 1) := by decide +kernel
theorem dX9_bypass_30 : decode cX9_bypass 30 = .ok (.bipush 24, 2) := by decide +kernel
theorem dX9_bypass_32 : decode cX9_bypass 32 = .ok (.invokevirtual 200, 3) := by decide +kernel
theorem dX9_bypass_35 : decode cX9_bypass 35 = .ok (.aload_n 0, 1) := by decide +kernel
theorem dX9_bypass_36 : decode cX9_bypass 36 = .ok (.iload_n 3, 1) := by decide +kernel
theorem dX9_bypass_37 : decode cX9_bypass 37 = .ok (.invokevirtual 193, 3) := by decide +kernel
theorem dX9_bypass_40 : decode cX9_bypass 40 = .ok (.pop, 1) := by decide +kernel
theorem dX9_bypass_41 : decode cX9_bypass 41 = .ok (.aload_n 0, 1) := by decide +kernel
theorem dX9_bypass_42 : decode cX9_bypass 42 = .ok (.dup, 1) := by decide +kernel
theorem dX9_bypass_43 : decode cX9_bypass 43 = .ok (.getfield 75, 3) := by decide +kernel
theorem dX9_bypass_46 : decode cX9_bypass 46 = .ok (.iconst 1, 1) := by decide +kernel
theorem dX9_bypass_47 : decode cX9_bypass 47 = .ok (.iadd, 1) := by decide +kernel
theorem dX9_bypass_48 : decode cX9_bypass 48 = .ok (.putfield 75, 3) := by decide +kernel
theorem dX9_bypass_51 : decode cX9_bypass 51 = .ok (.return_, 1) := by decide +kernel
def fX9_bypass_J35 (h : AH) (v0 : Nat) (v3 : Int32) : Option (AH) :=
    (fX9_release h v0 v3).bind fun q1 =>
    (gI q1.2 9 v0 13).bind fun x2 =>
    (pF q1.2 9 v0 13 (.int (x2 + 1))).bind fun h3 =>
    some h3
def fX9_bypass (h : AH) (a0 : Nat) (a1 : Int32) (a2 : Int32) : Option (AH) :=
  if hasC h 9 a0 = true then (
    (fX9_hasObject h a0 a1).bind fun q4 =>
    if q4 = true then (
      (gR h 9 a0 7).bind fun x5 =>
      (aI h 0 x5 a1).bind fun x6 =>
      (gR h 9 a0 7).bind fun x7 =>
      (sI h 0 x7 a1 a2).bind fun h8 =>
      if a2 = 24 then (
        (fX9_passCopy h8 a0 a1 24).bind fun q9 =>
        fX9_bypass_J35 q9 a0 x6
      ) else (
        fX9_bypass_J35 h8 a0 x6
      )
    ) else (
      some h
    )
  ) else none
set_option maxHeartbeats 4000000 in
theorem gX9_bypass_J35 {Y : YT} {X : XT} (C : CT Y X RX9 cX9_bypass 4) (O : RO X 4 0 0) {r : AH} (E : RX Y X none none r 0 0) : ∀ (h : AH) (v0 : Nat) (v3 : Int32), GO Y X 4 r h 0 0 35 [(0, .ref v0), (3, .int v3)] [] (fX9_bypass_J35 h v0 v3) := by
  intro h v0 v3
  unfold fX9_bypass_J35
  refine go_aload_n (pc := 35) C 0 dX9_bypass_35 rfl ?_
  refine go_iload_n (pc := 36) C 1 dX9_bypass_36 rfl ?_
  refine go_bind (fun q1 hq1 => ?_)
  refine go_callV (rest := []) (st' := [.int q1.1]) (c' := 0) (s' := 0) (pc := 37) C O miX9_193 mvX9_release [.int v3] rfl (mX9_release hq1).1 (mX9_release hq1).2 dX9_bypass_37 ⟨by decide, by decide, by decide, by decide⟩ rfl (Nat.le_of_ble_eq_true rfl) rfl ⟨rfl, rfl⟩ ?_
  refine go_pop (pc := 40) C dX9_bypass_40 rfl ?_
  refine go_aload_n (pc := 41) C 0 dX9_bypass_41 rfl ?_
  refine go_dup (pc := 42) C dX9_bypass_42 rfl ?_
  refine go_gI (pc := 43) C fdX9_75 dX9_bypass_43 (fun x2 => ?_)
  refine go_iconst (pc := 46) C dX9_bypass_46 ki_1 ?_
  refine go_iadd (pc := 47) C dX9_bypass_47 ?_
  refine go_pI (pc := 48) C fpX9_75 dX9_bypass_48 (fun h3 => ?_)
  exact go_vret (w := wV) (pc := 51) C E h3 dX9_bypass_51 rfl
set_option maxHeartbeats 4000000 in
theorem mX9_bypass {h : AH} {a0 : Nat} {a1 : Int32} {a2 : Int32} {r : AH} (hr : fX9_bypass h a0 a1 a2 = some r) : hasC h 9 a0 = true ∧ MC yX9_bypass cX9_bypass 4 none 4 0 0 [.ref a0, .int a1, .int a2] h none r := by
  unfold fX9_bypass at hr
  obtain ⟨hc, hr⟩ := if_some hr
  refine ⟨hc, mc_of (l0 := [(0, .ref a0), (1, .int a1), (2, .int a2)]) rfl pn_X9 (Nat.le_of_ble_eq_true rfl) (fun Y X C E O hnm => go_run hr ?_)⟩
  have C : CT Y X RX9 cX9_bypass 4 := C
  refine go_aload_n (pc := 0) C 0 dX9_bypass_0 rfl ?_
  refine go_iload_n (pc := 1) C 1 dX9_bypass_1 rfl ?_
  refine go_bind (fun q4 hq4 => ?_)
  refine go_callV (rest := []) (st' := [.int (b2i q4)]) (c' := 0) (s' := 0) (pc := 2) C O miX9_55 mvX9_hasObject [.int a1] rfl (mX9_hasObject hq4).1 (mX9_hasObject hq4).2 dX9_bypass_2 ⟨by decide, by decide, by decide, by decide⟩ rfl (Nat.le_of_ble_eq_true rfl) rfl ⟨rfl, rfl⟩ ?_
  refine go_ifZ_eq (pc := 5) C 51 dX9_bypass_5 (by decide) (fun _ => ?_) (fun _ => ?_)
  · refine go_aload_n (pc := 8) C 0 dX9_bypass_8 rfl ?_
    refine go_gR (pc := 9) C fdX9_21 dX9_bypass_9 (fun x5 => ?_)
    refine go_iload_n (pc := 12) C 1 dX9_bypass_12 rfl ?_
    refine go_iald (pc := 13) C dX9_bypass_13 (fun x6 => ?_)
    refine go_istore_n (ls' := [(3, .int x6), (0, .ref a0), (1, .int a1), (2, .int a2)]) (pc := 14) C dX9_bypass_14 (by decide) rfl ?_
    refine go_aload_n (pc := 15) C 1 dX9_bypass_15 rfl ?_
    refine go_gR (pc := 16) C fdX9_21 dX9_bypass_16 (fun x7 => ?_)
    refine go_iload_n (pc := 19) C 2 dX9_bypass_19 rfl ?_
    refine go_iload_n (pc := 20) C 3 dX9_bypass_20 rfl ?_
    refine go_iast (pc := 21) C dX9_bypass_21 (fun h8 => ?_)
    refine go_iload_n (pc := 22) C 3 dX9_bypass_22 rfl ?_
    refine go_bipush (pc := 23) C dX9_bypass_23 kb_24 ?_
    refine go_icmp_ne (pc := 25) C 35 dX9_bypass_25 (by decide) (fun _ => ?_) (fun _ => ?_)
    · refine go_aload_n (pc := 28) C 1 dX9_bypass_28 rfl ?_
      refine go_iload_n (pc := 29) C 2 dX9_bypass_29 rfl ?_
      refine go_bipush (pc := 30) C dX9_bypass_30 kb_24 ?_
      refine go_bind (fun q9 hq9 => ?_)
      refine go_callV (rest := []) (st' := []) (c' := 0) (s' := 0) (pc := 32) C O miX9_200 mvX9_passCopy [.int a1, .int 24] rfl (mX9_passCopy hq9).1 (mX9_passCopy hq9).2 dX9_bypass_32 ⟨by decide, by decide, by decide, by decide⟩ rfl (Nat.le_of_ble_eq_true rfl) rfl ⟨rfl, rfl⟩ ?_
      refine go_sub (ls' := [(0, .ref a0), (3, .int x6)]) [1, 0] rfl ?_
      refine gX9_bypass_J35 C O E q9 a0 x6
    · refine go_sub (ls' := [(0, .ref a0), (3, .int x6)]) [1, 0] rfl ?_
      refine gX9_bypass_J35 C O E h8 a0 x6
  · exact go_vret (w := wV) (pc := 51) C E h dX9_bypass_51 rfl
theorem dX9_collapse_0 : decode cX9_collapse 0 = .ok (.aload_n 0, 1) := by decide +kernel
theorem dX9_collapse_1 : decode cX9_collapse 1 = .ok (.iload_n 1, 1) := by decide +kernel
theorem dX9_collapse_2 : decode cX9_collapse 2 = .ok (.invokevirtual 55, 3) := by decide +kernel
theorem dX9_collapse_5 : decode cX9_collapse 5 = .ok (.ifCond .eq 83, 3) := by decide +kernel
theorem dX9_collapse_8 : decode cX9_collapse 8 = .ok (.aload_n 0, 1) := by decide +kernel
theorem dX9_collapse_9 : decode cX9_collapse 9 = .ok (.iload_n 2, 1) := by decide +kernel
theorem dX9_collapse_10 : decode cX9_collapse 10 = .ok (.invokevirtual 55, 3) := by decide +kernel
theorem dX9_collapse_13 : decode cX9_collapse 13 = .ok (.ifCond .eq 75, 3) := by decide +kernel
theorem dX9_collapse_16 : decode cX9_collapse 16 = .ok (.iconst 0, 1) := by decide +kernel
theorem dX9_collapse_17 : decode cX9_collapse 17 = .ok (.istore_n 3, 1) := by decide +kernel
theorem dX9_collapse_18 : decode cX9_collapse 18 = .ok (.iload_n 3, 1) := by decide +kernel
theorem dX9_collapse_19 : decode cX9_collapse 19 = .ok (.bipush 8, 2) := by decide +kernel
theorem dX9_collapse_21 : decode cX9_collapse 21 = .ok (.if_icmp .ge 39, 3) := by decide +kernel
theorem dX9_collapse_24 : decode cX9_collapse 24 = .ok (.aload_n 0, 1) := by decide +kernel
theorem dX9_collapse_25 : decode cX9_collapse 25 = .ok (.iload_n 2, 1) := by decide +kernel
theorem dX9_collapse_26 : decode cX9_collapse 26 = .ok (.iload_n 3, 1) := by decide +kernel
theorem dX9_collapse_27 : decode cX9_collapse 27 = .ok (.invokevirtual 81, 3) := by decide +kernel
theorem dX9_collapse_30 : decode cX9_collapse 30 = .ok (.ifCond .eq 24, 3) := by decide +kernel
theorem dX9_collapse_33 : decode cX9_collapse 33 = .ok (.aload_n 0, 1) := by decide +kernel
theorem dX9_collapse_34 : decode cX9_collapse 34 = .ok (.iload_n 1, 1) := by decide +kernel
theorem dX9_collapse_35 : decode cX9_collapse 35 = .ok (.iload_n 3, 1) := by decide +kernel
theorem dX9_collapse_36 : decode cX9_collapse 36 = .ok (.invokevirtual 81, 3) := by decide +kernel
theorem dX9_collapse_39 : decode cX9_collapse 39 = .ok (.ifCond .ne 15, 3) := by decide +kernel
theorem dX9_collapse_42 : decode cX9_collapse 42 = .ok (.aload_n 0, 1) := by decide +kernel
theorem dX9_collapse_43 : decode cX9_collapse 43 = .ok (.iload_n 1, 1) := by decide +kernel
theorem dX9_collapse_44 : decode cX9_collapse 44 = .ok (.iload_n 3, 1) := by decide +kernel
theorem dX9_collapse_45 : decode cX9_collapse 45 = .ok (.aload_n 0, 1) := by decide +kernel
theorem dX9_collapse_46 : decode cX9_collapse 46 = .ok (.iload_n 2, 1) := by decide +kernel
theorem dX9_collapse_47 : decode cX9_collapse 47 = .ok (.iload_n 3, 1) := by decide +kernel
theorem dX9_collapse_48 : decode cX9_collapse 48 = .ok (.invokevirtual 117, 3) := by decide +kernel
theorem dX9_collapse_51 : decode cX9_collapse 51 = .ok (.invokevirtual 143, 3) := by decide +kernel
theorem dX9_collapse_54 : decode cX9_collapse 54 = .ok (.iinc 3 1, 3) := by decide +kernel
theorem dX9_collapse_57 : decode cX9_collapse 57 = .ok (.goto (-39), 3) := by decide +kernel
theorem dX9_collapse_60 : decode cX9_collapse 60 = .ok (.aload_n 0, 1) := by decide +kernel
theorem dX9_collapse_61 : decode cX9_collapse 61 = .ok (.getfield 21, 3) := by decide +kernel
theorem dX9_collapse_64 : decode cX9_collapse 64 = .ok (.iload_n 1, 1) := by decide +kernel
theorem dX9_collapse_65 : decode cX9_collapse 65 = .ok (.aload_n 0, 1) := by decide +kernel
theorem dX9_collapse_66 : decode cX9_collapse 66 = .ok (.getfield 21, 3) := by decide +kernel
theorem dX9_collapse_69 : decode cX9_collapse 69 = .ok (.iload_n 2, 1) := by decide +kernel
theorem dX9_collapse_70 : decode cX9_collapse 70 = .ok (.iaload, 1) := by decide +kernel
theorem dX9_collapse_71 : decode cX9_collapse 71 = .ok (.iastore, 1) := by decide +kernel
theorem dX9_collapse_72 : decode cX9_collapse 72 = .ok (.aload_n 0, 1) := by decide +kernel
theorem dX9_collapse_73 : decode cX9_collapse 73 = .ok (.iload_n 2, 1) := by decide +kernel
theorem dX9_collapse_74 : decode cX9_collapse 74 = .ok (.iload_n 1, 1) := by decide +kernel
theorem dX9_collapse_75 : decode cX9_collapse 75 = .ok (.invokevirtual 196, 3) := by decide +kernel
theorem dX9_collapse_78 : decode cX9_collapse 78 = .ok (.aload_n 0, 1) := by decide +kernel
theorem dX9_collapse_79 : decode cX9_collapse 79 = .ok (.dup, 1) := by decide +kernel
theorem dX9_collapse_80 : decode cX9_collapse 80 = .ok (.getfield 72, 3) := by decide +kernel
theorem dX9_collapse_83 : decode cX9_collapse 83 = .ok (.iconst 1, 1) := by decide +kernel
theorem dX9_collapse_84 : decode cX9_collapse 84 = .ok (.iadd, 1) := by decide +kernel
theorem dX9_collapse_85 : decode cX9_collapse 85 = .ok (.putfield 72, 3) := by decide +kernel
theorem dX9_collapse_88 : decode cX9_collapse 88 = .ok (.return_, 1) := by decide +kernel
def fX9_collapse_L18 (k60 : AH → Nat → Int32 → Int32 → Option (AH)) : Nat → AH → Nat → Int32 → Int32 → Int32 → Option (AH)
  | 0, _, _, _, _, _ => none
  | n + 1, h, v0, v1, v2, v3 =>
    if 8 ≤ v3 then (
      k60 h v0 v1 v2
    ) else (
      (fX9_holds h v0 v2 v3).bind fun q1 =>
      if q1 = true then (
        (fX9_holds h v0 v1 v3).bind fun q2 =>
        if q2 = true then (
          letF (v3 + 1 : Int32) fun x3 =>
          fX9_collapse_L18 k60 n h v0 v1 v2 x3
        ) else (
          (fX9_valueOf h v0 v2 v3).bind fun q4 =>
          (fX9_hold h v0 v1 v3 q4).bind fun q5 =>
          letF (v3 + 1 : Int32) fun x6 =>
          fX9_collapse_L18 k60 n q5 v0 v1 v2 x6
        )
      ) else (
        letF (v3 + 1 : Int32) fun x7 =>
        fX9_collapse_L18 k60 n h v0 v1 v2 x7
      )
    )
def fX9_collapse (h : AH) (a0 : Nat) (a1 : Int32) (a2 : Int32) : Option (AH) :=
  if hasC h 9 a0 = true then (
    (fX9_hasObject h a0 a1).bind fun q8 =>
    if q8 = true then (
      (fX9_hasObject h a0 a2).bind fun q9 =>
      if q9 = true then (
        fX9_collapse_L18
          (fun h13 x10 x11 x12 =>
            (gR h13 9 x10 7).bind fun x14 =>
            (gR h13 9 x10 7).bind fun x15 =>
            (aI h13 0 x15 x12).bind fun x16 =>
            (sI h13 0 x14 x11 x16).bind fun h17 =>
            (fX9_remove h17 x10 x12 x11).bind fun q18 =>
            (gI q18 9 x10 12).bind fun x19 =>
            (pF q18 9 x10 12 (.int (x19 + 1))).bind fun h20 =>
            some h20)
          FU h a0 a1 a2 0
      ) else (
        some h
      )
    ) else (
      some h
    )
  ) else none
set_option maxHeartbeats 4000000 in
theorem gX9_collapse_L18 {Y : YT} {X : XT} (C : CT Y X RX9 cX9_collapse 4) (O : RO X 4 0 0) {r : AH} (E : RX Y X none none r 0 0) {k60 : AH → Nat → Int32 → Int32 → Option (AH)} (hk60 : ∀ (h : AH) (v0 : Nat) (v1 : Int32) (v2 : Int32), GO Y X 4 r h 0 0 60 [(0, .ref v0), (1, .int v1), (2, .int v2)] [] (k60 h v0 v1 v2)) : ∀ (n : Nat) (h : AH) (v0 : Nat) (v1 : Int32) (v2 : Int32) (v3 : Int32), GO Y X 4 r h 0 0 18 [(0, .ref v0), (1, .int v1), (2, .int v2), (3, .int v3)] [] (fX9_collapse_L18 k60 n h v0 v1 v2 v3) := by
  intro n
  induction n with
  | zero => intros; exact go_none _ _ _
  | succ n ih =>
    intro h v0 v1 v2 v3
    rw [fX9_collapse_L18]
    refine go_iload_n (pc := 18) C 3 dX9_collapse_18 rfl ?_
    refine go_bipush (pc := 19) C dX9_collapse_19 kb_8 ?_
    refine go_icmp_ge (pc := 21) C 60 dX9_collapse_21 (by decide) (fun _ => ?_) (fun _ => ?_)
    · refine go_sub (ls' := [(0, .ref v0), (1, .int v1), (2, .int v2)]) [0, 1, 2] rfl ?_
      exact hk60 h v0 v1 v2
    · refine go_aload_n (pc := 24) C 0 dX9_collapse_24 rfl ?_
      refine go_iload_n (pc := 25) C 2 dX9_collapse_25 rfl ?_
      refine go_iload_n (pc := 26) C 3 dX9_collapse_26 rfl ?_
      refine go_bind (fun q1 hq1 => ?_)
      refine go_callV (rest := []) (st' := [.int (b2i q1)]) (c' := 0) (s' := 0) (pc := 27) C O miX9_81 mvX9_holds [.int v2, .int v3] rfl (mX9_holds hq1).1 (mX9_holds hq1).2 dX9_collapse_27 ⟨by decide, by decide, by decide, by decide⟩ rfl (Nat.le_of_ble_eq_true rfl) rfl ⟨rfl, rfl⟩ ?_
      refine go_ifZ_eq (pc := 30) C 54 dX9_collapse_30 (by decide) (fun _ => ?_) (fun _ => ?_)
      · refine go_aload_n (pc := 33) C 0 dX9_collapse_33 rfl ?_
        refine go_iload_n (pc := 34) C 1 dX9_collapse_34 rfl ?_
        refine go_iload_n (pc := 35) C 3 dX9_collapse_35 rfl ?_
        refine go_bind (fun q2 hq2 => ?_)
        refine go_callV (rest := []) (st' := [.int (b2i q2)]) (c' := 0) (s' := 0) (pc := 36) C O miX9_81 mvX9_holds [.int v1, .int v3] rfl (mX9_holds hq2).1 (mX9_holds hq2).2 dX9_collapse_36 ⟨by decide, by decide, by decide, by decide⟩ rfl (Nat.le_of_ble_eq_true rfl) rfl ⟨rfl, rfl⟩ ?_
        refine go_ifZ_ne (pc := 39) C 54 dX9_collapse_39 (by decide) (fun _ => ?_) (fun _ => ?_)
        · refine go_iincL (pc := 54) C 3 dX9_collapse_54 rfl ki_1 (by decide) (fun x3 => [(3, .int x3), (0, .ref v0), (1, .int v1), (2, .int v2)]) (fun _ => rfl) (fun x3 => ?_)
          refine go_goto (pc := 57) C 18 dX9_collapse_57 (by decide) ?_
          refine go_sub (ls' := [(0, .ref v0), (1, .int v1), (2, .int v2), (3, .int x3)]) [1, 2, 3, 0] rfl ?_
          exact ih h v0 v1 v2 x3
        · refine go_aload_n (pc := 42) C 0 dX9_collapse_42 rfl ?_
          refine go_iload_n (pc := 43) C 1 dX9_collapse_43 rfl ?_
          refine go_iload_n (pc := 44) C 3 dX9_collapse_44 rfl ?_
          refine go_aload_n (pc := 45) C 0 dX9_collapse_45 rfl ?_
          refine go_iload_n (pc := 46) C 2 dX9_collapse_46 rfl ?_
          refine go_iload_n (pc := 47) C 3 dX9_collapse_47 rfl ?_
          refine go_bind (fun q4 hq4 => ?_)
          refine go_callV (rest := [.int v3, .int v1, .ref v0]) (st' := [.int q4, .int v3, .int v1, .ref v0]) (c' := 0) (s' := 0) (pc := 48) C O miX9_117 mvX9_valueOf [.int v2, .int v3] rfl (mX9_valueOf hq4).1 (mX9_valueOf hq4).2 dX9_collapse_48 ⟨by decide, by decide, by decide, by decide⟩ rfl (Nat.le_of_ble_eq_true rfl) rfl ⟨rfl, rfl⟩ ?_
          refine go_bind (fun q5 hq5 => ?_)
          refine go_callV (rest := []) (st' := []) (c' := 0) (s' := 0) (pc := 51) C O miX9_143 mvX9_hold [.int v1, .int v3, .int q4] rfl (mX9_hold hq5).1 (mX9_hold hq5).2 dX9_collapse_51 ⟨by decide, by decide, by decide, by decide⟩ rfl (Nat.le_of_ble_eq_true rfl) rfl ⟨rfl, rfl⟩ ?_
          refine go_iincL (pc := 54) C 3 dX9_collapse_54 rfl ki_1 (by decide) (fun x6 => [(3, .int x6), (0, .ref v0), (1, .int v1), (2, .int v2)]) (fun _ => rfl) (fun x6 => ?_)
          refine go_goto (pc := 57) C 18 dX9_collapse_57 (by decide) ?_
          refine go_sub (ls' := [(0, .ref v0), (1, .int v1), (2, .int v2), (3, .int x6)]) [1, 2, 3, 0] rfl ?_
          exact ih q5 v0 v1 v2 x6
      · refine go_iincL (pc := 54) C 3 dX9_collapse_54 rfl ki_1 (by decide) (fun x7 => [(3, .int x7), (0, .ref v0), (1, .int v1), (2, .int v2)]) (fun _ => rfl) (fun x7 => ?_)
        refine go_goto (pc := 57) C 18 dX9_collapse_57 (by decide) ?_
        refine go_sub (ls' := [(0, .ref v0), (1, .int v1), (2, .int v2), (3, .int x7)]) [1, 2, 3, 0] rfl ?_
        exact ih h v0 v1 v2 x7
set_option maxHeartbeats 4000000 in
theorem mX9_collapse {h : AH} {a0 : Nat} {a1 : Int32} {a2 : Int32} {r : AH} (hr : fX9_collapse h a0 a1 a2 = some r) : hasC h 9 a0 = true ∧ MC yX9_collapse cX9_collapse 4 none 4 0 0 [.ref a0, .int a1, .int a2] h none r := by
  unfold fX9_collapse at hr
  obtain ⟨hc, hr⟩ := if_some hr
  refine ⟨hc, mc_of (l0 := [(0, .ref a0), (1, .int a1), (2, .int a2)]) rfl pn_X9 (Nat.le_of_ble_eq_true rfl) (fun Y X C E O hnm => go_run hr ?_)⟩
  have C : CT Y X RX9 cX9_collapse 4 := C
  refine go_aload_n (pc := 0) C 0 dX9_collapse_0 rfl ?_
  refine go_iload_n (pc := 1) C 1 dX9_collapse_1 rfl ?_
  refine go_bind (fun q8 hq8 => ?_)
  refine go_callV (rest := []) (st' := [.int (b2i q8)]) (c' := 0) (s' := 0) (pc := 2) C O miX9_55 mvX9_hasObject [.int a1] rfl (mX9_hasObject hq8).1 (mX9_hasObject hq8).2 dX9_collapse_2 ⟨by decide, by decide, by decide, by decide⟩ rfl (Nat.le_of_ble_eq_true rfl) rfl ⟨rfl, rfl⟩ ?_
  refine go_ifZ_eq (pc := 5) C 88 dX9_collapse_5 (by decide) (fun _ => ?_) (fun _ => ?_)
  · refine go_aload_n (pc := 8) C 0 dX9_collapse_8 rfl ?_
    refine go_iload_n (pc := 9) C 2 dX9_collapse_9 rfl ?_
    refine go_bind (fun q9 hq9 => ?_)
    refine go_callV (rest := []) (st' := [.int (b2i q9)]) (c' := 0) (s' := 0) (pc := 10) C O miX9_55 mvX9_hasObject [.int a2] rfl (mX9_hasObject hq9).1 (mX9_hasObject hq9).2 dX9_collapse_10 ⟨by decide, by decide, by decide, by decide⟩ rfl (Nat.le_of_ble_eq_true rfl) rfl ⟨rfl, rfl⟩ ?_
    refine go_ifZ_eq (pc := 13) C 88 dX9_collapse_13 (by decide) (fun _ => ?_) (fun _ => ?_)
    · refine go_iconst (pc := 16) C dX9_collapse_16 ki_0 ?_
      refine go_istore_n (ls' := [(3, .int 0), (0, .ref a0), (1, .int a1), (2, .int a2)]) (pc := 17) C dX9_collapse_17 (by decide) rfl ?_
      refine go_sub (ls' := [(0, .ref a0), (1, .int a1), (2, .int a2), (3, .int 0)]) [1, 2, 3, 0] rfl ?_
      refine gX9_collapse_L18 C O E (fun h13 x10 x11 x12 => ?_) FU h a0 a1 a2 0
      · refine go_aload_n (pc := 60) C 0 dX9_collapse_60 rfl ?_
        refine go_gR (pc := 61) C fdX9_21 dX9_collapse_61 (fun x14 => ?_)
        refine go_iload_n (pc := 64) C 1 dX9_collapse_64 rfl ?_
        refine go_aload_n (pc := 65) C 0 dX9_collapse_65 rfl ?_
        refine go_gR (pc := 66) C fdX9_21 dX9_collapse_66 (fun x15 => ?_)
        refine go_iload_n (pc := 69) C 2 dX9_collapse_69 rfl ?_
        refine go_iald (pc := 70) C dX9_collapse_70 (fun x16 => ?_)
        refine go_iast (pc := 71) C dX9_collapse_71 (fun h17 => ?_)
        refine go_aload_n (pc := 72) C 0 dX9_collapse_72 rfl ?_
        refine go_iload_n (pc := 73) C 2 dX9_collapse_73 rfl ?_
        refine go_iload_n (pc := 74) C 1 dX9_collapse_74 rfl ?_
        refine go_bind (fun q18 hq18 => ?_)
        refine go_callV (rest := []) (st' := []) (c' := 0) (s' := 0) (pc := 75) C O miX9_196 mvX9_remove [.int x12, .int x11] rfl (mX9_remove hq18).1 (mX9_remove hq18).2 dX9_collapse_75 ⟨by decide, by decide, by decide, by decide⟩ rfl (Nat.le_of_ble_eq_true rfl) rfl ⟨rfl, rfl⟩ ?_
        refine go_aload_n (pc := 78) C 0 dX9_collapse_78 rfl ?_
        refine go_dup (pc := 79) C dX9_collapse_79 rfl ?_
        refine go_gI (pc := 80) C fdX9_72 dX9_collapse_80 (fun x19 => ?_)
        refine go_iconst (pc := 83) C dX9_collapse_83 ki_1 ?_
        refine go_iadd (pc := 84) C dX9_collapse_84 ?_
        refine go_pI (pc := 85) C fpX9_72 dX9_collapse_85 (fun h20 => ?_)
        exact go_vret (w := wV) (pc := 88) C E h20 dX9_collapse_88 rfl
    · exact go_vret (w := wV) (pc := 88) C E h dX9_collapse_88 rfl
  · exact go_vret (w := wV) (pc := 88) C E h dX9_collapse_88 rfl
theorem dX9_tidyChain_0 : decode cX9_tidyChain 0 = .ok (.aload_n 0, 1) := by decide +kernel
theorem dX9_tidyChain_1 : decode cX9_tidyChain 1 = .ok (.iload_n 1, 1) := by decide +kernel
theorem dX9_tidyChain_2 : decode cX9_tidyChain 2 = .ok (.invokevirtual 78, 3) := by decide +kernel
theorem dX9_tidyChain_5 : decode cX9_tidyChain 5 = .ok (.ifCond .ne 5, 3) := by decide +kernel
theorem dX9_tidyChain_8 : decode cX9_tidyChain 8 = .ok (.iconst (-1), 1) := by decide +kernel
theorem dX9_tidyChain_9 : decode cX9_tidyChain 9 = .ok (.ireturn, 1) := by decide +kernel
theorem dX9_tidyChain_10 : decode cX9_tidyChain 10 = .ok (.aload_n 0, 1) := by decide +kernel
theorem dX9_tidyChain_11 : decode cX9_tidyChain 11 = .ok (.iconst 0, 1) := by decide +kernel
theorem dX9_tidyChain_12 : decode cX9_tidyChain 12 = .ok (.putfield 72, 3) := by decide +kernel
theorem dX9_tidyChain_15 : decode cX9_tidyChain 15 = .ok (.aload_n 0, 1) := by decide +kernel
theorem dX9_tidyChain_16 : decode cX9_tidyChain 16 = .ok (.iconst 0, 1) := by decide +kernel
theorem dX9_tidyChain_17 : decode cX9_tidyChain 17 = .ok (.putfield 75, 3) := by decide +kernel
theorem dX9_tidyChain_20 : decode cX9_tidyChain 20 = .ok (.aload_n 0, 1) := by decide +kernel
theorem dX9_tidyChain_21 : decode cX9_tidyChain 21 = .ok (.getfield 9, 3) := by decide +kernel
theorem dX9_tidyChain_24 : decode cX9_tidyChain 24 = .ok (.iload_n 1, 1) := by decide +kernel
theorem dX9_tidyChain_25 : decode cX9_tidyChain 25 = .ok (.iaload, 1) := by decide +kernel
theorem dX9_tidyChain_26 : decode cX9_tidyChain 26 = .ok (.istore_n 2, 1) := by decide +kernel
theorem dX9_tidyChain_27 : decode cX9_tidyChain 27 = .ok (.iconst 0, 1) := by decide +kernel
theorem dX9_tidyChain_28 : decode cX9_tidyChain 28 = .ok (.istore_n 3, 1) := by decide +kernel
theorem dX9_tidyChain_29 : decode cX9_tidyChain 29 = .ok (.iload_n 3, 1) := by decide +kernel
theorem dX9_tidyChain_30 : decode cX9_tidyChain 30 = .ok (.bipush 24, 2) := by decide +kernel
theorem dX9_tidyChain_32 : decode cX9_tidyChain 32 = .ok (.if_icmp .ge 146, 3) := by decide +kernel
theorem dX9_tidyChain_35 : decode cX9_tidyChain 35 = .ok (.aload_n 0, 1) := by decide +kernel
theorem dX9_tidyChain_36 : decode cX9_tidyChain 36 = .ok (.iload_n 2, 1) := by decide +kernel
theorem dX9_tidyChain_37 : decode cX9_tidyChain 37 = .ok (.invokevirtual 55, 3) := by decide +kernel
theorem dX9_tidyChain_40 : decode cX9_tidyChain 40 = .ok (.ifCond .eq 138, 3) := by decide +kernel
theorem dX9_tidyChain_43 : decode cX9_tidyChain 43 = .ok (.aload_n 0, 1) := by decide +kernel
theorem dX9_tidyChain_44 : decode cX9_tidyChain 44 = .ok (.aload_n 0, 1) := by decide +kernel
theorem dX9_tidyChain_45 : decode cX9_tidyChain 45 = .ok (.getfield 21, 3) := by decide +kernel
theorem dX9_tidyChain_48 : decode cX9_tidyChain 48 = .ok (.iload_n 2, 1) := by decide +kernel
theorem dX9_tidyChain_49 : decode cX9_tidyChain 49 = .ok (.iaload, 1) := by decide +kernel
theorem dX9_tidyChain_50 : decode cX9_tidyChain 50 = .ok (.invokevirtual 55, 3) := by decide +kernel
theorem dX9_tidyChain_53 : decode cX9_tidyChain 53 = .ok (.ifCond .eq 125, 3) := by decide +kernel
theorem dX9_tidyChain_56 : decode cX9_tidyChain 56 = .ok (.aload_n 0, 1) := by decide +kernel
theorem dX9_tidyChain_57 : decode cX9_tidyChain 57 = .ok (.getfield 21, 3) := by decide +kernel
theorem dX9_tidyChain_60 : decode cX9_tidyChain 60 = .ok (.iload_n 2, 1) := by decide +kernel
theorem dX9_tidyChain_61 : decode cX9_tidyChain 61 = .ok (.iaload, 1) := by decide +kernel
theorem dX9_tidyChain_62 : decode cX9_tidyChain 62 = .ok (.istore 4, 2) := by decide +kernel
theorem dX9_tidyChain_64 : decode cX9_tidyChain 64 = .ok (.aload_n 0, 1) := by decide +kernel
theorem dX9_tidyChain_65 : decode cX9_tidyChain 65 = .ok (.getfield 15, 3) := by decide +kernel
theorem dX9_tidyChain_68 : decode cX9_tidyChain 68 = .ok (.iload_n 2, 1) := by decide +kernel
theorem dX9_tidyChain_69 : decode cX9_tidyChain 69 = .ok (.iaload, 1) := by decide +kernel
theorem dX9_tidyChain_70 : decode cX9_tidyChain 70 = .ok (.sipush 255, 3) := by decide +kernel
theorem dX9_tidyChain_73 : decode cX9_tidyChain 73 = .ok (.if_icmp .ne 13, 3) := by decide +kernel
theorem dX9_tidyChain_76 : decode cX9_tidyChain 76 = .ok (.aload_n 0, 1) := by decide +kernel
theorem dX9_tidyChain_77 : decode cX9_tidyChain 77 = .ok (.iload_n 2, 1) := by decide +kernel
theorem dX9_tidyChain_78 : decode cX9_tidyChain 78 = .ok (.bipush 24, 2) := by decide +kernel
theorem dX9_tidyChain_80 : decode cX9_tidyChain 80 = .ok (.invokevirtual 203, 3) := by decide +kernel
theorem dX9_tidyChain_83 : decode cX9_tidyChain 83 = .ok (.goto 89, 3) := by decide +kernel
theorem dX9_tidyChain_86 : decode cX9_tidyChain 86 = .ok (.aload_n 0, 1) := by decide +kernel
theorem dX9_tidyChain_87 : decode cX9_tidyChain 87 = .ok (.getfield 27, 3) := by decide +kernel
theorem dX9_tidyChain_90 : decode cX9_tidyChain 90 = .ok (.iload 4, 2) := by decide +kernel
theorem dX9_tidyChain_92 : decode cX9_tidyChain 92 = .ok (.iaload, 1) := by decide +kernel
theorem dX9_tidyChain_93 : decode cX9_tidyChain 93 = .ok (.ifCond .ne 23, 3) := by decide +kernel
theorem dX9_tidyChain_96 : decode cX9_tidyChain 96 = .ok (.aload_n 0, 1) := by decide +kernel
theorem dX9_tidyChain_97 : decode cX9_tidyChain 97 = .ok (.iload 4, 2) := by decide +kernel
theorem dX9_tidyChain_99 : decode cX9_tidyChain 99 = .ok (.invokevirtual 178, 3) := by decide +kernel
theorem dX9_tidyChain_102 : decode cX9_tidyChain 102 = .ok (.iconst 1, 1) := by decide +kernel
theorem dX9_tidyChain_103 : decode cX9_tidyChain 103 = .ok (.if_icmp .ne 13, 3) := by decide +kernel
theorem dX9_tidyChain_106 : decode cX9_tidyChain 106 = .ok (.aload_n 0, 1) := by decide +kernel
theorem dX9_tidyChain_107 : decode cX9_tidyChain 107 = .ok (.iload_n 2, 1) := by decide +kernel
theorem dX9_tidyChain_108 : decode cX9_tidyChain 108 = .ok (.iload 4, 2) := by decide +kernel
theorem dX9_tidyChain_110 : decode cX9_tidyChain 110 = .ok (.invokevirtual 206, 3) := by decide +kernel
theorem dX9_tidyChain_113 : decode cX9_tidyChain 113 = .ok (.goto 59, 3) := by decide +kernel
theorem dX9_tidyChain_116 : decode cX9_tidyChain 116 = .ok (.aload_n 0, 1) := by decide +kernel
theorem dX9_tidyChain_117 : decode cX9_tidyChain 117 = .ok (.getfield 27, 3) := by decide +kernel
theorem dX9_tidyChain_120 : decode cX9_tidyChain 120 = .ok (.iload 4, 2) := by decide +kernel
theorem dX9_tidyChain_122 : decode cX9_tidyChain 122 = .ok (.iaload, 1) := by decide +kernel
theorem dX9_tidyChain_123 : decode cX9_tidyChain 123 = .ok (.ifCond .ne 46, 3) := by decide +kernel
theorem dX9_tidyChain_126 : decode cX9_tidyChain 126 = .ok (.aload_n 0, 1) := by decide +kernel
theorem dX9_tidyChain_127 : decode cX9_tidyChain 127 = .ok (.iload 4, 2) := by decide +kernel
theorem dX9_tidyChain_129 : decode cX9_tidyChain 129 = .ok (.invokevirtual 209, 3) := by decide +kernel
theorem dX9_tidyChain_132 : decode cX9_tidyChain 132 = .ok (.ifCond .ne 37, 3) := by decide +kernel
theorem dX9_tidyChain_135 : decode cX9_tidyChain 135 = .ok (.aload_n 0, 1) := by decide +kernel
theorem dX9_tidyChain_136 : decode cX9_tidyChain 136 = .ok (.getfield 15, 3) := by decide +kernel
theorem dX9_tidyChain_139 : decode cX9_tidyChain 139 = .ok (.iload 4, 2) := by decide +kernel
theorem dX9_tidyChain_141 : decode cX9_tidyChain 141 = .ok (.iaload, 1) := by decide +kernel
theorem dX9_tidyChain_142 : decode cX9_tidyChain 142 = .ok (.aload_n 0, 1) := by decide +kernel
theorem dX9_tidyChain_143 : decode cX9_tidyChain 143 = .ok (.getfield 15, 3) := by decide +kernel
theorem dX9_tidyChain_146 : decode cX9_tidyChain 146 = .ok (.iload_n 2, 1) := by decide +kernel
theorem dX9_tidyChain_147 : decode cX9_tidyChain 147 = .ok (.iaload, 1) := by decide +kernel
theorem dX9_tidyChain_148 : decode cX9_tidyChain 148 = .ok (.iconst (-1), 1) := by decide +kernel
theorem dX9_tidyChain_149 : decode cX9_tidyChain 149 = .ok (.ixor, 1) := by decide +kernel
theorem dX9_tidyChain_150 : decode cX9_tidyChain 150 = .ok (.iand, 1) := by decide +kernel
theorem dX9_tidyChain_151 : decode cX9_tidyChain 151 = .ok (.ifCond .ne 18, 3) := by decide +kernel
theorem dX9_tidyChain_154 : decode cX9_tidyChain 154 = .ok (.aload_n 0, 1) := by decide +kernel
theorem dX9_tidyChain_155 : decode cX9_tidyChain 155 = .ok (.iload_n 2, 1) := by decide +kernel
theorem dX9_tidyChain_156 : decode cX9_tidyChain 156 = .ok (.aload_n 0, 1) := by decide +kernel
theorem dX9_tidyChain_157 : decode cX9_tidyChain 157 = .ok (.getfield 21, 3) := by decide +kernel
theorem dX9_tidyChain_160 : decode cX9_tidyChain 160 = .ok (.iload 4, 2) := by decide +kernel
theorem dX9_tidyChain_162 : decode cX9_tidyChain 162 = .ok (.iaload, 1) := by decide +kernel
theorem dX9_tidyChain_163 : decode cX9_tidyChain 163 = .ok (.invokevirtual 203, 3) := by decide +kernel
theorem dX9_tidyChain_166 : decode cX9_tidyChain 166 = .ok (.goto 6, 3) := by decide +kernel
theorem dX9_tidyChain_169 : decode cX9_tidyChain 169 = .ok (.iload 4, 2) := by decide +kernel
theorem dX9_tidyChain_171 : decode cX9_tidyChain 171 = .ok (.istore_n 2, 1) := by decide +kernel
theorem dX9_tidyChain_172 : decode cX9_tidyChain 172 = .ok (.iinc 3 1, 3) := by decide +kernel
theorem dX9_tidyChain_175 : decode cX9_tidyChain 175 = .ok (.goto (-146), 3) := by decide +kernel
theorem dX9_tidyChain_178 : decode cX9_tidyChain 178 = .ok (.aload_n 0, 1) := by decide +kernel
theorem dX9_tidyChain_179 : decode cX9_tidyChain 179 = .ok (.getfield 72, 3) := by decide +kernel
theorem dX9_tidyChain_182 : decode cX9_tidyChain 182 = .ok (.aload_n 0, 1) := by decide +kernel
theorem dX9_tidyChain_183 : decode cX9_tidyChain 183 = .ok (.getfield 75, 3) := by decide +kernel
theorem dX9_tidyChain_186 : decode cX9_tidyChain 186 = .ok (.iadd, 1) := by decide +kernel
theorem dX9_tidyChain_187 : decode cX9_tidyChain 187 = .ok (.ireturn, 1) := by decide +kernel
def fX9_tidyChain_J116 (k172 : AH → Nat → Int32 → Int32 → Option (Int32 × AH)) (h : AH) (v0 : Nat) (v2 : Int32) (v3 : Int32) (v4 : Int32) : Option (Int32 × AH) :=
    (gR h 9 v0 9).bind fun x1 =>
    (aI h 0 x1 v4).bind fun x2 =>
    if x2 = 0 then (
      (fX9_isCopy h v0 v4).bind fun q3 =>
      if q3 = true then (
        k172 h v0 v4 v3
      ) else (
        (gR h 9 v0 5).bind fun x4 =>
        (aI h 0 x4 v4).bind fun x5 =>
        (gR h 9 v0 5).bind fun x6 =>
        (aI h 0 x6 v2).bind fun x7 =>
        if (x5 &&& (x7 ^^^ ((-1)))) = 0 then (
          (gR h 9 v0 7).bind fun x8 =>
          (aI h 0 x8 v4).bind fun x9 =>
          (fX9_bypass h v0 v2 x9).bind fun q10 =>
          k172 q10 v0 v2 v3
        ) else (
          k172 h v0 v4 v3
        )
      )
    ) else (
      k172 h v0 v4 v3
    )
def fX9_tidyChain_L29 : Nat → AH → Nat → Int32 → Int32 → Option (Int32 × AH)
  | 0, _, _, _, _ => none
  | n + 1, h, v0, v2, v3 =>
    if 24 ≤ v3 then (
      (gI h 9 v0 12).bind fun x11 =>
      (gI h 9 v0 13).bind fun x12 =>
      some ((x11 + x12, h))
    ) else (
      (fX9_hasObject h v0 v2).bind fun q13 =>
      if q13 = true then (
        (gR h 9 v0 7).bind fun x14 =>
        (aI h 0 x14 v2).bind fun x15 =>
        (fX9_hasObject h v0 x15).bind fun q16 =>
        if q16 = true then (
          (gR h 9 v0 7).bind fun x17 =>
          (aI h 0 x17 v2).bind fun x18 =>
          (gR h 9 v0 5).bind fun x19 =>
          (aI h 0 x19 v2).bind fun x20 =>
          if x20 = 255 then (
            (fX9_bypass h v0 v2 24).bind fun q21 =>
            letF (v3 + 1 : Int32) fun x22 =>
            fX9_tidyChain_L29 n q21 v0 v2 x22
          ) else (
            (gR h 9 v0 9).bind fun x23 =>
            (aI h 0 x23 x18).bind fun x24 =>
            if x24 = 0 then (
              (fX9_holderTotal h v0 x18).bind fun q25 =>
              if q25 = 1 then (
                (fX9_collapse h v0 v2 x18).bind fun q26 =>
                letF (v3 + 1 : Int32) fun x27 =>
                fX9_tidyChain_L29 n q26 v0 v2 x27
              ) else (
                fX9_tidyChain_J116
                  (fun h31 x28 x29 x30 =>
                    letF (x30 + 1 : Int32) fun x32 =>
                    fX9_tidyChain_L29 n h31 x28 x29 x32)
                  h v0 v2 v3 x18
              )
            ) else (
              fX9_tidyChain_J116
                (fun h36 x33 x34 x35 =>
                  letF (x35 + 1 : Int32) fun x37 =>
                  fX9_tidyChain_L29 n h36 x33 x34 x37)
                h v0 v2 v3 x18
            )
          )
        ) else (
          (gI h 9 v0 12).bind fun x38 =>
          (gI h 9 v0 13).bind fun x39 =>
          some ((x38 + x39, h))
        )
      ) else (
        (gI h 9 v0 12).bind fun x40 =>
        (gI h 9 v0 13).bind fun x41 =>
        some ((x40 + x41, h))
      )
    )
def fX9_tidyChain (h : AH) (a0 : Nat) (a1 : Int32) : Option (Int32 × AH) :=
  if hasC h 9 a0 = true then (
    (fX9_hasSpace h a0 a1).bind fun q42 =>
    if q42 = true then (
      (pF h 9 a0 12 (.int 0)).bind fun h43 =>
      (pF h43 9 a0 13 (.int 0)).bind fun h44 =>
      (gR h44 9 a0 4).bind fun x45 =>
      (aI h44 0 x45 a1).bind fun x46 =>
      fX9_tidyChain_L29 FU h44 a0 x46 0
    ) else (
      some (((-1), h))
    )
  ) else none
set_option maxHeartbeats 4000000 in
theorem gX9_tidyChain_J116 {Y : YT} {X : XT} (C : CT Y X RX9 cX9_tidyChain 5) (O : RO X 5 0 0) {r : Int32 × AH} (E : RX Y X (some .int) (some (.int r.1)) r.2 0 0) {k172 : AH → Nat → Int32 → Int32 → Option (Int32 × AH)} (hk172 : ∀ (h : AH) (v0 : Nat) (v2 : Int32) (v3 : Int32), GO Y X 5 r h 0 0 172 [(0, .ref v0), (2, .int v2), (3, .int v3)] [] (k172 h v0 v2 v3)) : ∀ (h : AH) (v0 : Nat) (v2 : Int32) (v3 : Int32) (v4 : Int32), GO Y X 5 r h 0 0 116 [(0, .ref v0), (2, .int v2), (3, .int v3), (4, .int v4)] [] (fX9_tidyChain_J116 k172 h v0 v2 v3 v4) := by
  intro h v0 v2 v3 v4
  unfold fX9_tidyChain_J116
  refine go_aload_n (pc := 116) C 0 dX9_tidyChain_116 rfl ?_
  refine go_gR (pc := 117) C fdX9_27 dX9_tidyChain_117 (fun x1 => ?_)
  refine go_iload (pc := 120) C 3 dX9_tidyChain_120 rfl ?_
  refine go_iald (pc := 122) C dX9_tidyChain_122 (fun x2 => ?_)
  refine go_if_ne (pc := 123) C 169 dX9_tidyChain_123 (by decide) (fun _ => ?_) (fun _ => ?_)
  · refine go_aload_n (pc := 126) C 0 dX9_tidyChain_126 rfl ?_
    refine go_iload (pc := 127) C 3 dX9_tidyChain_127 rfl ?_
    refine go_bind (fun q3 hq3 => ?_)
    refine go_callV (rest := []) (st' := [.int (b2i q3)]) (c' := 0) (s' := 0) (pc := 129) C O miX9_209 mvX9_isCopy [.int v4] rfl (mX9_isCopy hq3).1 (mX9_isCopy hq3).2 dX9_tidyChain_129 ⟨by decide, by decide, by decide, by decide⟩ rfl (Nat.le_of_ble_eq_true rfl) rfl ⟨rfl, rfl⟩ ?_
    refine go_ifZ_ne (pc := 132) C 169 dX9_tidyChain_132 (by decide) (fun _ => ?_) (fun _ => ?_)
    · refine go_iload (pc := 169) C 3 dX9_tidyChain_169 rfl ?_
      refine go_istore_n (ls' := [(2, .int v4), (0, .ref v0), (3, .int v3), (4, .int v4)]) (pc := 171) C dX9_tidyChain_171 (by decide) rfl ?_
      refine go_sub (ls' := [(0, .ref v0), (2, .int v4), (3, .int v3)]) [1, 0, 2] rfl ?_
      exact hk172 h v0 v4 v3
    · refine go_aload_n (pc := 135) C 0 dX9_tidyChain_135 rfl ?_
      refine go_gR (pc := 136) C fdX9_15 dX9_tidyChain_136 (fun x4 => ?_)
      refine go_iload (pc := 139) C 3 dX9_tidyChain_139 rfl ?_
      refine go_iald (pc := 141) C dX9_tidyChain_141 (fun x5 => ?_)
      refine go_aload_n (pc := 142) C 0 dX9_tidyChain_142 rfl ?_
      refine go_gR (pc := 143) C fdX9_15 dX9_tidyChain_143 (fun x6 => ?_)
      refine go_iload_n (pc := 146) C 1 dX9_tidyChain_146 rfl ?_
      refine go_iald (pc := 147) C dX9_tidyChain_147 (fun x7 => ?_)
      refine go_iconst (pc := 148) C dX9_tidyChain_148 ki_m1 ?_
      refine go_ixor (pc := 149) C dX9_tidyChain_149 ?_
      refine go_iand (pc := 150) C dX9_tidyChain_150 ?_
      refine go_if_ne (pc := 151) C 169 dX9_tidyChain_151 (by decide) (fun _ => ?_) (fun _ => ?_)
      · refine go_aload_n (pc := 154) C 0 dX9_tidyChain_154 rfl ?_
        refine go_iload_n (pc := 155) C 1 dX9_tidyChain_155 rfl ?_
        refine go_aload_n (pc := 156) C 0 dX9_tidyChain_156 rfl ?_
        refine go_gR (pc := 157) C fdX9_21 dX9_tidyChain_157 (fun x8 => ?_)
        refine go_iload (pc := 160) C 3 dX9_tidyChain_160 rfl ?_
        refine go_iald (pc := 162) C dX9_tidyChain_162 (fun x9 => ?_)
        refine go_bind (fun q10 hq10 => ?_)
        refine go_callV (rest := []) (st' := []) (c' := 0) (s' := 0) (pc := 163) C O miX9_203 mvX9_bypass [.int v2, .int x9] rfl (mX9_bypass hq10).1 (mX9_bypass hq10).2 dX9_tidyChain_163 ⟨by decide, by decide, by decide, by decide⟩ rfl (Nat.le_of_ble_eq_true rfl) rfl ⟨rfl, rfl⟩ ?_
        refine go_goto (pc := 166) C 172 dX9_tidyChain_166 (by decide) ?_
        refine go_sub (ls' := [(0, .ref v0), (2, .int v2), (3, .int v3)]) [0, 1, 2] rfl ?_
        exact hk172 q10 v0 v2 v3
      · refine go_iload (pc := 169) C 3 dX9_tidyChain_169 rfl ?_
        refine go_istore_n (ls' := [(2, .int v4), (0, .ref v0), (3, .int v3), (4, .int v4)]) (pc := 171) C dX9_tidyChain_171 (by decide) rfl ?_
        refine go_sub (ls' := [(0, .ref v0), (2, .int v4), (3, .int v3)]) [1, 0, 2] rfl ?_
        exact hk172 h v0 v4 v3
  · refine go_iload (pc := 169) C 3 dX9_tidyChain_169 rfl ?_
    refine go_istore_n (ls' := [(2, .int v4), (0, .ref v0), (3, .int v3), (4, .int v4)]) (pc := 171) C dX9_tidyChain_171 (by decide) rfl ?_
    refine go_sub (ls' := [(0, .ref v0), (2, .int v4), (3, .int v3)]) [1, 0, 2] rfl ?_
    exact hk172 h v0 v4 v3
set_option maxHeartbeats 4000000 in
theorem gX9_tidyChain_L29 {Y : YT} {X : XT} (C : CT Y X RX9 cX9_tidyChain 5) (O : RO X 5 0 0) {r : Int32 × AH} (E : RX Y X (some .int) (some (.int r.1)) r.2 0 0) : ∀ (n : Nat) (h : AH) (v0 : Nat) (v2 : Int32) (v3 : Int32), GO Y X 5 r h 0 0 29 [(0, .ref v0), (2, .int v2), (3, .int v3)] [] (fX9_tidyChain_L29 n h v0 v2 v3) := by
  intro n
  induction n with
  | zero => intros; exact go_none _ _ _
  | succ n ih =>
    intro h v0 v2 v3
    rw [fX9_tidyChain_L29]
    refine go_iload_n (pc := 29) C 2 dX9_tidyChain_29 rfl ?_
    refine go_bipush (pc := 30) C dX9_tidyChain_30 kb_24 ?_
    refine go_icmp_ge (pc := 32) C 178 dX9_tidyChain_32 (by decide) (fun _ => ?_) (fun _ => ?_)
    · refine go_aload_n (pc := 178) C 0 dX9_tidyChain_178 rfl ?_
      refine go_gI (pc := 179) C fdX9_72 dX9_tidyChain_179 (fun x11 => ?_)
      refine go_aload_n (pc := 182) C 0 dX9_tidyChain_182 rfl ?_
      refine go_gI (pc := 183) C fdX9_75 dX9_tidyChain_183 (fun x12 => ?_)
      refine go_iadd (pc := 186) C dX9_tidyChain_186 ?_
      exact go_iret (w := wIh) (pc := 187) C E ((x11 + x12, h)) (x11 + x12) dX9_tidyChain_187 rfl
    · refine go_aload_n (pc := 35) C 0 dX9_tidyChain_35 rfl ?_
      refine go_iload_n (pc := 36) C 1 dX9_tidyChain_36 rfl ?_
      refine go_bind (fun q13 hq13 => ?_)
      refine go_callV (rest := []) (st' := [.int (b2i q13)]) (c' := 0) (s' := 0) (pc := 37) C O miX9_55 mvX9_hasObject [.int v2] rfl (mX9_hasObject hq13).1 (mX9_hasObject hq13).2 dX9_tidyChain_37 ⟨by decide, by decide, by decide, by decide⟩ rfl (Nat.le_of_ble_eq_true rfl) rfl ⟨rfl, rfl⟩ ?_
      refine go_ifZ_eq (pc := 40) C 178 dX9_tidyChain_40 (by decide) (fun _ => ?_) (fun _ => ?_)
      · refine go_aload_n (pc := 43) C 0 dX9_tidyChain_43 rfl ?_
        refine go_aload_n (pc := 44) C 0 dX9_tidyChain_44 rfl ?_
        refine go_gR (pc := 45) C fdX9_21 dX9_tidyChain_45 (fun x14 => ?_)
        refine go_iload_n (pc := 48) C 1 dX9_tidyChain_48 rfl ?_
        refine go_iald (pc := 49) C dX9_tidyChain_49 (fun x15 => ?_)
        refine go_bind (fun q16 hq16 => ?_)
        refine go_callV (rest := []) (st' := [.int (b2i q16)]) (c' := 0) (s' := 0) (pc := 50) C O miX9_55 mvX9_hasObject [.int x15] rfl (mX9_hasObject hq16).1 (mX9_hasObject hq16).2 dX9_tidyChain_50 ⟨by decide, by decide, by decide, by decide⟩ rfl (Nat.le_of_ble_eq_true rfl) rfl ⟨rfl, rfl⟩ ?_
        refine go_ifZ_eq (pc := 53) C 178 dX9_tidyChain_53 (by decide) (fun _ => ?_) (fun _ => ?_)
        · refine go_aload_n (pc := 56) C 0 dX9_tidyChain_56 rfl ?_
          refine go_gR (pc := 57) C fdX9_21 dX9_tidyChain_57 (fun x17 => ?_)
          refine go_iload_n (pc := 60) C 1 dX9_tidyChain_60 rfl ?_
          refine go_iald (pc := 61) C dX9_tidyChain_61 (fun x18 => ?_)
          refine go_istore (ls' := [(4, .int x18), (0, .ref v0), (2, .int v2), (3, .int v3)]) (pc := 62) C dX9_tidyChain_62 (by decide) rfl ?_
          refine go_aload_n (pc := 64) C 1 dX9_tidyChain_64 rfl ?_
          refine go_gR (pc := 65) C fdX9_15 dX9_tidyChain_65 (fun x19 => ?_)
          refine go_iload_n (pc := 68) C 2 dX9_tidyChain_68 rfl ?_
          refine go_iald (pc := 69) C dX9_tidyChain_69 (fun x20 => ?_)
          refine go_sipush (pc := 70) C dX9_tidyChain_70 ks_255 ?_
          refine go_icmp_ne (pc := 73) C 86 dX9_tidyChain_73 (by decide) (fun _ => ?_) (fun _ => ?_)
          · refine go_aload_n (pc := 76) C 1 dX9_tidyChain_76 rfl ?_
            refine go_iload_n (pc := 77) C 2 dX9_tidyChain_77 rfl ?_
            refine go_bipush (pc := 78) C dX9_tidyChain_78 kb_24 ?_
            refine go_bind (fun q21 hq21 => ?_)
            refine go_callV (rest := []) (st' := []) (c' := 0) (s' := 0) (pc := 80) C O miX9_203 mvX9_bypass [.int v2, .int 24] rfl (mX9_bypass hq21).1 (mX9_bypass hq21).2 dX9_tidyChain_80 ⟨by decide, by decide, by decide, by decide⟩ rfl (Nat.le_of_ble_eq_true rfl) rfl ⟨rfl, rfl⟩ ?_
            refine go_goto (pc := 83) C 172 dX9_tidyChain_83 (by decide) ?_
            refine go_iincL (pc := 172) C 3 dX9_tidyChain_172 rfl ki_1 (by decide) (fun x22 => [(3, .int x22), (4, .int x18), (0, .ref v0), (2, .int v2)]) (fun _ => rfl) (fun x22 => ?_)
            refine go_goto (pc := 175) C 29 dX9_tidyChain_175 (by decide) ?_
            refine go_sub (ls' := [(0, .ref v0), (2, .int v2), (3, .int x22)]) [2, 3, 0] rfl ?_
            exact ih q21 v0 v2 x22
          · refine go_aload_n (pc := 86) C 1 dX9_tidyChain_86 rfl ?_
            refine go_gR (pc := 87) C fdX9_27 dX9_tidyChain_87 (fun x23 => ?_)
            refine go_iload (pc := 90) C 0 dX9_tidyChain_90 rfl ?_
            refine go_iald (pc := 92) C dX9_tidyChain_92 (fun x24 => ?_)
            refine go_if_ne (pc := 93) C 116 dX9_tidyChain_93 (by decide) (fun _ => ?_) (fun _ => ?_)
            · refine go_aload_n (pc := 96) C 1 dX9_tidyChain_96 rfl ?_
              refine go_iload (pc := 97) C 0 dX9_tidyChain_97 rfl ?_
              refine go_bind (fun q25 hq25 => ?_)
              refine go_callV (rest := []) (st' := [.int q25]) (c' := 0) (s' := 0) (pc := 99) C O miX9_178 mvX9_holderTotal [.int x18] rfl (mX9_holderTotal hq25).1 (mX9_holderTotal hq25).2 dX9_tidyChain_99 ⟨by decide, by decide, by decide, by decide⟩ rfl (Nat.le_of_ble_eq_true rfl) rfl ⟨rfl, rfl⟩ ?_
              refine go_iconst (pc := 102) C dX9_tidyChain_102 ki_1 ?_
              refine go_icmp_ne (pc := 103) C 116 dX9_tidyChain_103 (by decide) (fun _ => ?_) (fun _ => ?_)
              · refine go_aload_n (pc := 106) C 1 dX9_tidyChain_106 rfl ?_
                refine go_iload_n (pc := 107) C 2 dX9_tidyChain_107 rfl ?_
                refine go_iload (pc := 108) C 0 dX9_tidyChain_108 rfl ?_
                refine go_bind (fun q26 hq26 => ?_)
                refine go_callV (rest := []) (st' := []) (c' := 0) (s' := 0) (pc := 110) C O miX9_206 mvX9_collapse [.int v2, .int x18] rfl (mX9_collapse hq26).1 (mX9_collapse hq26).2 dX9_tidyChain_110 ⟨by decide, by decide, by decide, by decide⟩ rfl (Nat.le_of_ble_eq_true rfl) rfl ⟨rfl, rfl⟩ ?_
                refine go_goto (pc := 113) C 172 dX9_tidyChain_113 (by decide) ?_
                refine go_iincL (pc := 172) C 3 dX9_tidyChain_172 rfl ki_1 (by decide) (fun x27 => [(3, .int x27), (4, .int x18), (0, .ref v0), (2, .int v2)]) (fun _ => rfl) (fun x27 => ?_)
                refine go_goto (pc := 175) C 29 dX9_tidyChain_175 (by decide) ?_
                refine go_sub (ls' := [(0, .ref v0), (2, .int v2), (3, .int x27)]) [2, 3, 0] rfl ?_
                exact ih q26 v0 v2 x27
              · refine go_sub (ls' := [(0, .ref v0), (2, .int v2), (3, .int v3), (4, .int x18)]) [1, 2, 3, 0] rfl ?_
                refine gX9_tidyChain_J116 C O E (fun h31 x28 x29 x30 => ?_) h v0 v2 v3 x18
                · refine go_iincL (pc := 172) C 2 dX9_tidyChain_172 rfl ki_1 (by decide) (fun x32 => [(3, .int x32), (0, .ref x28), (2, .int x29)]) (fun _ => rfl) (fun x32 => ?_)
                  refine go_goto (pc := 175) C 29 dX9_tidyChain_175 (by decide) ?_
                  refine go_sub (ls' := [(0, .ref x28), (2, .int x29), (3, .int x32)]) [1, 2, 0] rfl ?_
                  exact ih h31 x28 x29 x32
            · refine go_sub (ls' := [(0, .ref v0), (2, .int v2), (3, .int v3), (4, .int x18)]) [1, 2, 3, 0] rfl ?_
              refine gX9_tidyChain_J116 C O E (fun h36 x33 x34 x35 => ?_) h v0 v2 v3 x18
              · refine go_iincL (pc := 172) C 2 dX9_tidyChain_172 rfl ki_1 (by decide) (fun x37 => [(3, .int x37), (0, .ref x33), (2, .int x34)]) (fun _ => rfl) (fun x37 => ?_)
                refine go_goto (pc := 175) C 29 dX9_tidyChain_175 (by decide) ?_
                refine go_sub (ls' := [(0, .ref x33), (2, .int x34), (3, .int x37)]) [1, 2, 0] rfl ?_
                exact ih h36 x33 x34 x37
        · refine go_aload_n (pc := 178) C 0 dX9_tidyChain_178 rfl ?_
          refine go_gI (pc := 179) C fdX9_72 dX9_tidyChain_179 (fun x38 => ?_)
          refine go_aload_n (pc := 182) C 0 dX9_tidyChain_182 rfl ?_
          refine go_gI (pc := 183) C fdX9_75 dX9_tidyChain_183 (fun x39 => ?_)
          refine go_iadd (pc := 186) C dX9_tidyChain_186 ?_
          exact go_iret (w := wIh) (pc := 187) C E ((x38 + x39, h)) (x38 + x39) dX9_tidyChain_187 rfl
      · refine go_aload_n (pc := 178) C 0 dX9_tidyChain_178 rfl ?_
        refine go_gI (pc := 179) C fdX9_72 dX9_tidyChain_179 (fun x40 => ?_)
        refine go_aload_n (pc := 182) C 0 dX9_tidyChain_182 rfl ?_
        refine go_gI (pc := 183) C fdX9_75 dX9_tidyChain_183 (fun x41 => ?_)
        refine go_iadd (pc := 186) C dX9_tidyChain_186 ?_
        exact go_iret (w := wIh) (pc := 187) C E ((x40 + x41, h)) (x40 + x41) dX9_tidyChain_187 rfl
set_option maxHeartbeats 4000000 in
theorem mX9_tidyChain {h : AH} {a0 : Nat} {a1 : Int32} {r : Int32 × AH} (hr : fX9_tidyChain h a0 a1 = some r) : hasC h 9 a0 = true ∧ MC yX9_tidyChain cX9_tidyChain 5 (some .int) 5 0 0 [.ref a0, .int a1] h (some (.int r.1)) r.2 := by
  unfold fX9_tidyChain at hr
  obtain ⟨hc, hr⟩ := if_some hr
  refine ⟨hc, mc_of (l0 := [(0, .ref a0), (1, .int a1)]) rfl pn_X9 (Nat.le_of_ble_eq_true rfl) (fun Y X C E O hnm => go_run hr ?_)⟩
  have C : CT Y X RX9 cX9_tidyChain 5 := C
  refine go_aload_n (pc := 0) C 0 dX9_tidyChain_0 rfl ?_
  refine go_iload_n (pc := 1) C 1 dX9_tidyChain_1 rfl ?_
  refine go_bind (fun q42 hq42 => ?_)
  refine go_callV (rest := []) (st' := [.int (b2i q42)]) (c' := 0) (s' := 0) (pc := 2) C O miX9_78 mvX9_hasSpace [.int a1] rfl (mX9_hasSpace hq42).1 (mX9_hasSpace hq42).2 dX9_tidyChain_2 ⟨by decide, by decide, by decide, by decide⟩ rfl (Nat.le_of_ble_eq_true rfl) rfl ⟨rfl, rfl⟩ ?_
  refine go_ifZ_ne (pc := 5) C 10 dX9_tidyChain_5 (by decide) (fun _ => ?_) (fun _ => ?_)
  · refine go_aload_n (pc := 10) C 0 dX9_tidyChain_10 rfl ?_
    refine go_iconst (pc := 11) C dX9_tidyChain_11 ki_0 ?_
    refine go_pI (pc := 12) C fpX9_72 dX9_tidyChain_12 (fun h43 => ?_)
    refine go_aload_n (pc := 15) C 0 dX9_tidyChain_15 rfl ?_
    refine go_iconst (pc := 16) C dX9_tidyChain_16 ki_0 ?_
    refine go_pI (pc := 17) C fpX9_75 dX9_tidyChain_17 (fun h44 => ?_)
    refine go_aload_n (pc := 20) C 0 dX9_tidyChain_20 rfl ?_
    refine go_gR (pc := 21) C fdX9_9 dX9_tidyChain_21 (fun x45 => ?_)
    refine go_iload_n (pc := 24) C 1 dX9_tidyChain_24 rfl ?_
    refine go_iald (pc := 25) C dX9_tidyChain_25 (fun x46 => ?_)
    refine go_istore_n (ls' := [(2, .int x46), (0, .ref a0), (1, .int a1)]) (pc := 26) C dX9_tidyChain_26 (by decide) rfl ?_
    refine go_iconst (pc := 27) C dX9_tidyChain_27 ki_0 ?_
    refine go_istore_n (ls' := [(3, .int 0), (2, .int x46), (0, .ref a0), (1, .int a1)]) (pc := 28) C dX9_tidyChain_28 (by decide) rfl ?_
    refine go_sub (ls' := [(0, .ref a0), (2, .int x46), (3, .int 0)]) [2, 1, 0] rfl ?_
    refine gX9_tidyChain_L29 C O E FU h44 a0 x46 0
  · refine go_iconst (pc := 8) C dX9_tidyChain_8 ki_m1 ?_
    exact go_iret (w := wIh) (pc := 9) C E (((-1), h)) ((-1)) dX9_tidyChain_9 rfl
theorem dX9_writePage_0 : decode cX9_writePage 0 = .ok (.iload_n 3, 1) := by decide +kernel
theorem dX9_writePage_1 : decode cX9_writePage 1 = .ok (.invokestatic 146, 3) := by decide +kernel
theorem dX9_writePage_4 : decode cX9_writePage 4 = .ok (.ifCond .ne 5, 3) := by decide +kernel
theorem dX9_writePage_7 : decode cX9_writePage 7 = .ok (.iconst (-1), 1) := by decide +kernel
theorem dX9_writePage_8 : decode cX9_writePage 8 = .ok (.ireturn, 1) := by decide +kernel
theorem dX9_writePage_9 : decode cX9_writePage 9 = .ok (.aload_n 0, 1) := by decide +kernel
theorem dX9_writePage_10 : decode cX9_writePage 10 = .ok (.iload_n 1, 1) := by decide +kernel
theorem dX9_writePage_11 : decode cX9_writePage 11 = .ok (.iload_n 2, 1) := by decide +kernel
theorem dX9_writePage_12 : decode cX9_writePage 12 = .ok (.invokevirtual 129, 3) := by decide +kernel
theorem dX9_writePage_15 : decode cX9_writePage 15 = .ok (.istore 5, 2) := by decide +kernel
theorem dX9_writePage_17 : decode cX9_writePage 17 = .ok (.iload 5, 2) := by decide +kernel
theorem dX9_writePage_19 : decode cX9_writePage 19 = .ok (.ifCond .ge 14, 3) := by decide +kernel
theorem dX9_writePage_22 : decode cX9_writePage 22 = .ok (.aload_n 0, 1) := by decide +kernel
theorem dX9_writePage_23 : decode cX9_writePage 23 = .ok (.iload 5, 2) := by decide +kernel
theorem dX9_writePage_25 : decode cX9_writePage 25 = .ok (.iload_n 1, 1) := by decide +kernel
theorem dX9_writePage_26 : decode cX9_writePage 26 = .ok (.iload_n 2, 1) := by decide +kernel
theorem dX9_writePage_27 : decode cX9_writePage 27 = .ok (.invokevirtual 132, 3) := by decide +kernel
theorem dX9_writePage_30 : decode cX9_writePage 30 = .ok (.iload 5, 2) := by decide +kernel
theorem dX9_writePage_32 : decode cX9_writePage 32 = .ok (.ireturn, 1) := by decide +kernel
theorem dX9_writePage_33 : decode cX9_writePage 33 = .ok (.aload_n 0, 1) := by decide +kernel
theorem dX9_writePage_34 : decode cX9_writePage 34 = .ok (.iload_n 1, 1) := by decide +kernel
theorem dX9_writePage_35 : decode cX9_writePage 35 = .ok (.invokevirtual 100, 3) := by decide +kernel
theorem dX9_writePage_38 : decode cX9_writePage 38 = .ok (.istore 6, 2) := by decide +kernel
theorem dX9_writePage_40 : decode cX9_writePage 40 = .ok (.iload 6, 2) := by decide +kernel
theorem dX9_writePage_42 : decode cX9_writePage 42 = .ok (.ifCond .eq 15, 3) := by decide +kernel
theorem dX9_writePage_45 : decode cX9_writePage 45 = .ok (.aload_n 0, 1) := by decide +kernel
theorem dX9_writePage_46 : decode cX9_writePage 46 = .ok (.invokevirtual 149, 3) := by decide +kernel
theorem dX9_writePage_49 : decode cX9_writePage 49 = .ok (.bipush 24, 2) := by decide +kernel
theorem dX9_writePage_51 : decode cX9_writePage 51 = .ok (.if_icmp .lt 6, 3) := by decide +kernel
theorem dX9_writePage_54 : decode cX9_writePage 54 = .ok (.bipush (-6), 2) := by decide +kernel
theorem dX9_writePage_56 : decode cX9_writePage 56 = .ok (.ireturn, 1) := by decide +kernel
theorem dX9_writePage_57 : decode cX9_writePage 57 = .ok (.aload_n 0, 1) := by decide +kernel
theorem dX9_writePage_58 : decode cX9_writePage 58 = .ok (.invokevirtual 139, 3) := by decide +kernel
theorem dX9_writePage_61 : decode cX9_writePage 61 = .ok (.aload_n 0, 1) := by decide +kernel
theorem dX9_writePage_62 : decode cX9_writePage 62 = .ok (.iload_n 1, 1) := by decide +kernel
theorem dX9_writePage_63 : decode cX9_writePage 63 = .ok (.iload_n 2, 1) := by decide +kernel
theorem dX9_writePage_64 : decode cX9_writePage 64 = .ok (.iload 6, 2) := by decide +kernel
theorem dX9_writePage_66 : decode cX9_writePage 66 = .ok (.invokevirtual 152, 3) := by decide +kernel
theorem dX9_writePage_69 : decode cX9_writePage 69 = .ok (.iadd, 1) := by decide +kernel
theorem dX9_writePage_70 : decode cX9_writePage 70 = .ok (.bipush 64, 2) := by decide +kernel
theorem dX9_writePage_72 : decode cX9_writePage 72 = .ok (.if_icmp .le 6, 3) := by decide +kernel
theorem dX9_writePage_75 : decode cX9_writePage 75 = .ok (.bipush (-5), 2) := by decide +kernel
theorem dX9_writePage_77 : decode cX9_writePage 77 = .ok (.ireturn, 1) := by decide +kernel
theorem dX9_writePage_78 : decode cX9_writePage 78 = .ok (.aload_n 0, 1) := by decide +kernel
theorem dX9_writePage_79 : decode cX9_writePage 79 = .ok (.iload_n 1, 1) := by decide +kernel
theorem dX9_writePage_80 : decode cX9_writePage 80 = .ok (.iload_n 2, 1) := by decide +kernel
theorem dX9_writePage_81 : decode cX9_writePage 81 = .ok (.invokevirtual 136, 3) := by decide +kernel
theorem dX9_writePage_84 : decode cX9_writePage 84 = .ok (.ifCond .eq 15, 3) := by decide +kernel
theorem dX9_writePage_87 : decode cX9_writePage 87 = .ok (.aload_n 0, 1) := by decide +kernel
theorem dX9_writePage_88 : decode cX9_writePage 88 = .ok (.aload_n 0, 1) := by decide +kernel
theorem dX9_writePage_89 : decode cX9_writePage 89 = .ok (.iload_n 1, 1) := by decide +kernel
theorem dX9_writePage_90 : decode cX9_writePage 90 = .ok (.invokevirtual 120, 3) := by decide +kernel
theorem dX9_writePage_93 : decode cX9_writePage 93 = .ok (.iload_n 2, 1) := by decide +kernel
theorem dX9_writePage_94 : decode cX9_writePage 94 = .ok (.iload 5, 2) := by decide +kernel
theorem dX9_writePage_96 : decode cX9_writePage 96 = .ok (.invokevirtual 143, 3) := by decide +kernel
theorem dX9_writePage_99 : decode cX9_writePage 99 = .ok (.iload 6, 2) := by decide +kernel
theorem dX9_writePage_101 : decode cX9_writePage 101 = .ok (.ifCond .eq 8, 3) := by decide +kernel
theorem dX9_writePage_104 : decode cX9_writePage 104 = .ok (.aload_n 0, 1) := by decide +kernel
theorem dX9_writePage_105 : decode cX9_writePage 105 = .ok (.iload_n 1, 1) := by decide +kernel
theorem dX9_writePage_106 : decode cX9_writePage 106 = .ok (.invokevirtual 156, 3) := by decide +kernel
theorem dX9_writePage_109 : decode cX9_writePage 109 = .ok (.aload_n 0, 1) := by decide +kernel
theorem dX9_writePage_110 : decode cX9_writePage 110 = .ok (.dup, 1) := by decide +kernel
theorem dX9_writePage_111 : decode cX9_writePage 111 = .ok (.getfield 40, 3) := by decide +kernel
theorem dX9_writePage_114 : decode cX9_writePage 114 = .ok (.iconst 1, 1) := by decide +kernel
theorem dX9_writePage_115 : decode cX9_writePage 115 = .ok (.iload_n 1, 1) := by decide +kernel
theorem dX9_writePage_116 : decode cX9_writePage 116 = .ok (.ishl, 1) := by decide +kernel
theorem dX9_writePage_117 : decode cX9_writePage 117 = .ok (.iconst (-1), 1) := by decide +kernel
theorem dX9_writePage_118 : decode cX9_writePage 118 = .ok (.ixor, 1) := by decide +kernel
theorem dX9_writePage_119 : decode cX9_writePage 119 = .ok (.iand, 1) := by decide +kernel
theorem dX9_writePage_120 : decode cX9_writePage 120 = .ok (.putfield 40, 3) := by decide +kernel
theorem dX9_writePage_123 : decode cX9_writePage 123 = .ok (.aload_n 0, 1) := by decide +kernel
theorem dX9_writePage_124 : decode cX9_writePage 124 = .ok (.iload_n 1, 1) := by decide +kernel
theorem dX9_writePage_125 : decode cX9_writePage 125 = .ok (.invokevirtual 84, 3) := by decide +kernel
theorem dX9_writePage_128 : decode cX9_writePage 128 = .ok (.istore 7, 2) := by decide +kernel
theorem dX9_writePage_130 : decode cX9_writePage 130 = .ok (.aload_n 0, 1) := by decide +kernel
theorem dX9_writePage_131 : decode cX9_writePage 131 = .ok (.iload 7, 2) := by decide +kernel
theorem dX9_writePage_133 : decode cX9_writePage 133 = .ok (.iload_n 2, 1) := by decide +kernel
theorem dX9_writePage_134 : decode cX9_writePage 134 = .ok (.invokevirtual 160, 3) := by decide +kernel
theorem dX9_writePage_137 : decode cX9_writePage 137 = .ok (.ifCond .eq 21, 3) := by decide +kernel
theorem dX9_writePage_140 : decode cX9_writePage 140 = .ok (.aload_n 0, 1) := by decide +kernel
theorem dX9_writePage_141 : decode cX9_writePage 141 = .ok (.aload_n 0, 1) := by decide +kernel
theorem dX9_writePage_142 : decode cX9_writePage 142 = .ok (.iload 7, 2) := by decide +kernel
theorem dX9_writePage_144 : decode cX9_writePage 144 = .ok (.invokevirtual 163, 3) := by decide +kernel
theorem dX9_writePage_147 : decode cX9_writePage 147 = .ok (.iload_n 2, 1) := by decide +kernel
theorem dX9_writePage_148 : decode cX9_writePage 148 = .ok (.aload_n 0, 1) := by decide +kernel
theorem dX9_writePage_149 : decode cX9_writePage 149 = .ok (.iload 7, 2) := by decide +kernel
theorem dX9_writePage_151 : decode cX9_writePage 151 = .ok (.iload_n 2, 1) := by decide +kernel
theorem dX9_writePage_152 : decode cX9_writePage 152 = .ok (.invokevirtual 117, 3) := by decide +kernel
theorem dX9_writePage_155 : decode cX9_writePage 155 = .ok (.invokevirtual 143, 3) := by decide +kernel
theorem dX9_writePage_158 : decode cX9_writePage 158 = .ok (.aload_n 0, 1) := by decide +kernel
theorem dX9_writePage_159 : decode cX9_writePage 159 = .ok (.iload 7, 2) := by decide +kernel
theorem dX9_writePage_161 : decode cX9_writePage 161 = .ok (.iload_n 2, 1) := by decide +kernel
theorem dX9_writePage_162 : decode cX9_writePage 162 = .ok (.invokevirtual 81, 3) := by decide +kernel
theorem dX9_writePage_165 : decode cX9_writePage 165 = .ok (.istore 8, 2) := by decide +kernel
theorem dX9_writePage_167 : decode cX9_writePage 167 = .ok (.aload_n 0, 1) := by decide +kernel
theorem dX9_writePage_168 : decode cX9_writePage 168 = .ok (.iload 7, 2) := by decide +kernel
theorem dX9_writePage_170 : decode cX9_writePage 170 = .ok (.iload_n 2, 1) := by decide +kernel
theorem dX9_writePage_171 : decode cX9_writePage 171 = .ok (.iload_n 3, 1) := by decide +kernel
theorem dX9_writePage_172 : decode cX9_writePage 172 = .ok (.invokevirtual 143, 3) := by decide +kernel
theorem dX9_writePage_175 : decode cX9_writePage 175 = .ok (.aload_n 0, 1) := by decide +kernel
theorem dX9_writePage_176 : decode cX9_writePage 176 = .ok (.dup, 1) := by decide +kernel
theorem dX9_writePage_177 : decode cX9_writePage 177 = .ok (.getfield 46, 3) := by decide +kernel
theorem dX9_writePage_180 : decode cX9_writePage 180 = .ok (.iconst 1, 1) := by decide +kernel
theorem dX9_writePage_181 : decode cX9_writePage 181 = .ok (.iadd, 1) := by decide +kernel
theorem dX9_writePage_182 : decode cX9_writePage 182 = .ok (.putfield 46, 3) := by decide +kernel
theorem dX9_writePage_185 : decode cX9_writePage 185 = .ok (.iload 8, 2) := by decide +kernel
theorem dX9_writePage_187 : decode cX9_writePage 187 = .ok (.ifCond .ne 20, 3) := by decide +kernel
theorem dX9_writePage_190 : decode cX9_writePage 190 = .ok (.aload 4, 2) := by decide +kernel
theorem dX9_writePage_192 : decode cX9_writePage 192 = .ok (.aload_n 0, 1) := by decide +kernel
theorem dX9_writePage_193 : decode cX9_writePage 193 = .ok (.iload_n 1, 1) := by decide +kernel
theorem dX9_writePage_194 : decode cX9_writePage 194 = .ok (.iload_n 2, 1) := by decide +kernel
theorem dX9_writePage_195 : decode cX9_writePage 195 = .ok (.invokevirtual 166, 3) := by decide +kernel
theorem dX9_writePage_198 : decode cX9_writePage 198 = .ok (.ifCond .le 9, 3) := by decide +kernel
theorem dX9_writePage_201 : decode cX9_writePage 201 = .ok (.aload_n 0, 1) := by decide +kernel
theorem dX9_writePage_202 : decode cX9_writePage 202 = .ok (.iload_n 1, 1) := by decide +kernel
theorem dX9_writePage_203 : decode cX9_writePage 203 = .ok (.invokevirtual 172, 3) := by decide +kernel
theorem dX9_writePage_206 : decode cX9_writePage 206 = .ok (.pop, 1) := by decide +kernel
theorem dX9_writePage_207 : decode cX9_writePage 207 = .ok (.aload_n 0, 1) := by decide +kernel
theorem dX9_writePage_208 : decode cX9_writePage 208 = .ok (.iload_n 1, 1) := by decide +kernel
theorem dX9_writePage_209 : decode cX9_writePage 209 = .ok (.invokevirtual 94, 3) := by decide +kernel
theorem dX9_writePage_212 : decode cX9_writePage 212 = .ok (.ireturn, 1) := by decide +kernel
def fX9_writePage_J207 (h : AH) (v0 : Nat) (v1 : Int32) : Option (Int32 × AH) :=
    (fX9_chainLength h v0 v1).bind fun q1 =>
    some ((q1, h))
def fX9_writePage_J158 (h : AH) (v0 : Nat) (v1 : Int32) (v2 : Int32) (v3 : Int32) (v4 : Nat) (v7 : Int32) : Option (Int32 × AH) :=
    (fX9_holds h v0 v7 v2).bind fun q2 =>
    (fX9_hold h v0 v7 v2 v3).bind fun q3 =>
    (gI q3 9 v0 3).bind fun x4 =>
    (pF q3 9 v0 3 (.int (x4 + 1))).bind fun h5 =>
    if q2 = true then (
      fX9_writePage_J207 h5 v0 v1
    ) else (
      (fX6_reckon h5 v4 v0 v1 v2).bind fun q6 =>
      if q6.1 ≤ 0 then (
        fX9_writePage_J207 q6.2 v0 v1
      ) else (
        (fX9_tidyChain q6.2 v0 v1).bind fun q7 =>
        fX9_writePage_J207 q7.2 v0 v1
      )
    )
def fX9_writePage_J109 (h : AH) (v0 : Nat) (v1 : Int32) (v2 : Int32) (v3 : Int32) (v4 : Nat) : Option (Int32 × AH) :=
    (gI h 9 v0 1).bind fun x8 =>
    (pF h 9 v0 1 (.int (x8 &&& ((1 <<< (v1 &&& 31)) ^^^ ((-1)))))).bind fun h9 =>
    (fX9_topOf h9 v0 v1).bind fun q10 =>
    (fX9_pushesToCopy h9 v0 q10 v2).bind fun q11 =>
    if q11 = true then (
      (fX9_copyOf h9 v0 q10).bind fun q12 =>
      (fX9_valueOf h9 v0 q10 v2).bind fun q13 =>
      (fX9_hold h9 v0 q12 v2 q13).bind fun q14 =>
      fX9_writePage_J158 q14 v0 v1 v2 v3 v4 q10
    ) else (
      fX9_writePage_J158 h9 v0 v1 v2 v3 v4 q10
    )
def fX9_writePage_J99 (h : AH) (v0 : Nat) (v1 : Int32) (v2 : Int32) (v3 : Int32) (v4 : Nat) (v6 : Bool) : Option (Int32 × AH) :=
    if v6 = true then (
      (fX9_putObjectAbove h v0 v1).bind fun q15 =>
      fX9_writePage_J109 q15 v0 v1 v2 v3 v4
    ) else (
      fX9_writePage_J109 h v0 v1 v2 v3 v4
    )
def fX9_writePage_J57 (h : AH) (v0 : Nat) (v1 : Int32) (v2 : Int32) (v3 : Int32) (v4 : Nat) (v5 : Int32) (v6 : Bool) : Option (Int32 × AH) :=
    (fX9_frameTotal h v0).bind fun q16 =>
    (fX9_framesToWrite h v0 v1 v2 v6).bind fun q17 =>
    if (q16 + q17) ≤ 64 then (
      (fX9_isPagedIn h v0 v1 v2).bind fun q18 =>
      if q18 = true then (
        (fX9_lastOf h v0 v1).bind fun q19 =>
        (fX9_hold h v0 q19 v2 v5).bind fun q20 =>
        fX9_writePage_J99 q20 v0 v1 v2 v3 v4 v6
      ) else (
        fX9_writePage_J99 h v0 v1 v2 v3 v4 v6
      )
    ) else (
      some (((-5), h))
    )
def fX9_writePage (h : AH) (a0 : Nat) (a1 : Int32) (a2 : Int32) (a3 : Int32) (a4 : Nat) : Option (Int32 × AH) :=
  if hasC h 9 a0 = true then (
    (fX10_isValue h a3).bind fun q21 =>
    if q21 = true then (
      (fX9_peekPage h a0 a1 a2).bind fun q22 =>
      if 0 ≤ q22 then (
        (fX9_needsObject h a0 a1).bind fun q23 =>
        if q23 = true then (
          (fX9_objectTotal h a0).bind fun q24 =>
          if q24 < 24 then (
            fX9_writePage_J57 h a0 a1 a2 a3 a4 q22 q23
          ) else (
            some (((-6), h))
          )
        ) else (
          fX9_writePage_J57 h a0 a1 a2 a3 a4 q22 q23
        )
      ) else (
        (fX9_awaitIfLate h a0 q22 a1 a2).bind fun q25 =>
        some ((q22, q25))
      )
    ) else (
      some (((-1), h))
    )
  ) else none
set_option maxHeartbeats 4000000 in
theorem gX9_writePage_J207 {Y : YT} {X : XT} (C : CT Y X RX9 cX9_writePage 9) (O : RO X 6 0 0) {r : Int32 × AH} (E : RX Y X (some .int) (some (.int r.1)) r.2 0 0) : ∀ (h : AH) (v0 : Nat) (v1 : Int32), GO Y X 9 r h 0 0 207 [(0, .ref v0), (1, .int v1)] [] (fX9_writePage_J207 h v0 v1) := by
  intro h v0 v1
  unfold fX9_writePage_J207
  refine go_aload_n (pc := 207) C 0 dX9_writePage_207 rfl ?_
  refine go_iload_n (pc := 208) C 1 dX9_writePage_208 rfl ?_
  refine go_bind (fun q1 hq1 => ?_)
  refine go_callV (rest := []) (st' := [.int q1]) (c' := 0) (s' := 0) (pc := 209) C O miX9_94 mvX9_chainLength [.int v1] rfl (mX9_chainLength hq1).1 (mX9_chainLength hq1).2 dX9_writePage_209 ⟨by decide, by decide, by decide, by decide⟩ rfl (Nat.le_of_ble_eq_true rfl) rfl ⟨rfl, rfl⟩ ?_
  exact go_iret (w := wIh) (pc := 212) C E ((q1, h)) q1 dX9_writePage_212 rfl
set_option maxHeartbeats 4000000 in
theorem gX9_writePage_J158 {Y : YT} {X : XT} (C : CT Y X RX9 cX9_writePage 9) (O : RO X 6 0 0) {r : Int32 × AH} (E : RX Y X (some .int) (some (.int r.1)) r.2 0 0) : ∀ (h : AH) (v0 : Nat) (v1 : Int32) (v2 : Int32) (v3 : Int32) (v4 : Nat) (v7 : Int32), GO Y X 9 r h 0 0 158 [(0, .ref v0), (1, .int v1), (2, .int v2), (3, .int v3), (4, .ref v4), (7, .int v7)] [] (fX9_writePage_J158 h v0 v1 v2 v3 v4 v7) := by
  intro h v0 v1 v2 v3 v4 v7
  unfold fX9_writePage_J158
  refine go_aload_n (pc := 158) C 0 dX9_writePage_158 rfl ?_
  refine go_iload (pc := 159) C 5 dX9_writePage_159 rfl ?_
  refine go_iload_n (pc := 161) C 2 dX9_writePage_161 rfl ?_
  refine go_bind (fun q2 hq2 => ?_)
  refine go_callV (rest := []) (st' := [.int (b2i q2)]) (c' := 0) (s' := 0) (pc := 162) C O miX9_81 mvX9_holds [.int v7, .int v2] rfl (mX9_holds hq2).1 (mX9_holds hq2).2 dX9_writePage_162 ⟨by decide, by decide, by decide, by decide⟩ rfl (Nat.le_of_ble_eq_true rfl) rfl ⟨rfl, rfl⟩ ?_
  refine go_istore (ls' := [(8, .int (b2i q2)), (0, .ref v0), (1, .int v1), (2, .int v2), (3, .int v3), (4, .ref v4), (7, .int v7)]) (pc := 165) C dX9_writePage_165 (by decide) rfl ?_
  refine go_aload_n (pc := 167) C 1 dX9_writePage_167 rfl ?_
  refine go_iload (pc := 168) C 6 dX9_writePage_168 rfl ?_
  refine go_iload_n (pc := 170) C 3 dX9_writePage_170 rfl ?_
  refine go_iload_n (pc := 171) C 4 dX9_writePage_171 rfl ?_
  refine go_bind (fun q3 hq3 => ?_)
  refine go_callV (rest := []) (st' := []) (c' := 0) (s' := 0) (pc := 172) C O miX9_143 mvX9_hold [.int v7, .int v2, .int v3] rfl (mX9_hold hq3).1 (mX9_hold hq3).2 dX9_writePage_172 ⟨by decide, by decide, by decide, by decide⟩ rfl (Nat.le_of_ble_eq_true rfl) rfl ⟨rfl, rfl⟩ ?_
  refine go_aload_n (pc := 175) C 1 dX9_writePage_175 rfl ?_
  refine go_dup (pc := 176) C dX9_writePage_176 rfl ?_
  refine go_gI (pc := 177) C fdX9_46 dX9_writePage_177 (fun x4 => ?_)
  refine go_iconst (pc := 180) C dX9_writePage_180 ki_1 ?_
  refine go_iadd (pc := 181) C dX9_writePage_181 ?_
  refine go_pI (pc := 182) C fpX9_46 dX9_writePage_182 (fun h5 => ?_)
  refine go_iload (pc := 185) C 0 dX9_writePage_185 rfl ?_
  refine go_ifZ_ne (pc := 187) C 207 dX9_writePage_187 (by decide) (fun _ => ?_) (fun _ => ?_)
  · refine go_sub (ls' := [(0, .ref v0), (1, .int v1)]) [1, 2] rfl ?_
    refine gX9_writePage_J207 C O E h5 v0 v1
  · refine go_aload (pc := 190) C 5 dX9_writePage_190 rfl ?_
    refine go_aload_n (pc := 192) C 1 dX9_writePage_192 rfl ?_
    refine go_iload_n (pc := 193) C 2 dX9_writePage_193 rfl ?_
    refine go_iload_n (pc := 194) C 3 dX9_writePage_194 rfl ?_
    refine go_bind (fun q6 hq6 => ?_)
    refine go_callV (rest := []) (st' := [.int q6.1]) (c' := 0) (s' := 0) (pc := 195) C O miX9_166 mvX6_reckon [.ref v0, .int v1, .int v2] rfl (mX6_reckon hq6).1 (mX6_reckon hq6).2 dX9_writePage_195 ⟨by decide, by decide, by decide, by decide⟩ rfl (Nat.le_of_ble_eq_true rfl) rfl ⟨rfl, rfl⟩ ?_
    refine go_if_le (pc := 198) C 207 dX9_writePage_198 (by decide) (fun _ => ?_) (fun _ => ?_)
    · refine go_sub (ls' := [(0, .ref v0), (1, .int v1)]) [1, 2] rfl ?_
      refine gX9_writePage_J207 C O E q6.2 v0 v1
    · refine go_aload_n (pc := 201) C 1 dX9_writePage_201 rfl ?_
      refine go_iload_n (pc := 202) C 2 dX9_writePage_202 rfl ?_
      refine go_bind (fun q7 hq7 => ?_)
      refine go_callV (rest := []) (st' := [.int q7.1]) (c' := 0) (s' := 0) (pc := 203) C O miX9_172 mvX9_tidyChain [.int v1] rfl (mX9_tidyChain hq7).1 (mX9_tidyChain hq7).2 dX9_writePage_203 ⟨by decide, by decide, by decide, by decide⟩ rfl (Nat.le_of_ble_eq_true rfl) rfl ⟨rfl, rfl⟩ ?_
      refine go_pop (pc := 206) C dX9_writePage_206 rfl ?_
      refine go_sub (ls' := [(0, .ref v0), (1, .int v1)]) [1, 2] rfl ?_
      refine gX9_writePage_J207 C O E q7.2 v0 v1
set_option maxHeartbeats 4000000 in
theorem gX9_writePage_J109 {Y : YT} {X : XT} (C : CT Y X RX9 cX9_writePage 9) (O : RO X 6 0 0) {r : Int32 × AH} (E : RX Y X (some .int) (some (.int r.1)) r.2 0 0) : ∀ (h : AH) (v0 : Nat) (v1 : Int32) (v2 : Int32) (v3 : Int32) (v4 : Nat), GO Y X 9 r h 0 0 109 [(0, .ref v0), (1, .int v1), (2, .int v2), (3, .int v3), (4, .ref v4)] [] (fX9_writePage_J109 h v0 v1 v2 v3 v4) := by
  intro h v0 v1 v2 v3 v4
  unfold fX9_writePage_J109
  refine go_aload_n (pc := 109) C 0 dX9_writePage_109 rfl ?_
  refine go_dup (pc := 110) C dX9_writePage_110 rfl ?_
  refine go_gI (pc := 111) C fdX9_40 dX9_writePage_111 (fun x8 => ?_)
  refine go_iconst (pc := 114) C dX9_writePage_114 ki_1 ?_
  refine go_iload_n (pc := 115) C 1 dX9_writePage_115 rfl ?_
  refine go_ishl (pc := 116) C dX9_writePage_116 ?_
  refine go_iconst (pc := 117) C dX9_writePage_117 ki_m1 ?_
  refine go_ixor (pc := 118) C dX9_writePage_118 ?_
  refine go_iand (pc := 119) C dX9_writePage_119 ?_
  refine go_pI (pc := 120) C fpX9_40 dX9_writePage_120 (fun h9 => ?_)
  refine go_aload_n (pc := 123) C 0 dX9_writePage_123 rfl ?_
  refine go_iload_n (pc := 124) C 1 dX9_writePage_124 rfl ?_
  refine go_bind (fun q10 hq10 => ?_)
  refine go_callV (rest := []) (st' := [.int q10]) (c' := 0) (s' := 0) (pc := 125) C O miX9_84 mvX9_topOf [.int v1] rfl (mX9_topOf hq10).1 (mX9_topOf hq10).2 dX9_writePage_125 ⟨by decide, by decide, by decide, by decide⟩ rfl (Nat.le_of_ble_eq_true rfl) rfl ⟨rfl, rfl⟩ ?_
  refine go_istore (ls' := [(7, .int q10), (0, .ref v0), (1, .int v1), (2, .int v2), (3, .int v3), (4, .ref v4)]) (pc := 128) C dX9_writePage_128 (by decide) rfl ?_
  refine go_aload_n (pc := 130) C 1 dX9_writePage_130 rfl ?_
  refine go_iload (pc := 131) C 0 dX9_writePage_131 rfl ?_
  refine go_iload_n (pc := 133) C 3 dX9_writePage_133 rfl ?_
  refine go_bind (fun q11 hq11 => ?_)
  refine go_callV (rest := []) (st' := [.int (b2i q11)]) (c' := 0) (s' := 0) (pc := 134) C O miX9_160 mvX9_pushesToCopy [.int q10, .int v2] rfl (mX9_pushesToCopy hq11).1 (mX9_pushesToCopy hq11).2 dX9_writePage_134 ⟨by decide, by decide, by decide, by decide⟩ rfl (Nat.le_of_ble_eq_true rfl) rfl ⟨rfl, rfl⟩ ?_
  refine go_ifZ_eq (pc := 137) C 158 dX9_writePage_137 (by decide) (fun _ => ?_) (fun _ => ?_)
  · refine go_aload_n (pc := 140) C 1 dX9_writePage_140 rfl ?_
    refine go_aload_n (pc := 141) C 1 dX9_writePage_141 rfl ?_
    refine go_iload (pc := 142) C 0 dX9_writePage_142 rfl ?_
    refine go_bind (fun q12 hq12 => ?_)
    refine go_callV (rest := [.ref v0]) (st' := [.int q12, .ref v0]) (c' := 0) (s' := 0) (pc := 144) C O miX9_163 mvX9_copyOf [.int q10] rfl (mX9_copyOf hq12).1 (mX9_copyOf hq12).2 dX9_writePage_144 ⟨by decide, by decide, by decide, by decide⟩ rfl (Nat.le_of_ble_eq_true rfl) rfl ⟨rfl, rfl⟩ ?_
    refine go_iload_n (pc := 147) C 3 dX9_writePage_147 rfl ?_
    refine go_aload_n (pc := 148) C 1 dX9_writePage_148 rfl ?_
    refine go_iload (pc := 149) C 0 dX9_writePage_149 rfl ?_
    refine go_iload_n (pc := 151) C 3 dX9_writePage_151 rfl ?_
    refine go_bind (fun q13 hq13 => ?_)
    refine go_callV (rest := [.int v2, .int q12, .ref v0]) (st' := [.int q13, .int v2, .int q12, .ref v0]) (c' := 0) (s' := 0) (pc := 152) C O miX9_117 mvX9_valueOf [.int q10, .int v2] rfl (mX9_valueOf hq13).1 (mX9_valueOf hq13).2 dX9_writePage_152 ⟨by decide, by decide, by decide, by decide⟩ rfl (Nat.le_of_ble_eq_true rfl) rfl ⟨rfl, rfl⟩ ?_
    refine go_bind (fun q14 hq14 => ?_)
    refine go_callV (rest := []) (st' := []) (c' := 0) (s' := 0) (pc := 155) C O miX9_143 mvX9_hold [.int q12, .int v2, .int q13] rfl (mX9_hold hq14).1 (mX9_hold hq14).2 dX9_writePage_155 ⟨by decide, by decide, by decide, by decide⟩ rfl (Nat.le_of_ble_eq_true rfl) rfl ⟨rfl, rfl⟩ ?_
    refine go_sub (ls' := [(0, .ref v0), (1, .int v1), (2, .int v2), (3, .int v3), (4, .ref v4), (7, .int q10)]) [1, 2, 3, 4, 5, 0] rfl ?_
    refine gX9_writePage_J158 C O E q14 v0 v1 v2 v3 v4 q10
  · refine go_sub (ls' := [(0, .ref v0), (1, .int v1), (2, .int v2), (3, .int v3), (4, .ref v4), (7, .int q10)]) [1, 2, 3, 4, 5, 0] rfl ?_
    refine gX9_writePage_J158 C O E h9 v0 v1 v2 v3 v4 q10
set_option maxHeartbeats 4000000 in
theorem gX9_writePage_J99 {Y : YT} {X : XT} (C : CT Y X RX9 cX9_writePage 9) (O : RO X 6 0 0) {r : Int32 × AH} (E : RX Y X (some .int) (some (.int r.1)) r.2 0 0) : ∀ (h : AH) (v0 : Nat) (v1 : Int32) (v2 : Int32) (v3 : Int32) (v4 : Nat) (v6 : Bool), GO Y X 9 r h 0 0 99 [(0, .ref v0), (1, .int v1), (2, .int v2), (3, .int v3), (4, .ref v4), (6, .int (b2i v6))] [] (fX9_writePage_J99 h v0 v1 v2 v3 v4 v6) := by
  intro h v0 v1 v2 v3 v4 v6
  unfold fX9_writePage_J99
  refine go_iload (pc := 99) C 5 dX9_writePage_99 rfl ?_
  refine go_ifZ_eq (pc := 101) C 109 dX9_writePage_101 (by decide) (fun _ => ?_) (fun _ => ?_)
  · refine go_aload_n (pc := 104) C 0 dX9_writePage_104 rfl ?_
    refine go_iload_n (pc := 105) C 1 dX9_writePage_105 rfl ?_
    refine go_bind (fun q15 hq15 => ?_)
    refine go_callV (rest := []) (st' := []) (c' := 0) (s' := 0) (pc := 106) C O miX9_156 mvX9_putObjectAbove [.int v1] rfl (mX9_putObjectAbove hq15).1 (mX9_putObjectAbove hq15).2 dX9_writePage_106 ⟨by decide, by decide, by decide, by decide⟩ rfl (Nat.le_of_ble_eq_true rfl) rfl ⟨rfl, rfl⟩ ?_
    refine go_sub (ls' := [(0, .ref v0), (1, .int v1), (2, .int v2), (3, .int v3), (4, .ref v4)]) [0, 1, 2, 3, 4] rfl ?_
    refine gX9_writePage_J109 C O E q15 v0 v1 v2 v3 v4
  · refine go_sub (ls' := [(0, .ref v0), (1, .int v1), (2, .int v2), (3, .int v3), (4, .ref v4)]) [0, 1, 2, 3, 4] rfl ?_
    refine gX9_writePage_J109 C O E h v0 v1 v2 v3 v4
set_option maxHeartbeats 4000000 in
theorem gX9_writePage_J57 {Y : YT} {X : XT} (C : CT Y X RX9 cX9_writePage 9) (O : RO X 6 0 0) {r : Int32 × AH} (E : RX Y X (some .int) (some (.int r.1)) r.2 0 0) : ∀ (h : AH) (v0 : Nat) (v1 : Int32) (v2 : Int32) (v3 : Int32) (v4 : Nat) (v5 : Int32) (v6 : Bool), GO Y X 9 r h 0 0 57 [(0, .ref v0), (1, .int v1), (2, .int v2), (3, .int v3), (4, .ref v4), (5, .int v5), (6, .int (b2i v6))] [] (fX9_writePage_J57 h v0 v1 v2 v3 v4 v5 v6) := by
  intro h v0 v1 v2 v3 v4 v5 v6
  unfold fX9_writePage_J57
  refine go_aload_n (pc := 57) C 0 dX9_writePage_57 rfl ?_
  refine go_bind (fun q16 hq16 => ?_)
  refine go_callV (rest := []) (st' := [.int q16]) (c' := 0) (s' := 0) (pc := 58) C O miX9_139 mvX9_frameTotal [] rfl (mX9_frameTotal hq16).1 (mX9_frameTotal hq16).2 dX9_writePage_58 ⟨by decide, by decide, by decide, by decide⟩ rfl (Nat.le_of_ble_eq_true rfl) rfl ⟨rfl, rfl⟩ ?_
  refine go_aload_n (pc := 61) C 0 dX9_writePage_61 rfl ?_
  refine go_iload_n (pc := 62) C 1 dX9_writePage_62 rfl ?_
  refine go_iload_n (pc := 63) C 2 dX9_writePage_63 rfl ?_
  refine go_iload (pc := 64) C 6 dX9_writePage_64 rfl ?_
  refine go_bind (fun q17 hq17 => ?_)
  refine go_callV (rest := [.int q16]) (st' := [.int q17, .int q16]) (c' := 0) (s' := 0) (pc := 66) C O miX9_152 mvX9_framesToWrite [.int v1, .int v2, .int (b2i v6)] rfl (mX9_framesToWrite hq17).1 (mX9_framesToWrite hq17).2 dX9_writePage_66 ⟨by decide, by decide, by decide, by decide⟩ rfl (Nat.le_of_ble_eq_true rfl) rfl ⟨rfl, rfl⟩ ?_
  refine go_iadd (pc := 69) C dX9_writePage_69 ?_
  refine go_bipush (pc := 70) C dX9_writePage_70 kb_64 ?_
  refine go_icmp_le (pc := 72) C 78 dX9_writePage_72 (by decide) (fun _ => ?_) (fun _ => ?_)
  · refine go_aload_n (pc := 78) C 0 dX9_writePage_78 rfl ?_
    refine go_iload_n (pc := 79) C 1 dX9_writePage_79 rfl ?_
    refine go_iload_n (pc := 80) C 2 dX9_writePage_80 rfl ?_
    refine go_bind (fun q18 hq18 => ?_)
    refine go_callV (rest := []) (st' := [.int (b2i q18)]) (c' := 0) (s' := 0) (pc := 81) C O miX9_136 mvX9_isPagedIn [.int v1, .int v2] rfl (mX9_isPagedIn hq18).1 (mX9_isPagedIn hq18).2 dX9_writePage_81 ⟨by decide, by decide, by decide, by decide⟩ rfl (Nat.le_of_ble_eq_true rfl) rfl ⟨rfl, rfl⟩ ?_
    refine go_ifZ_eq (pc := 84) C 99 dX9_writePage_84 (by decide) (fun _ => ?_) (fun _ => ?_)
    · refine go_aload_n (pc := 87) C 0 dX9_writePage_87 rfl ?_
      refine go_aload_n (pc := 88) C 0 dX9_writePage_88 rfl ?_
      refine go_iload_n (pc := 89) C 1 dX9_writePage_89 rfl ?_
      refine go_bind (fun q19 hq19 => ?_)
      refine go_callV (rest := [.ref v0]) (st' := [.int q19, .ref v0]) (c' := 0) (s' := 0) (pc := 90) C O miX9_120 mvX9_lastOf [.int v1] rfl (mX9_lastOf hq19).1 (mX9_lastOf hq19).2 dX9_writePage_90 ⟨by decide, by decide, by decide, by decide⟩ rfl (Nat.le_of_ble_eq_true rfl) rfl ⟨rfl, rfl⟩ ?_
      refine go_iload_n (pc := 93) C 2 dX9_writePage_93 rfl ?_
      refine go_iload (pc := 94) C 5 dX9_writePage_94 rfl ?_
      refine go_bind (fun q20 hq20 => ?_)
      refine go_callV (rest := []) (st' := []) (c' := 0) (s' := 0) (pc := 96) C O miX9_143 mvX9_hold [.int q19, .int v2, .int v5] rfl (mX9_hold hq20).1 (mX9_hold hq20).2 dX9_writePage_96 ⟨by decide, by decide, by decide, by decide⟩ rfl (Nat.le_of_ble_eq_true rfl) rfl ⟨rfl, rfl⟩ ?_
      refine go_sub (ls' := [(0, .ref v0), (1, .int v1), (2, .int v2), (3, .int v3), (4, .ref v4), (6, .int (b2i v6))]) [0, 1, 2, 3, 4, 6] rfl ?_
      refine gX9_writePage_J99 C O E q20 v0 v1 v2 v3 v4 v6
    · refine go_sub (ls' := [(0, .ref v0), (1, .int v1), (2, .int v2), (3, .int v3), (4, .ref v4), (6, .int (b2i v6))]) [0, 1, 2, 3, 4, 6] rfl ?_
      refine gX9_writePage_J99 C O E h v0 v1 v2 v3 v4 v6
  · refine go_bipush (pc := 75) C dX9_writePage_75 kb_m5 ?_
    exact go_iret (w := wIh) (pc := 77) C E (((-5), h)) ((-5)) dX9_writePage_77 rfl
set_option maxHeartbeats 4000000 in
theorem mX9_writePage {h : AH} {a0 : Nat} {a1 : Int32} {a2 : Int32} {a3 : Int32} {a4 : Nat} {r : Int32 × AH} (hr : fX9_writePage h a0 a1 a2 a3 a4 = some r) : hasC h 9 a0 = true ∧ MC yX9_writePage cX9_writePage 9 (some .int) 6 0 0 [.ref a0, .int a1, .int a2, .int a3, .ref a4] h (some (.int r.1)) r.2 := by
  unfold fX9_writePage at hr
  obtain ⟨hc, hr⟩ := if_some hr
  refine ⟨hc, mc_of (l0 := [(0, .ref a0), (1, .int a1), (2, .int a2), (3, .int a3), (4, .ref a4)]) rfl pn_X9 (Nat.le_of_ble_eq_true rfl) (fun Y X C E O hnm => go_run hr ?_)⟩
  have C : CT Y X RX9 cX9_writePage 9 := C
  refine go_iload_n (pc := 0) C 3 dX9_writePage_0 rfl ?_
  refine go_bind (fun q21 hq21 => ?_)
  refine go_callSN (rest := []) (st' := [.int (b2i q21)]) (c' := 0) (s' := 0) (pc := 1) C O miX9_146 w_642 [.int a3] rfl (mX10_isValue hq21) dX9_writePage_1 ⟨by decide, by decide, by decide, by decide⟩ rfl (Nat.le_of_ble_eq_true rfl) rfl ⟨rfl, rfl⟩ ?_
  refine go_ifZ_ne (pc := 4) C 9 dX9_writePage_4 (by decide) (fun _ => ?_) (fun _ => ?_)
  · refine go_aload_n (pc := 9) C 0 dX9_writePage_9 rfl ?_
    refine go_iload_n (pc := 10) C 1 dX9_writePage_10 rfl ?_
    refine go_iload_n (pc := 11) C 2 dX9_writePage_11 rfl ?_
    refine go_bind (fun q22 hq22 => ?_)
    refine go_callV (rest := []) (st' := [.int q22]) (c' := 0) (s' := 0) (pc := 12) C O miX9_129 mvX9_peekPage [.int a1, .int a2] rfl (mX9_peekPage hq22).1 (mX9_peekPage hq22).2 dX9_writePage_12 ⟨by decide, by decide, by decide, by decide⟩ rfl (Nat.le_of_ble_eq_true rfl) rfl ⟨rfl, rfl⟩ ?_
    refine go_istore (ls' := [(5, .int q22), (0, .ref a0), (1, .int a1), (2, .int a2), (3, .int a3), (4, .ref a4)]) (pc := 15) C dX9_writePage_15 (by decide) rfl ?_
    refine go_iload (pc := 17) C 0 dX9_writePage_17 rfl ?_
    refine go_if_ge (pc := 19) C 33 dX9_writePage_19 (by decide) (fun _ => ?_) (fun _ => ?_)
    · refine go_aload_n (pc := 33) C 1 dX9_writePage_33 rfl ?_
      refine go_iload_n (pc := 34) C 2 dX9_writePage_34 rfl ?_
      refine go_bind (fun q23 hq23 => ?_)
      refine go_callV (rest := []) (st' := [.int (b2i q23)]) (c' := 0) (s' := 0) (pc := 35) C O miX9_100 mvX9_needsObject [.int a1] rfl (mX9_needsObject hq23).1 (mX9_needsObject hq23).2 dX9_writePage_35 ⟨by decide, by decide, by decide, by decide⟩ rfl (Nat.le_of_ble_eq_true rfl) rfl ⟨rfl, rfl⟩ ?_
      refine go_istore (ls' := [(6, .int (b2i q23)), (5, .int q22), (0, .ref a0), (1, .int a1), (2, .int a2), (3, .int a3), (4, .ref a4)]) (pc := 38) C dX9_writePage_38 (by decide) rfl ?_
      refine go_iload (pc := 40) C 0 dX9_writePage_40 rfl ?_
      refine go_ifZ_eq (pc := 42) C 57 dX9_writePage_42 (by decide) (fun _ => ?_) (fun _ => ?_)
      · refine go_aload_n (pc := 45) C 2 dX9_writePage_45 rfl ?_
        refine go_bind (fun q24 hq24 => ?_)
        refine go_callV (rest := []) (st' := [.int q24]) (c' := 0) (s' := 0) (pc := 46) C O miX9_149 mvX9_objectTotal [] rfl (mX9_objectTotal hq24).1 (mX9_objectTotal hq24).2 dX9_writePage_46 ⟨by decide, by decide, by decide, by decide⟩ rfl (Nat.le_of_ble_eq_true rfl) rfl ⟨rfl, rfl⟩ ?_
        refine go_bipush (pc := 49) C dX9_writePage_49 kb_24 ?_
        refine go_icmp_lt (pc := 51) C 57 dX9_writePage_51 (by decide) (fun _ => ?_) (fun _ => ?_)
        · refine go_sub (ls' := [(0, .ref a0), (1, .int a1), (2, .int a2), (3, .int a3), (4, .ref a4), (5, .int q22), (6, .int (b2i q23))]) [2, 3, 4, 5, 6, 1, 0] rfl ?_
          refine gX9_writePage_J57 C O E h a0 a1 a2 a3 a4 q22 q23
        · refine go_bipush (pc := 54) C dX9_writePage_54 kb_m6 ?_
          exact go_iret (w := wIh) (pc := 56) C E (((-6), h)) ((-6)) dX9_writePage_56 rfl
      · refine go_sub (ls' := [(0, .ref a0), (1, .int a1), (2, .int a2), (3, .int a3), (4, .ref a4), (5, .int q22), (6, .int (b2i q23))]) [2, 3, 4, 5, 6, 1, 0] rfl ?_
        refine gX9_writePage_J57 C O E h a0 a1 a2 a3 a4 q22 q23
    · refine go_aload_n (pc := 22) C 1 dX9_writePage_22 rfl ?_
      refine go_iload (pc := 23) C 0 dX9_writePage_23 rfl ?_
      refine go_iload_n (pc := 25) C 2 dX9_writePage_25 rfl ?_
      refine go_iload_n (pc := 26) C 3 dX9_writePage_26 rfl ?_
      refine go_bind (fun q25 hq25 => ?_)
      refine go_callV (rest := []) (st' := []) (c' := 0) (s' := 0) (pc := 27) C O miX9_132 mvX9_awaitIfLate [.int q22, .int a1, .int a2] rfl (mX9_awaitIfLate hq25).1 (mX9_awaitIfLate hq25).2 dX9_writePage_27 ⟨by decide, by decide, by decide, by decide⟩ rfl (Nat.le_of_ble_eq_true rfl) rfl ⟨rfl, rfl⟩ ?_
      refine go_iload (pc := 30) C 0 dX9_writePage_30 rfl ?_
      exact go_iret (w := wIh) (pc := 32) C E ((q22, q25)) q22 dX9_writePage_32 rfl
  · refine go_iconst (pc := 7) C dX9_writePage_7 ki_m1 ?_
    exact go_iret (w := wIh) (pc := 8) C E (((-1), h)) ((-1)) dX9_writePage_8 rfl
theorem dX9_arrivePage_0 : decode cX9_arrivePage 0 = .ok (.aload_n 0, 1) := by decide +kernel
theorem dX9_arrivePage_1 : decode cX9_arrivePage 1 = .ok (.iload_n 1, 1) := by decide +kernel
theorem dX9_arrivePage_2 : decode cX9_arrivePage 2 = .ok (.invokevirtual 55, 3) := by decide +kernel
theorem dX9_arrivePage_5 : decode cX9_arrivePage 5 = .ok (.ifCond .eq 17, 3) := by decide +kernel
theorem dX9_arrivePage_8 : decode cX9_arrivePage 8 = .ok (.iload_n 2, 1) := by decide +kernel
theorem dX9_arrivePage_9 : decode cX9_arrivePage 9 = .ok (.invokestatic 59, 3) := by decide +kernel
theorem dX9_arrivePage_12 : decode cX9_arrivePage 12 = .ok (.ifCond .eq 10, 3) := by decide +kernel
theorem dX9_arrivePage_15 : decode cX9_arrivePage 15 = .ok (.iload_n 3, 1) := by decide +kernel
theorem dX9_arrivePage_16 : decode cX9_arrivePage 16 = .ok (.invokestatic 146, 3) := by decide +kernel
theorem dX9_arrivePage_19 : decode cX9_arrivePage 19 = .ok (.ifCond .ne 5, 3) := by decide +kernel
theorem dX9_arrivePage_22 : decode cX9_arrivePage 22 = .ok (.iconst (-1), 1) := by decide +kernel
theorem dX9_arrivePage_23 : decode cX9_arrivePage 23 = .ok (.ireturn, 1) := by decide +kernel
theorem dX9_arrivePage_24 : decode cX9_arrivePage 24 = .ok (.aload_n 0, 1) := by decide +kernel
theorem dX9_arrivePage_25 : decode cX9_arrivePage 25 = .ok (.getfield 18, 3) := by decide +kernel
theorem dX9_arrivePage_28 : decode cX9_arrivePage 28 = .ok (.iload_n 1, 1) := by decide +kernel
theorem dX9_arrivePage_29 : decode cX9_arrivePage 29 = .ok (.iaload, 1) := by decide +kernel
theorem dX9_arrivePage_30 : decode cX9_arrivePage 30 = .ok (.iload_n 2, 1) := by decide +kernel
theorem dX9_arrivePage_31 : decode cX9_arrivePage 31 = .ok (.invokestatic 62, 3) := by decide +kernel
theorem dX9_arrivePage_34 : decode cX9_arrivePage 34 = .ok (.ifCond .ne 6, 3) := by decide +kernel
theorem dX9_arrivePage_37 : decode cX9_arrivePage 37 = .ok (.bipush (-2), 2) := by decide +kernel
theorem dX9_arrivePage_39 : decode cX9_arrivePage 39 = .ok (.ireturn, 1) := by decide +kernel
theorem dX9_arrivePage_40 : decode cX9_arrivePage 40 = .ok (.aload_n 0, 1) := by decide +kernel
theorem dX9_arrivePage_41 : decode cX9_arrivePage 41 = .ok (.invokevirtual 139, 3) := by decide +kernel
theorem dX9_arrivePage_44 : decode cX9_arrivePage 44 = .ok (.bipush 64, 2) := by decide +kernel
theorem dX9_arrivePage_46 : decode cX9_arrivePage 46 = .ok (.if_icmp .lt 6, 3) := by decide +kernel
theorem dX9_arrivePage_49 : decode cX9_arrivePage 49 = .ok (.bipush (-5), 2) := by decide +kernel
theorem dX9_arrivePage_51 : decode cX9_arrivePage 51 = .ok (.ireturn, 1) := by decide +kernel
theorem dX9_arrivePage_52 : decode cX9_arrivePage 52 = .ok (.aload_n 0, 1) := by decide +kernel
theorem dX9_arrivePage_53 : decode cX9_arrivePage 53 = .ok (.getfield 18, 3) := by decide +kernel
theorem dX9_arrivePage_56 : decode cX9_arrivePage 56 = .ok (.iload_n 1, 1) := by decide +kernel
theorem dX9_arrivePage_57 : decode cX9_arrivePage 57 = .ok (.dup2, 1) := by decide +kernel
theorem dX9_arrivePage_58 : decode cX9_arrivePage 58 = .ok (.iaload, 1) := by decide +kernel
theorem dX9_arrivePage_59 : decode cX9_arrivePage 59 = .ok (.iconst 1, 1) := by decide +kernel
theorem dX9_arrivePage_60 : decode cX9_arrivePage 60 = .ok (.iload_n 2, 1) := by decide +kernel
theorem dX9_arrivePage_61 : decode cX9_arrivePage 61 = .ok (.ishl, 1) := by decide +kernel
theorem dX9_arrivePage_62 : decode cX9_arrivePage 62 = .ok (.iconst (-1), 1) := by decide +kernel
theorem dX9_arrivePage_63 : decode cX9_arrivePage 63 = .ok (.ixor, 1) := by decide +kernel
theorem dX9_arrivePage_64 : decode cX9_arrivePage 64 = .ok (.iand, 1) := by decide +kernel
theorem dX9_arrivePage_65 : decode cX9_arrivePage 65 = .ok (.iastore, 1) := by decide +kernel
theorem dX9_arrivePage_66 : decode cX9_arrivePage 66 = .ok (.aload_n 0, 1) := by decide +kernel
theorem dX9_arrivePage_67 : decode cX9_arrivePage 67 = .ok (.iload_n 1, 1) := by decide +kernel
theorem dX9_arrivePage_68 : decode cX9_arrivePage 68 = .ok (.iload_n 2, 1) := by decide +kernel
theorem dX9_arrivePage_69 : decode cX9_arrivePage 69 = .ok (.iload_n 3, 1) := by decide +kernel
theorem dX9_arrivePage_70 : decode cX9_arrivePage 70 = .ok (.invokevirtual 143, 3) := by decide +kernel
theorem dX9_arrivePage_73 : decode cX9_arrivePage 73 = .ok (.aload_n 0, 1) := by decide +kernel
theorem dX9_arrivePage_74 : decode cX9_arrivePage 74 = .ok (.getfield 18, 3) := by decide +kernel
theorem dX9_arrivePage_77 : decode cX9_arrivePage 77 = .ok (.iload_n 1, 1) := by decide +kernel
theorem dX9_arrivePage_78 : decode cX9_arrivePage 78 = .ok (.iaload, 1) := by decide +kernel
theorem dX9_arrivePage_79 : decode cX9_arrivePage 79 = .ok (.invokestatic 66, 3) := by decide +kernel
theorem dX9_arrivePage_82 : decode cX9_arrivePage 82 = .ok (.ireturn, 1) := by decide +kernel
def fX9_arrivePage (h : AH) (a0 : Nat) (a1 : Int32) (a2 : Int32) (a3 : Int32) : Option (Int32 × AH) :=
  if hasC h 9 a0 = true then (
    (fX9_hasObject h a0 a1).bind fun q1 =>
    if q1 = true then (
      (fX10_isPage h a2).bind fun q2 =>
      if q2 = true then (
        (fX10_isValue h a3).bind fun q3 =>
        if q3 = true then (
          (gR h 9 a0 6).bind fun x4 =>
          (aI h 0 x4 a1).bind fun x5 =>
          (fX10_isIn h x5 a2).bind fun q6 =>
          if q6 = true then (
            (fX9_frameTotal h a0).bind fun q7 =>
            if q7 < 64 then (
              (gR h 9 a0 6).bind fun x8 =>
              (aI h 0 x8 a1).bind fun x9 =>
              (sI h 0 x8 a1 (x9 &&& ((1 <<< (a2 &&& 31)) ^^^ ((-1))))).bind fun h10 =>
              (fX9_hold h10 a0 a1 a2 a3).bind fun q11 =>
              (gR q11 9 a0 6).bind fun x12 =>
              (aI q11 0 x12 a1).bind fun x13 =>
              (fJ6_bitCount_0f7a4 q11 x13).bind fun q14 =>
              some ((q14, q11))
            ) else (
              some (((-5), h))
            )
          ) else (
            some (((-2), h))
          )
        ) else (
          some (((-1), h))
        )
      ) else (
        some (((-1), h))
      )
    ) else (
      some (((-1), h))
    )
  ) else none
set_option maxHeartbeats 4000000 in
theorem mX9_arrivePage {h : AH} {a0 : Nat} {a1 : Int32} {a2 : Int32} {a3 : Int32} {r : Int32 × AH} (hr : fX9_arrivePage h a0 a1 a2 a3 = some r) : hasC h 9 a0 = true ∧ MC yX9_arrivePage cX9_arrivePage 4 (some .int) 3 0 0 [.ref a0, .int a1, .int a2, .int a3] h (some (.int r.1)) r.2 := by
  unfold fX9_arrivePage at hr
  obtain ⟨hc, hr⟩ := if_some hr
  refine ⟨hc, mc_of (l0 := [(0, .ref a0), (1, .int a1), (2, .int a2), (3, .int a3)]) rfl pn_X9 (Nat.le_of_ble_eq_true rfl) (fun Y X C E O hnm => go_run hr ?_)⟩
  have C : CT Y X RX9 cX9_arrivePage 4 := C
  refine go_aload_n (pc := 0) C 0 dX9_arrivePage_0 rfl ?_
  refine go_iload_n (pc := 1) C 1 dX9_arrivePage_1 rfl ?_
  refine go_bind (fun q1 hq1 => ?_)
  refine go_callV (rest := []) (st' := [.int (b2i q1)]) (c' := 0) (s' := 0) (pc := 2) C O miX9_55 mvX9_hasObject [.int a1] rfl (mX9_hasObject hq1).1 (mX9_hasObject hq1).2 dX9_arrivePage_2 ⟨by decide, by decide, by decide, by decide⟩ rfl (Nat.le_of_ble_eq_true rfl) rfl ⟨rfl, rfl⟩ ?_
  refine go_ifZ_eq (pc := 5) C 22 dX9_arrivePage_5 (by decide) (fun _ => ?_) (fun _ => ?_)
  · refine go_iload_n (pc := 8) C 2 dX9_arrivePage_8 rfl ?_
    refine go_bind (fun q2 hq2 => ?_)
    refine go_callSN (rest := []) (st' := [.int (b2i q2)]) (c' := 0) (s' := 0) (pc := 9) C O miX9_59 w_456 [.int a2] rfl (mX10_isPage hq2) dX9_arrivePage_9 ⟨by decide, by decide, by decide, by decide⟩ rfl (Nat.le_of_ble_eq_true rfl) rfl ⟨rfl, rfl⟩ ?_
    refine go_ifZ_eq (pc := 12) C 22 dX9_arrivePage_12 (by decide) (fun _ => ?_) (fun _ => ?_)
    · refine go_iload_n (pc := 15) C 3 dX9_arrivePage_15 rfl ?_
      refine go_bind (fun q3 hq3 => ?_)
      refine go_callSN (rest := []) (st' := [.int (b2i q3)]) (c' := 0) (s' := 0) (pc := 16) C O miX9_146 w_642 [.int a3] rfl (mX10_isValue hq3) dX9_arrivePage_16 ⟨by decide, by decide, by decide, by decide⟩ rfl (Nat.le_of_ble_eq_true rfl) rfl ⟨rfl, rfl⟩ ?_
      refine go_ifZ_ne (pc := 19) C 24 dX9_arrivePage_19 (by decide) (fun _ => ?_) (fun _ => ?_)
      · refine go_aload_n (pc := 24) C 0 dX9_arrivePage_24 rfl ?_
        refine go_gR (pc := 25) C fdX9_18 dX9_arrivePage_25 (fun x4 => ?_)
        refine go_iload_n (pc := 28) C 1 dX9_arrivePage_28 rfl ?_
        refine go_iald (pc := 29) C dX9_arrivePage_29 (fun x5 => ?_)
        refine go_iload_n (pc := 30) C 2 dX9_arrivePage_30 rfl ?_
        refine go_bind (fun q6 hq6 => ?_)
        refine go_callSN (rest := []) (st' := [.int (b2i q6)]) (c' := 0) (s' := 0) (pc := 31) C O miX9_62 w_576 [.int x5, .int a2] rfl (mX10_isIn hq6) dX9_arrivePage_31 ⟨by decide, by decide, by decide, by decide⟩ rfl (Nat.le_of_ble_eq_true rfl) rfl ⟨rfl, rfl⟩ ?_
        refine go_ifZ_ne (pc := 34) C 40 dX9_arrivePage_34 (by decide) (fun _ => ?_) (fun _ => ?_)
        · refine go_aload_n (pc := 40) C 0 dX9_arrivePage_40 rfl ?_
          refine go_bind (fun q7 hq7 => ?_)
          refine go_callV (rest := []) (st' := [.int q7]) (c' := 0) (s' := 0) (pc := 41) C O miX9_139 mvX9_frameTotal [] rfl (mX9_frameTotal hq7).1 (mX9_frameTotal hq7).2 dX9_arrivePage_41 ⟨by decide, by decide, by decide, by decide⟩ rfl (Nat.le_of_ble_eq_true rfl) rfl ⟨rfl, rfl⟩ ?_
          refine go_bipush (pc := 44) C dX9_arrivePage_44 kb_64 ?_
          refine go_icmp_lt (pc := 46) C 52 dX9_arrivePage_46 (by decide) (fun _ => ?_) (fun _ => ?_)
          · refine go_aload_n (pc := 52) C 0 dX9_arrivePage_52 rfl ?_
            refine go_gR (pc := 53) C fdX9_18 dX9_arrivePage_53 (fun x8 => ?_)
            refine go_iload_n (pc := 56) C 1 dX9_arrivePage_56 rfl ?_
            refine go_dup2 (pc := 57) C dX9_arrivePage_57 rfl rfl ?_
            refine go_iald (pc := 58) C dX9_arrivePage_58 (fun x9 => ?_)
            refine go_iconst (pc := 59) C dX9_arrivePage_59 ki_1 ?_
            refine go_iload_n (pc := 60) C 2 dX9_arrivePage_60 rfl ?_
            refine go_ishl (pc := 61) C dX9_arrivePage_61 ?_
            refine go_iconst (pc := 62) C dX9_arrivePage_62 ki_m1 ?_
            refine go_ixor (pc := 63) C dX9_arrivePage_63 ?_
            refine go_iand (pc := 64) C dX9_arrivePage_64 ?_
            refine go_iast (pc := 65) C dX9_arrivePage_65 (fun h10 => ?_)
            refine go_aload_n (pc := 66) C 0 dX9_arrivePage_66 rfl ?_
            refine go_iload_n (pc := 67) C 1 dX9_arrivePage_67 rfl ?_
            refine go_iload_n (pc := 68) C 2 dX9_arrivePage_68 rfl ?_
            refine go_iload_n (pc := 69) C 3 dX9_arrivePage_69 rfl ?_
            refine go_bind (fun q11 hq11 => ?_)
            refine go_callV (rest := []) (st' := []) (c' := 0) (s' := 0) (pc := 70) C O miX9_143 mvX9_hold [.int a1, .int a2, .int a3] rfl (mX9_hold hq11).1 (mX9_hold hq11).2 dX9_arrivePage_70 ⟨by decide, by decide, by decide, by decide⟩ rfl (Nat.le_of_ble_eq_true rfl) rfl ⟨rfl, rfl⟩ ?_
            refine go_aload_n (pc := 73) C 0 dX9_arrivePage_73 rfl ?_
            refine go_gR (pc := 74) C fdX9_18 dX9_arrivePage_74 (fun x12 => ?_)
            refine go_iload_n (pc := 77) C 1 dX9_arrivePage_77 rfl ?_
            refine go_iald (pc := 78) C dX9_arrivePage_78 (fun x13 => ?_)
            refine go_bind (fun q14 hq14 => ?_)
            refine go_callS (rest := []) (st' := [.int q14]) (c' := 0) (s' := 0) (pc := 79) C O miX9_66 w_397 [.int x13] rfl (mJ6_bitCount_0f7a4 hq14) dX9_arrivePage_79 ⟨by decide, by decide, by decide, by decide⟩ rfl (Nat.le_of_ble_eq_true rfl) rfl ⟨rfl, rfl⟩ ?_
            exact go_iret (w := wIh) (pc := 82) C E ((q14, q11)) q14 dX9_arrivePage_82 rfl
          · refine go_bipush (pc := 49) C dX9_arrivePage_49 kb_m5 ?_
            exact go_iret (w := wIh) (pc := 51) C E (((-5), h)) ((-5)) dX9_arrivePage_51 rfl
        · refine go_bipush (pc := 37) C dX9_arrivePage_37 kb_m2 ?_
          exact go_iret (w := wIh) (pc := 39) C E (((-2), h)) ((-2)) dX9_arrivePage_39 rfl
      · refine go_iconst (pc := 22) C dX9_arrivePage_22 ki_m1 ?_
        exact go_iret (w := wIh) (pc := 23) C E (((-1), h)) ((-1)) dX9_arrivePage_23 rfl
    · refine go_iconst (pc := 22) C dX9_arrivePage_22 ki_m1 ?_
      exact go_iret (w := wIh) (pc := 23) C E (((-1), h)) ((-1)) dX9_arrivePage_23 rfl
  · refine go_iconst (pc := 22) C dX9_arrivePage_22 ki_m1 ?_
    exact go_iret (w := wIh) (pc := 23) C E (((-1), h)) ((-1)) dX9_arrivePage_23 rfl
theorem dX9_comeCopy_0 : decode cX9_comeCopy 0 = .ok (.aload_n 0, 1) := by decide +kernel
theorem dX9_comeCopy_1 : decode cX9_comeCopy 1 = .ok (.iconst 0, 1) := by decide +kernel
theorem dX9_comeCopy_2 : decode cX9_comeCopy 2 = .ok (.iconst 0, 1) := by decide +kernel
theorem dX9_comeCopy_3 : decode cX9_comeCopy 3 = .ok (.invokevirtual 181, 3) := by decide +kernel
theorem dX9_comeCopy_6 : decode cX9_comeCopy 6 = .ok (.istore_n 2, 1) := by decide +kernel
theorem dX9_comeCopy_7 : decode cX9_comeCopy 7 = .ok (.aload_n 0, 1) := by decide +kernel
theorem dX9_comeCopy_8 : decode cX9_comeCopy 8 = .ok (.iload_n 2, 1) := by decide +kernel
theorem dX9_comeCopy_9 : decode cX9_comeCopy 9 = .ok (.invokevirtual 55, 3) := by decide +kernel
theorem dX9_comeCopy_12 : decode cX9_comeCopy 12 = .ok (.ifCond .eq 47, 3) := by decide +kernel
theorem dX9_comeCopy_15 : decode cX9_comeCopy 15 = .ok (.aload_n 0, 1) := by decide +kernel
theorem dX9_comeCopy_16 : decode cX9_comeCopy 16 = .ok (.iload_n 1, 1) := by decide +kernel
theorem dX9_comeCopy_17 : decode cX9_comeCopy 17 = .ok (.invokevirtual 55, 3) := by decide +kernel
theorem dX9_comeCopy_20 : decode cX9_comeCopy 20 = .ok (.ifCond .eq 39, 3) := by decide +kernel
theorem dX9_comeCopy_23 : decode cX9_comeCopy 23 = .ok (.aload_n 0, 1) := by decide +kernel
theorem dX9_comeCopy_24 : decode cX9_comeCopy 24 = .ok (.getfield 21, 3) := by decide +kernel
theorem dX9_comeCopy_27 : decode cX9_comeCopy 27 = .ok (.iload_n 2, 1) := by decide +kernel
theorem dX9_comeCopy_28 : decode cX9_comeCopy 28 = .ok (.iload_n 1, 1) := by decide +kernel
theorem dX9_comeCopy_29 : decode cX9_comeCopy 29 = .ok (.iastore, 1) := by decide +kernel
theorem dX9_comeCopy_30 : decode cX9_comeCopy 30 = .ok (.aload_n 0, 1) := by decide +kernel
theorem dX9_comeCopy_31 : decode cX9_comeCopy 31 = .ok (.getfield 24, 3) := by decide +kernel
theorem dX9_comeCopy_34 : decode cX9_comeCopy 34 = .ok (.iload_n 1, 1) := by decide +kernel
theorem dX9_comeCopy_35 : decode cX9_comeCopy 35 = .ok (.iaload, 1) := by decide +kernel
theorem dX9_comeCopy_36 : decode cX9_comeCopy 36 = .ok (.istore_n 3, 1) := by decide +kernel
theorem dX9_comeCopy_37 : decode cX9_comeCopy 37 = .ok (.aload_n 0, 1) := by decide +kernel
theorem dX9_comeCopy_38 : decode cX9_comeCopy 38 = .ok (.iload_n 3, 1) := by decide +kernel
theorem dX9_comeCopy_39 : decode cX9_comeCopy 39 = .ok (.invokevirtual 55, 3) := by decide +kernel
theorem dX9_comeCopy_42 : decode cX9_comeCopy 42 = .ok (.ifCond .eq 10, 3) := by decide +kernel
theorem dX9_comeCopy_45 : decode cX9_comeCopy 45 = .ok (.aload_n 0, 1) := by decide +kernel
theorem dX9_comeCopy_46 : decode cX9_comeCopy 46 = .ok (.getfield 21, 3) := by decide +kernel
theorem dX9_comeCopy_49 : decode cX9_comeCopy 49 = .ok (.iload_n 3, 1) := by decide +kernel
theorem dX9_comeCopy_50 : decode cX9_comeCopy 50 = .ok (.iload_n 2, 1) := by decide +kernel
theorem dX9_comeCopy_51 : decode cX9_comeCopy 51 = .ok (.iastore, 1) := by decide +kernel
theorem dX9_comeCopy_52 : decode cX9_comeCopy 52 = .ok (.aload_n 0, 1) := by decide +kernel
theorem dX9_comeCopy_53 : decode cX9_comeCopy 53 = .ok (.getfield 24, 3) := by decide +kernel
theorem dX9_comeCopy_56 : decode cX9_comeCopy 56 = .ok (.iload_n 1, 1) := by decide +kernel
theorem dX9_comeCopy_57 : decode cX9_comeCopy 57 = .ok (.iload_n 2, 1) := by decide +kernel
theorem dX9_comeCopy_58 : decode cX9_comeCopy 58 = .ok (.iastore, 1) := by decide +kernel
theorem dX9_comeCopy_59 : decode cX9_comeCopy 59 = .ok (.iload_n 2, 1) := by decide +kernel
theorem dX9_comeCopy_60 : decode cX9_comeCopy 60 = .ok (.ireturn, 1) := by decide +kernel
def fX9_comeCopy_J52 (h : AH) (v0 : Nat) (v1 : Int32) (v2 : Int32) : Option (Int32 × AH) :=
    (gR h 9 v0 8).bind fun x1 =>
    (sI h 0 x1 v1 v2).bind fun h2 =>
    some ((v2, h2))
def fX9_comeCopy (h : AH) (a0 : Nat) (a1 : Int32) : Option (Int32 × AH) :=
  if hasC h 9 a0 = true then (
    (fX9_comeObject h a0 0 0).bind fun q3 =>
    (fX9_hasObject q3.2 a0 q3.1).bind fun q4 =>
    if q4 = true then (
      (fX9_hasObject q3.2 a0 a1).bind fun q5 =>
      if q5 = true then (
        (gR q3.2 9 a0 7).bind fun x6 =>
        (sI q3.2 0 x6 q3.1 a1).bind fun h7 =>
        (gR h7 9 a0 8).bind fun x8 =>
        (aI h7 0 x8 a1).bind fun x9 =>
        (fX9_hasObject h7 a0 x9).bind fun q10 =>
        if q10 = true then (
          (gR h7 9 a0 7).bind fun x11 =>
          (sI h7 0 x11 x9 q3.1).bind fun h12 =>
          fX9_comeCopy_J52 h12 a0 a1 q3.1
        ) else (
          fX9_comeCopy_J52 h7 a0 a1 q3.1
        )
      ) else (
        some ((q3.1, q3.2))
      )
    ) else (
      some ((q3.1, q3.2))
    )
  ) else none
set_option maxHeartbeats 4000000 in
theorem gX9_comeCopy_J52 {Y : YT} {X : XT} (C : CT Y X RX9 cX9_comeCopy 4) (O : RO X 4 0 0) {r : Int32 × AH} (E : RX Y X (some .int) (some (.int r.1)) r.2 0 0) : ∀ (h : AH) (v0 : Nat) (v1 : Int32) (v2 : Int32), GO Y X 4 r h 0 0 52 [(0, .ref v0), (1, .int v1), (2, .int v2)] [] (fX9_comeCopy_J52 h v0 v1 v2) := by
  intro h v0 v1 v2
  unfold fX9_comeCopy_J52
  refine go_aload_n (pc := 52) C 0 dX9_comeCopy_52 rfl ?_
  refine go_gR (pc := 53) C fdX9_24 dX9_comeCopy_53 (fun x1 => ?_)
  refine go_iload_n (pc := 56) C 1 dX9_comeCopy_56 rfl ?_
  refine go_iload_n (pc := 57) C 2 dX9_comeCopy_57 rfl ?_
  refine go_iast (pc := 58) C dX9_comeCopy_58 (fun h2 => ?_)
  refine go_iload_n (pc := 59) C 2 dX9_comeCopy_59 rfl ?_
  exact go_iret (w := wIh) (pc := 60) C E ((v2, h2)) v2 dX9_comeCopy_60 rfl
set_option maxHeartbeats 4000000 in
theorem mX9_comeCopy {h : AH} {a0 : Nat} {a1 : Int32} {r : Int32 × AH} (hr : fX9_comeCopy h a0 a1 = some r) : hasC h 9 a0 = true ∧ MC yX9_comeCopy cX9_comeCopy 4 (some .int) 4 0 0 [.ref a0, .int a1] h (some (.int r.1)) r.2 := by
  unfold fX9_comeCopy at hr
  obtain ⟨hc, hr⟩ := if_some hr
  refine ⟨hc, mc_of (l0 := [(0, .ref a0), (1, .int a1)]) rfl pn_X9 (Nat.le_of_ble_eq_true rfl) (fun Y X C E O hnm => go_run hr ?_)⟩
  have C : CT Y X RX9 cX9_comeCopy 4 := C
  refine go_aload_n (pc := 0) C 0 dX9_comeCopy_0 rfl ?_
  refine go_iconst (pc := 1) C dX9_comeCopy_1 ki_0 ?_
  refine go_iconst (pc := 2) C dX9_comeCopy_2 ki_0 ?_
  refine go_bind (fun q3 hq3 => ?_)
  refine go_callV (rest := []) (st' := [.int q3.1]) (c' := 0) (s' := 0) (pc := 3) C O miX9_181 mvX9_comeObject [.int 0, .int 0] rfl (mX9_comeObject hq3).1 (mX9_comeObject hq3).2 dX9_comeCopy_3 ⟨by decide, by decide, by decide, by decide⟩ rfl (Nat.le_of_ble_eq_true rfl) rfl ⟨rfl, rfl⟩ ?_
  refine go_istore_n (ls' := [(2, .int q3.1), (0, .ref a0), (1, .int a1)]) (pc := 6) C dX9_comeCopy_6 (by decide) rfl ?_
  refine go_aload_n (pc := 7) C 1 dX9_comeCopy_7 rfl ?_
  refine go_iload_n (pc := 8) C 0 dX9_comeCopy_8 rfl ?_
  refine go_bind (fun q4 hq4 => ?_)
  refine go_callV (rest := []) (st' := [.int (b2i q4)]) (c' := 0) (s' := 0) (pc := 9) C O miX9_55 mvX9_hasObject [.int q3.1] rfl (mX9_hasObject hq4).1 (mX9_hasObject hq4).2 dX9_comeCopy_9 ⟨by decide, by decide, by decide, by decide⟩ rfl (Nat.le_of_ble_eq_true rfl) rfl ⟨rfl, rfl⟩ ?_
  refine go_ifZ_eq (pc := 12) C 59 dX9_comeCopy_12 (by decide) (fun _ => ?_) (fun _ => ?_)
  · refine go_aload_n (pc := 15) C 1 dX9_comeCopy_15 rfl ?_
    refine go_iload_n (pc := 16) C 2 dX9_comeCopy_16 rfl ?_
    refine go_bind (fun q5 hq5 => ?_)
    refine go_callV (rest := []) (st' := [.int (b2i q5)]) (c' := 0) (s' := 0) (pc := 17) C O miX9_55 mvX9_hasObject [.int a1] rfl (mX9_hasObject hq5).1 (mX9_hasObject hq5).2 dX9_comeCopy_17 ⟨by decide, by decide, by decide, by decide⟩ rfl (Nat.le_of_ble_eq_true rfl) rfl ⟨rfl, rfl⟩ ?_
    refine go_ifZ_eq (pc := 20) C 59 dX9_comeCopy_20 (by decide) (fun _ => ?_) (fun _ => ?_)
    · refine go_aload_n (pc := 23) C 1 dX9_comeCopy_23 rfl ?_
      refine go_gR (pc := 24) C fdX9_21 dX9_comeCopy_24 (fun x6 => ?_)
      refine go_iload_n (pc := 27) C 0 dX9_comeCopy_27 rfl ?_
      refine go_iload_n (pc := 28) C 2 dX9_comeCopy_28 rfl ?_
      refine go_iast (pc := 29) C dX9_comeCopy_29 (fun h7 => ?_)
      refine go_aload_n (pc := 30) C 1 dX9_comeCopy_30 rfl ?_
      refine go_gR (pc := 31) C fdX9_24 dX9_comeCopy_31 (fun x8 => ?_)
      refine go_iload_n (pc := 34) C 2 dX9_comeCopy_34 rfl ?_
      refine go_iald (pc := 35) C dX9_comeCopy_35 (fun x9 => ?_)
      refine go_istore_n (ls' := [(3, .int x9), (2, .int q3.1), (0, .ref a0), (1, .int a1)]) (pc := 36) C dX9_comeCopy_36 (by decide) rfl ?_
      refine go_aload_n (pc := 37) C 2 dX9_comeCopy_37 rfl ?_
      refine go_iload_n (pc := 38) C 0 dX9_comeCopy_38 rfl ?_
      refine go_bind (fun q10 hq10 => ?_)
      refine go_callV (rest := []) (st' := [.int (b2i q10)]) (c' := 0) (s' := 0) (pc := 39) C O miX9_55 mvX9_hasObject [.int x9] rfl (mX9_hasObject hq10).1 (mX9_hasObject hq10).2 dX9_comeCopy_39 ⟨by decide, by decide, by decide, by decide⟩ rfl (Nat.le_of_ble_eq_true rfl) rfl ⟨rfl, rfl⟩ ?_
      refine go_ifZ_eq (pc := 42) C 52 dX9_comeCopy_42 (by decide) (fun _ => ?_) (fun _ => ?_)
      · refine go_aload_n (pc := 45) C 2 dX9_comeCopy_45 rfl ?_
        refine go_gR (pc := 46) C fdX9_21 dX9_comeCopy_46 (fun x11 => ?_)
        refine go_iload_n (pc := 49) C 0 dX9_comeCopy_49 rfl ?_
        refine go_iload_n (pc := 50) C 1 dX9_comeCopy_50 rfl ?_
        refine go_iast (pc := 51) C dX9_comeCopy_51 (fun h12 => ?_)
        refine go_sub (ls' := [(0, .ref a0), (1, .int a1), (2, .int q3.1)]) [2, 3, 1] rfl ?_
        refine gX9_comeCopy_J52 C O E h12 a0 a1 q3.1
      · refine go_sub (ls' := [(0, .ref a0), (1, .int a1), (2, .int q3.1)]) [2, 3, 1] rfl ?_
        refine gX9_comeCopy_J52 C O E h7 a0 a1 q3.1
    · refine go_iload_n (pc := 59) C 0 dX9_comeCopy_59 rfl ?_
      exact go_iret (w := wIh) (pc := 60) C E ((q3.1, q3.2)) q3.1 dX9_comeCopy_60 rfl
  · refine go_iload_n (pc := 59) C 0 dX9_comeCopy_59 rfl ?_
    exact go_iret (w := wIh) (pc := 60) C E ((q3.1, q3.2)) q3.1 dX9_comeCopy_60 rfl
theorem dX9_forkSpace_0 : decode cX9_forkSpace 0 = .ok (.aload_n 0, 1) := by decide +kernel
theorem dX9_forkSpace_1 : decode cX9_forkSpace 1 = .ok (.iload_n 1, 1) := by decide +kernel
theorem dX9_forkSpace_2 : decode cX9_forkSpace 2 = .ok (.invokevirtual 78, 3) := by decide +kernel
theorem dX9_forkSpace_5 : decode cX9_forkSpace 5 = .ok (.ifCond .ne 5, 3) := by decide +kernel
theorem dX9_forkSpace_8 : decode cX9_forkSpace 8 = .ok (.iconst (-1), 1) := by decide +kernel
theorem dX9_forkSpace_9 : decode cX9_forkSpace 9 = .ok (.ireturn, 1) := by decide +kernel
theorem dX9_forkSpace_10 : decode cX9_forkSpace 10 = .ok (.aload_n 0, 1) := by decide +kernel
theorem dX9_forkSpace_11 : decode cX9_forkSpace 11 = .ok (.invokevirtual 184, 3) := by decide +kernel
theorem dX9_forkSpace_14 : decode cX9_forkSpace 14 = .ok (.bipush 6, 2) := by decide +kernel
theorem dX9_forkSpace_16 : decode cX9_forkSpace 16 = .ok (.if_icmp .lt 6, 3) := by decide +kernel
theorem dX9_forkSpace_19 : decode cX9_forkSpace 19 = .ok (.bipush (-2), 2) := by decide +kernel
theorem dX9_forkSpace_21 : decode cX9_forkSpace 21 = .ok (.ireturn, 1) := by decide +kernel
theorem dX9_forkSpace_22 : decode cX9_forkSpace 22 = .ok (.aload_n 0, 1) := by decide +kernel
theorem dX9_forkSpace_23 : decode cX9_forkSpace 23 = .ok (.getfield 9, 3) := by decide +kernel
theorem dX9_forkSpace_26 : decode cX9_forkSpace 26 = .ok (.iload_n 1, 1) := by decide +kernel
theorem dX9_forkSpace_27 : decode cX9_forkSpace 27 = .ok (.iaload, 1) := by decide +kernel
theorem dX9_forkSpace_28 : decode cX9_forkSpace 28 = .ok (.istore_n 2, 1) := by decide +kernel
theorem dX9_forkSpace_29 : decode cX9_forkSpace 29 = .ok (.aload_n 0, 1) := by decide +kernel
theorem dX9_forkSpace_30 : decode cX9_forkSpace 30 = .ok (.iload_n 2, 1) := by decide +kernel
theorem dX9_forkSpace_31 : decode cX9_forkSpace 31 = .ok (.invokevirtual 123, 3) := by decide +kernel
theorem dX9_forkSpace_34 : decode cX9_forkSpace 34 = .ok (.ifCond .eq 7, 3) := by decide +kernel
theorem dX9_forkSpace_37 : decode cX9_forkSpace 37 = .ok (.iconst 1, 1) := by decide +kernel
theorem dX9_forkSpace_38 : decode cX9_forkSpace 38 = .ok (.goto 4, 3) := by decide +kernel
theorem dX9_forkSpace_41 : decode cX9_forkSpace 41 = .ok (.iconst 0, 1) := by decide +kernel
theorem dX9_forkSpace_42 : decode cX9_forkSpace 42 = .ok (.istore_n 3, 1) := by decide +kernel
theorem dX9_forkSpace_43 : decode cX9_forkSpace 43 = .ok (.iload_n 3, 1) := by decide +kernel
theorem dX9_forkSpace_44 : decode cX9_forkSpace 44 = .ok (.ifCond .eq 15, 3) := by decide +kernel
theorem dX9_forkSpace_47 : decode cX9_forkSpace 47 = .ok (.aload_n 0, 1) := by decide +kernel
theorem dX9_forkSpace_48 : decode cX9_forkSpace 48 = .ok (.invokevirtual 149, 3) := by decide +kernel
theorem dX9_forkSpace_51 : decode cX9_forkSpace 51 = .ok (.bipush 24, 2) := by decide +kernel
theorem dX9_forkSpace_53 : decode cX9_forkSpace 53 = .ok (.if_icmp .lt 6, 3) := by decide +kernel
theorem dX9_forkSpace_56 : decode cX9_forkSpace 56 = .ok (.bipush (-6), 2) := by decide +kernel
theorem dX9_forkSpace_58 : decode cX9_forkSpace 58 = .ok (.ireturn, 1) := by decide +kernel
theorem dX9_forkSpace_59 : decode cX9_forkSpace 59 = .ok (.iload_n 3, 1) := by decide +kernel
theorem dX9_forkSpace_60 : decode cX9_forkSpace 60 = .ok (.ifCond .ne 15, 3) := by decide +kernel
theorem dX9_forkSpace_63 : decode cX9_forkSpace 63 = .ok (.aload_n 0, 1) := by decide +kernel
theorem dX9_forkSpace_64 : decode cX9_forkSpace 64 = .ok (.dup, 1) := by decide +kernel
theorem dX9_forkSpace_65 : decode cX9_forkSpace 65 = .ok (.getfield 40, 3) := by decide +kernel
theorem dX9_forkSpace_68 : decode cX9_forkSpace 68 = .ok (.iconst 1, 1) := by decide +kernel
theorem dX9_forkSpace_69 : decode cX9_forkSpace 69 = .ok (.iload_n 1, 1) := by decide +kernel
theorem dX9_forkSpace_70 : decode cX9_forkSpace 70 = .ok (.ishl, 1) := by decide +kernel
theorem dX9_forkSpace_71 : decode cX9_forkSpace 71 = .ok (.ior, 1) := by decide +kernel
theorem dX9_forkSpace_72 : decode cX9_forkSpace 72 = .ok (.putfield 40, 3) := by decide +kernel
theorem dX9_forkSpace_75 : decode cX9_forkSpace 75 = .ok (.aload_n 0, 1) := by decide +kernel
theorem dX9_forkSpace_76 : decode cX9_forkSpace 76 = .ok (.iload_n 3, 1) := by decide +kernel
theorem dX9_forkSpace_77 : decode cX9_forkSpace 77 = .ok (.ifCond .eq 11, 3) := by decide +kernel
theorem dX9_forkSpace_80 : decode cX9_forkSpace 80 = .ok (.aload_n 0, 1) := by decide +kernel
theorem dX9_forkSpace_81 : decode cX9_forkSpace 81 = .ok (.iload_n 2, 1) := by decide +kernel
theorem dX9_forkSpace_82 : decode cX9_forkSpace 82 = .ok (.invokevirtual 187, 3) := by decide +kernel
theorem dX9_forkSpace_85 : decode cX9_forkSpace 85 = .ok (.goto 4, 3) := by decide +kernel
theorem dX9_forkSpace_88 : decode cX9_forkSpace 88 = .ok (.iload_n 2, 1) := by decide +kernel
theorem dX9_forkSpace_89 : decode cX9_forkSpace 89 = .ok (.invokevirtual 190, 3) := by decide +kernel
theorem dX9_forkSpace_92 : decode cX9_forkSpace 92 = .ok (.istore 4, 2) := by decide +kernel
theorem dX9_forkSpace_94 : decode cX9_forkSpace 94 = .ok (.iload 4, 2) := by decide +kernel
theorem dX9_forkSpace_96 : decode cX9_forkSpace 96 = .ok (.ifCond .lt 16, 3) := by decide +kernel
theorem dX9_forkSpace_99 : decode cX9_forkSpace 99 = .ok (.aload_n 0, 1) := by decide +kernel
theorem dX9_forkSpace_100 : decode cX9_forkSpace 100 = .ok (.dup, 1) := by decide +kernel
theorem dX9_forkSpace_101 : decode cX9_forkSpace 101 = .ok (.getfield 40, 3) := by decide +kernel
theorem dX9_forkSpace_104 : decode cX9_forkSpace 104 = .ok (.iconst 1, 1) := by decide +kernel
theorem dX9_forkSpace_105 : decode cX9_forkSpace 105 = .ok (.iload 4, 2) := by decide +kernel
theorem dX9_forkSpace_107 : decode cX9_forkSpace 107 = .ok (.ishl, 1) := by decide +kernel
theorem dX9_forkSpace_108 : decode cX9_forkSpace 108 = .ok (.ior, 1) := by decide +kernel
theorem dX9_forkSpace_109 : decode cX9_forkSpace 109 = .ok (.putfield 40, 3) := by decide +kernel
theorem dX9_forkSpace_112 : decode cX9_forkSpace 112 = .ok (.iload 4, 2) := by decide +kernel
theorem dX9_forkSpace_114 : decode cX9_forkSpace 114 = .ok (.ireturn, 1) := by decide +kernel
def fX9_forkSpace_J89 (h : AH) (v0 : Nat) (s0 : Int32) (s1 : Nat) : Option (Int32 × AH) :=
    (fX9_comeSpace h s1 s0).bind fun q1 =>
    if q1.1 < 0 then (
      some ((q1.1, q1.2))
    ) else (
      (gI q1.2 9 v0 1).bind fun x2 =>
      (pF q1.2 9 v0 1 (.int (x2 ||| (1 <<< (q1.1 &&& 31))))).bind fun h3 =>
      some ((q1.1, h3))
    )
def fX9_forkSpace_J75 (h : AH) (v0 : Nat) (v2 : Int32) (v3 : Int32) : Option (Int32 × AH) :=
    if v3 = 0 then (
      fX9_forkSpace_J89 h v0 v2 v0
    ) else (
      (fX9_comeCopy h v0 v2).bind fun q4 =>
      fX9_forkSpace_J89 q4.2 v0 q4.1 v0
    )
def fX9_forkSpace_J59 (h : AH) (v0 : Nat) (v1 : Int32) (v2 : Int32) (v3 : Int32) : Option (Int32 × AH) :=
    if v3 = 0 then (
      (gI h 9 v0 1).bind fun x5 =>
      (pF h 9 v0 1 (.int (x5 ||| (1 <<< (v1 &&& 31))))).bind fun h6 =>
      fX9_forkSpace_J75 h6 v0 v2 v3
    ) else (
      fX9_forkSpace_J75 h v0 v2 v3
    )
def fX9_forkSpace_J42 (h : AH) (v0 : Nat) (v1 : Int32) (v2 : Int32) (s0 : Int32) : Option (Int32 × AH) :=
    if s0 = 0 then (
      fX9_forkSpace_J59 h v0 v1 v2 s0
    ) else (
      (fX9_objectTotal h v0).bind fun q7 =>
      if q7 < 24 then (
        fX9_forkSpace_J59 h v0 v1 v2 s0
      ) else (
        some (((-6), h))
      )
    )
def fX9_forkSpace (h : AH) (a0 : Nat) (a1 : Int32) : Option (Int32 × AH) :=
  if hasC h 9 a0 = true then (
    (fX9_hasSpace h a0 a1).bind fun q8 =>
    if q8 = true then (
      (fX9_spaceTotal h a0).bind fun q9 =>
      if q9 < 6 then (
        (gR h 9 a0 4).bind fun x10 =>
        (aI h 0 x10 a1).bind fun x11 =>
        (fX9_pagerOf h a0 x11).bind fun q12 =>
        if q12 = 0 then (
          fX9_forkSpace_J42 h a0 a1 x11 0
        ) else (
          fX9_forkSpace_J42 h a0 a1 x11 1
        )
      ) else (
        some (((-2), h))
      )
    ) else (
      some (((-1), h))
    )
  ) else none
set_option maxHeartbeats 4000000 in
theorem gX9_forkSpace_J89 {Y : YT} {X : XT} (C : CT Y X RX9 cX9_forkSpace 5) (O : RO X 5 0 0) {r : Int32 × AH} (E : RX Y X (some .int) (some (.int r.1)) r.2 0 0) : ∀ (h : AH) (v0 : Nat) (s0 : Int32) (s1 : Nat), GO Y X 5 r h 0 0 89 [(0, .ref v0)] [.int s0, .ref s1] (fX9_forkSpace_J89 h v0 s0 s1) := by
  intro h v0 s0 s1
  unfold fX9_forkSpace_J89
  refine go_bind (fun q1 hq1 => ?_)
  refine go_callV (rest := []) (st' := [.int q1.1]) (c' := 0) (s' := 0) (pc := 89) C O miX9_190 mvX9_comeSpace [.int s0] rfl (mX9_comeSpace hq1).1 (mX9_comeSpace hq1).2 dX9_forkSpace_89 ⟨by decide, by decide, by decide, by decide⟩ rfl (Nat.le_of_ble_eq_true rfl) rfl ⟨rfl, rfl⟩ ?_
  refine go_istore (ls' := [(4, .int q1.1), (0, .ref v0)]) (pc := 92) C dX9_forkSpace_92 (by decide) rfl ?_
  refine go_iload (pc := 94) C 0 dX9_forkSpace_94 rfl ?_
  refine go_if_lt (pc := 96) C 112 dX9_forkSpace_96 (by decide) (fun _ => ?_) (fun _ => ?_)
  · refine go_iload (pc := 112) C 0 dX9_forkSpace_112 rfl ?_
    exact go_iret (w := wIh) (pc := 114) C E ((q1.1, q1.2)) q1.1 dX9_forkSpace_114 rfl
  · refine go_aload_n (pc := 99) C 1 dX9_forkSpace_99 rfl ?_
    refine go_dup (pc := 100) C dX9_forkSpace_100 rfl ?_
    refine go_gI (pc := 101) C fdX9_40 dX9_forkSpace_101 (fun x2 => ?_)
    refine go_iconst (pc := 104) C dX9_forkSpace_104 ki_1 ?_
    refine go_iload (pc := 105) C 0 dX9_forkSpace_105 rfl ?_
    refine go_ishl (pc := 107) C dX9_forkSpace_107 ?_
    refine go_ior (pc := 108) C dX9_forkSpace_108 ?_
    refine go_pI (pc := 109) C fpX9_40 dX9_forkSpace_109 (fun h3 => ?_)
    refine go_iload (pc := 112) C 0 dX9_forkSpace_112 rfl ?_
    exact go_iret (w := wIh) (pc := 114) C E ((q1.1, h3)) q1.1 dX9_forkSpace_114 rfl
set_option maxHeartbeats 4000000 in
theorem gX9_forkSpace_J75 {Y : YT} {X : XT} (C : CT Y X RX9 cX9_forkSpace 5) (O : RO X 5 0 0) {r : Int32 × AH} (E : RX Y X (some .int) (some (.int r.1)) r.2 0 0) : ∀ (h : AH) (v0 : Nat) (v2 : Int32) (v3 : Int32), GO Y X 5 r h 0 0 75 [(0, .ref v0), (2, .int v2), (3, .int v3)] [] (fX9_forkSpace_J75 h v0 v2 v3) := by
  intro h v0 v2 v3
  unfold fX9_forkSpace_J75
  refine go_aload_n (pc := 75) C 0 dX9_forkSpace_75 rfl ?_
  refine go_iload_n (pc := 76) C 2 dX9_forkSpace_76 rfl ?_
  refine go_if_eq (pc := 77) C 88 dX9_forkSpace_77 (by decide) (fun _ => ?_) (fun _ => ?_)
  · refine go_iload_n (pc := 88) C 1 dX9_forkSpace_88 rfl ?_
    refine go_sub (ls' := [(0, .ref v0)]) [0] rfl ?_
    refine gX9_forkSpace_J89 C O E h v0 v2 v0
  · refine go_aload_n (pc := 80) C 0 dX9_forkSpace_80 rfl ?_
    refine go_iload_n (pc := 81) C 1 dX9_forkSpace_81 rfl ?_
    refine go_bind (fun q4 hq4 => ?_)
    refine go_callV (rest := [.ref v0]) (st' := [.int q4.1, .ref v0]) (c' := 0) (s' := 0) (pc := 82) C O miX9_187 mvX9_comeCopy [.int v2] rfl (mX9_comeCopy hq4).1 (mX9_comeCopy hq4).2 dX9_forkSpace_82 ⟨by decide, by decide, by decide, by decide⟩ rfl (Nat.le_of_ble_eq_true rfl) rfl ⟨rfl, rfl⟩ ?_
    refine go_goto (pc := 85) C 89 dX9_forkSpace_85 (by decide) ?_
    refine go_sub (ls' := [(0, .ref v0)]) [0] rfl ?_
    refine gX9_forkSpace_J89 C O E q4.2 v0 q4.1 v0
set_option maxHeartbeats 4000000 in
theorem gX9_forkSpace_J59 {Y : YT} {X : XT} (C : CT Y X RX9 cX9_forkSpace 5) (O : RO X 5 0 0) {r : Int32 × AH} (E : RX Y X (some .int) (some (.int r.1)) r.2 0 0) : ∀ (h : AH) (v0 : Nat) (v1 : Int32) (v2 : Int32) (v3 : Int32), GO Y X 5 r h 0 0 59 [(0, .ref v0), (1, .int v1), (2, .int v2), (3, .int v3)] [] (fX9_forkSpace_J59 h v0 v1 v2 v3) := by
  intro h v0 v1 v2 v3
  unfold fX9_forkSpace_J59
  refine go_iload_n (pc := 59) C 3 dX9_forkSpace_59 rfl ?_
  refine go_if_ne (pc := 60) C 75 dX9_forkSpace_60 (by decide) (fun _ => ?_) (fun _ => ?_)
  · refine go_aload_n (pc := 63) C 0 dX9_forkSpace_63 rfl ?_
    refine go_dup (pc := 64) C dX9_forkSpace_64 rfl ?_
    refine go_gI (pc := 65) C fdX9_40 dX9_forkSpace_65 (fun x5 => ?_)
    refine go_iconst (pc := 68) C dX9_forkSpace_68 ki_1 ?_
    refine go_iload_n (pc := 69) C 1 dX9_forkSpace_69 rfl ?_
    refine go_ishl (pc := 70) C dX9_forkSpace_70 ?_
    refine go_ior (pc := 71) C dX9_forkSpace_71 ?_
    refine go_pI (pc := 72) C fpX9_40 dX9_forkSpace_72 (fun h6 => ?_)
    refine go_sub (ls' := [(0, .ref v0), (2, .int v2), (3, .int v3)]) [0, 2, 3] rfl ?_
    refine gX9_forkSpace_J75 C O E h6 v0 v2 v3
  · refine go_sub (ls' := [(0, .ref v0), (2, .int v2), (3, .int v3)]) [0, 2, 3] rfl ?_
    refine gX9_forkSpace_J75 C O E h v0 v2 v3
set_option maxHeartbeats 4000000 in
theorem gX9_forkSpace_J42 {Y : YT} {X : XT} (C : CT Y X RX9 cX9_forkSpace 5) (O : RO X 5 0 0) {r : Int32 × AH} (E : RX Y X (some .int) (some (.int r.1)) r.2 0 0) : ∀ (h : AH) (v0 : Nat) (v1 : Int32) (v2 : Int32) (s0 : Int32), GO Y X 5 r h 0 0 42 [(0, .ref v0), (1, .int v1), (2, .int v2)] [.int s0] (fX9_forkSpace_J42 h v0 v1 v2 s0) := by
  intro h v0 v1 v2 s0
  unfold fX9_forkSpace_J42
  refine go_istore_n (ls' := [(3, .int s0), (0, .ref v0), (1, .int v1), (2, .int v2)]) (pc := 42) C dX9_forkSpace_42 (by decide) rfl ?_
  refine go_iload_n (pc := 43) C 0 dX9_forkSpace_43 rfl ?_
  refine go_if_eq (pc := 44) C 59 dX9_forkSpace_44 (by decide) (fun _ => ?_) (fun _ => ?_)
  · refine go_sub (ls' := [(0, .ref v0), (1, .int v1), (2, .int v2), (3, .int s0)]) [1, 2, 3, 0] rfl ?_
    refine gX9_forkSpace_J59 C O E h v0 v1 v2 s0
  · refine go_aload_n (pc := 47) C 1 dX9_forkSpace_47 rfl ?_
    refine go_bind (fun q7 hq7 => ?_)
    refine go_callV (rest := []) (st' := [.int q7]) (c' := 0) (s' := 0) (pc := 48) C O miX9_149 mvX9_objectTotal [] rfl (mX9_objectTotal hq7).1 (mX9_objectTotal hq7).2 dX9_forkSpace_48 ⟨by decide, by decide, by decide, by decide⟩ rfl (Nat.le_of_ble_eq_true rfl) rfl ⟨rfl, rfl⟩ ?_
    refine go_bipush (pc := 51) C dX9_forkSpace_51 kb_24 ?_
    refine go_icmp_lt (pc := 53) C 59 dX9_forkSpace_53 (by decide) (fun _ => ?_) (fun _ => ?_)
    · refine go_sub (ls' := [(0, .ref v0), (1, .int v1), (2, .int v2), (3, .int s0)]) [1, 2, 3, 0] rfl ?_
      refine gX9_forkSpace_J59 C O E h v0 v1 v2 s0
    · refine go_bipush (pc := 56) C dX9_forkSpace_56 kb_m6 ?_
      exact go_iret (w := wIh) (pc := 58) C E (((-6), h)) ((-6)) dX9_forkSpace_58 rfl
set_option maxHeartbeats 4000000 in
theorem mX9_forkSpace {h : AH} {a0 : Nat} {a1 : Int32} {r : Int32 × AH} (hr : fX9_forkSpace h a0 a1 = some r) : hasC h 9 a0 = true ∧ MC yX9_forkSpace cX9_forkSpace 5 (some .int) 5 0 0 [.ref a0, .int a1] h (some (.int r.1)) r.2 := by
  unfold fX9_forkSpace at hr
  obtain ⟨hc, hr⟩ := if_some hr
  refine ⟨hc, mc_of (l0 := [(0, .ref a0), (1, .int a1)]) rfl pn_X9 (Nat.le_of_ble_eq_true rfl) (fun Y X C E O hnm => go_run hr ?_)⟩
  have C : CT Y X RX9 cX9_forkSpace 5 := C
  refine go_aload_n (pc := 0) C 0 dX9_forkSpace_0 rfl ?_
  refine go_iload_n (pc := 1) C 1 dX9_forkSpace_1 rfl ?_
  refine go_bind (fun q8 hq8 => ?_)
  refine go_callV (rest := []) (st' := [.int (b2i q8)]) (c' := 0) (s' := 0) (pc := 2) C O miX9_78 mvX9_hasSpace [.int a1] rfl (mX9_hasSpace hq8).1 (mX9_hasSpace hq8).2 dX9_forkSpace_2 ⟨by decide, by decide, by decide, by decide⟩ rfl (Nat.le_of_ble_eq_true rfl) rfl ⟨rfl, rfl⟩ ?_
  refine go_ifZ_ne (pc := 5) C 10 dX9_forkSpace_5 (by decide) (fun _ => ?_) (fun _ => ?_)
  · refine go_aload_n (pc := 10) C 0 dX9_forkSpace_10 rfl ?_
    refine go_bind (fun q9 hq9 => ?_)
    refine go_callV (rest := []) (st' := [.int q9]) (c' := 0) (s' := 0) (pc := 11) C O miX9_184 mvX9_spaceTotal [] rfl (mX9_spaceTotal hq9).1 (mX9_spaceTotal hq9).2 dX9_forkSpace_11 ⟨by decide, by decide, by decide, by decide⟩ rfl (Nat.le_of_ble_eq_true rfl) rfl ⟨rfl, rfl⟩ ?_
    refine go_bipush (pc := 14) C dX9_forkSpace_14 kb_6 ?_
    refine go_icmp_lt (pc := 16) C 22 dX9_forkSpace_16 (by decide) (fun _ => ?_) (fun _ => ?_)
    · refine go_aload_n (pc := 22) C 0 dX9_forkSpace_22 rfl ?_
      refine go_gR (pc := 23) C fdX9_9 dX9_forkSpace_23 (fun x10 => ?_)
      refine go_iload_n (pc := 26) C 1 dX9_forkSpace_26 rfl ?_
      refine go_iald (pc := 27) C dX9_forkSpace_27 (fun x11 => ?_)
      refine go_istore_n (ls' := [(2, .int x11), (0, .ref a0), (1, .int a1)]) (pc := 28) C dX9_forkSpace_28 (by decide) rfl ?_
      refine go_aload_n (pc := 29) C 1 dX9_forkSpace_29 rfl ?_
      refine go_iload_n (pc := 30) C 0 dX9_forkSpace_30 rfl ?_
      refine go_bind (fun q12 hq12 => ?_)
      refine go_callV (rest := []) (st' := [.int q12]) (c' := 0) (s' := 0) (pc := 31) C O miX9_123 mvX9_pagerOf [.int x11] rfl (mX9_pagerOf hq12).1 (mX9_pagerOf hq12).2 dX9_forkSpace_31 ⟨by decide, by decide, by decide, by decide⟩ rfl (Nat.le_of_ble_eq_true rfl) rfl ⟨rfl, rfl⟩ ?_
      refine go_if_eq (pc := 34) C 41 dX9_forkSpace_34 (by decide) (fun _ => ?_) (fun _ => ?_)
      · refine go_iconst (pc := 41) C dX9_forkSpace_41 ki_0 ?_
        refine go_sub (ls' := [(0, .ref a0), (1, .int a1), (2, .int x11)]) [1, 2, 0] rfl ?_
        refine gX9_forkSpace_J42 C O E h a0 a1 x11 0
      · refine go_iconst (pc := 37) C dX9_forkSpace_37 ki_1 ?_
        refine go_goto (pc := 38) C 42 dX9_forkSpace_38 (by decide) ?_
        refine go_sub (ls' := [(0, .ref a0), (1, .int a1), (2, .int x11)]) [1, 2, 0] rfl ?_
        refine gX9_forkSpace_J42 C O E h a0 a1 x11 1
    · refine go_bipush (pc := 19) C dX9_forkSpace_19 kb_m2 ?_
      exact go_iret (w := wIh) (pc := 21) C E (((-2), h)) ((-2)) dX9_forkSpace_21 rfl
  · refine go_iconst (pc := 8) C dX9_forkSpace_8 ki_m1 ?_
    exact go_iret (w := wIh) (pc := 9) C E (((-1), h)) ((-1)) dX9_forkSpace_9 rfl
theorem dX9_endSpace_0 : decode cX9_endSpace 0 = .ok (.aload_n 0, 1) := by decide +kernel
theorem dX9_endSpace_1 : decode cX9_endSpace 1 = .ok (.iload_n 1, 1) := by decide +kernel
theorem dX9_endSpace_2 : decode cX9_endSpace 2 = .ok (.invokevirtual 78, 3) := by decide +kernel
theorem dX9_endSpace_5 : decode cX9_endSpace 5 = .ok (.ifCond .ne 5, 3) := by decide +kernel
theorem dX9_endSpace_8 : decode cX9_endSpace 8 = .ok (.iconst (-1), 1) := by decide +kernel
theorem dX9_endSpace_9 : decode cX9_endSpace 9 = .ok (.ireturn, 1) := by decide +kernel
theorem dX9_endSpace_10 : decode cX9_endSpace 10 = .ok (.aload_n 0, 1) := by decide +kernel
theorem dX9_endSpace_11 : decode cX9_endSpace 11 = .ok (.dup, 1) := by decide +kernel
theorem dX9_endSpace_12 : decode cX9_endSpace 12 = .ok (.getfield 36, 3) := by decide +kernel
theorem dX9_endSpace_15 : decode cX9_endSpace 15 = .ok (.iconst 1, 1) := by decide +kernel
theorem dX9_endSpace_16 : decode cX9_endSpace 16 = .ok (.iload_n 1, 1) := by decide +kernel
theorem dX9_endSpace_17 : decode cX9_endSpace 17 = .ok (.ishl, 1) := by decide +kernel
theorem dX9_endSpace_18 : decode cX9_endSpace 18 = .ok (.iconst (-1), 1) := by decide +kernel
theorem dX9_endSpace_19 : decode cX9_endSpace 19 = .ok (.ixor, 1) := by decide +kernel
theorem dX9_endSpace_20 : decode cX9_endSpace 20 = .ok (.iand, 1) := by decide +kernel
theorem dX9_endSpace_21 : decode cX9_endSpace 21 = .ok (.putfield 36, 3) := by decide +kernel
theorem dX9_endSpace_24 : decode cX9_endSpace 24 = .ok (.aload_n 0, 1) := by decide +kernel
theorem dX9_endSpace_25 : decode cX9_endSpace 25 = .ok (.dup, 1) := by decide +kernel
theorem dX9_endSpace_26 : decode cX9_endSpace 26 = .ok (.getfield 40, 3) := by decide +kernel
theorem dX9_endSpace_29 : decode cX9_endSpace 29 = .ok (.iconst 1, 1) := by decide +kernel
theorem dX9_endSpace_30 : decode cX9_endSpace 30 = .ok (.iload_n 1, 1) := by decide +kernel
theorem dX9_endSpace_31 : decode cX9_endSpace 31 = .ok (.ishl, 1) := by decide +kernel
theorem dX9_endSpace_32 : decode cX9_endSpace 32 = .ok (.iconst (-1), 1) := by decide +kernel
theorem dX9_endSpace_33 : decode cX9_endSpace 33 = .ok (.ixor, 1) := by decide +kernel
theorem dX9_endSpace_34 : decode cX9_endSpace 34 = .ok (.iand, 1) := by decide +kernel
theorem dX9_endSpace_35 : decode cX9_endSpace 35 = .ok (.putfield 40, 3) := by decide +kernel
theorem dX9_endSpace_38 : decode cX9_endSpace 38 = .ok (.aload_n 0, 1) := by decide +kernel
theorem dX9_endSpace_39 : decode cX9_endSpace 39 = .ok (.getfield 9, 3) := by decide +kernel
theorem dX9_endSpace_42 : decode cX9_endSpace 42 = .ok (.iload_n 1, 1) := by decide +kernel
theorem dX9_endSpace_43 : decode cX9_endSpace 43 = .ok (.iaload, 1) := by decide +kernel
theorem dX9_endSpace_44 : decode cX9_endSpace 44 = .ok (.istore_n 2, 1) := by decide +kernel
theorem dX9_endSpace_45 : decode cX9_endSpace 45 = .ok (.aload_n 0, 1) := by decide +kernel
theorem dX9_endSpace_46 : decode cX9_endSpace 46 = .ok (.getfield 9, 3) := by decide +kernel
theorem dX9_endSpace_49 : decode cX9_endSpace 49 = .ok (.iload_n 1, 1) := by decide +kernel
theorem dX9_endSpace_50 : decode cX9_endSpace 50 = .ok (.bipush 24, 2) := by decide +kernel
theorem dX9_endSpace_52 : decode cX9_endSpace 52 = .ok (.iastore, 1) := by decide +kernel
theorem dX9_endSpace_53 : decode cX9_endSpace 53 = .ok (.aload_n 0, 1) := by decide +kernel
theorem dX9_endSpace_54 : decode cX9_endSpace 54 = .ok (.iload_n 2, 1) := by decide +kernel
theorem dX9_endSpace_55 : decode cX9_endSpace 55 = .ok (.invokevirtual 193, 3) := by decide +kernel
theorem dX9_endSpace_58 : decode cX9_endSpace 58 = .ok (.ireturn, 1) := by decide +kernel
def fX9_endSpace (h : AH) (a0 : Nat) (a1 : Int32) : Option (Int32 × AH) :=
  if hasC h 9 a0 = true then (
    (fX9_hasSpace h a0 a1).bind fun q1 =>
    if q1 = true then (
      (gI h 9 a0 0).bind fun x2 =>
      (pF h 9 a0 0 (.int (x2 &&& ((1 <<< (a1 &&& 31)) ^^^ ((-1)))))).bind fun h3 =>
      (gI h3 9 a0 1).bind fun x4 =>
      (pF h3 9 a0 1 (.int (x4 &&& ((1 <<< (a1 &&& 31)) ^^^ ((-1)))))).bind fun h5 =>
      (gR h5 9 a0 4).bind fun x6 =>
      (aI h5 0 x6 a1).bind fun x7 =>
      (gR h5 9 a0 4).bind fun x8 =>
      (sI h5 0 x8 a1 24).bind fun h9 =>
      (fX9_release h9 a0 x7).bind fun q10 =>
      some ((q10.1, q10.2))
    ) else (
      some (((-1), h))
    )
  ) else none
set_option maxHeartbeats 4000000 in
theorem mX9_endSpace {h : AH} {a0 : Nat} {a1 : Int32} {r : Int32 × AH} (hr : fX9_endSpace h a0 a1 = some r) : hasC h 9 a0 = true ∧ MC yX9_endSpace cX9_endSpace 3 (some .int) 4 0 0 [.ref a0, .int a1] h (some (.int r.1)) r.2 := by
  unfold fX9_endSpace at hr
  obtain ⟨hc, hr⟩ := if_some hr
  refine ⟨hc, mc_of (l0 := [(0, .ref a0), (1, .int a1)]) rfl pn_X9 (Nat.le_of_ble_eq_true rfl) (fun Y X C E O hnm => go_run hr ?_)⟩
  have C : CT Y X RX9 cX9_endSpace 3 := C
  refine go_aload_n (pc := 0) C 0 dX9_endSpace_0 rfl ?_
  refine go_iload_n (pc := 1) C 1 dX9_endSpace_1 rfl ?_
  refine go_bind (fun q1 hq1 => ?_)
  refine go_callV (rest := []) (st' := [.int (b2i q1)]) (c' := 0) (s' := 0) (pc := 2) C O miX9_78 mvX9_hasSpace [.int a1] rfl (mX9_hasSpace hq1).1 (mX9_hasSpace hq1).2 dX9_endSpace_2 ⟨by decide, by decide, by decide, by decide⟩ rfl (Nat.le_of_ble_eq_true rfl) rfl ⟨rfl, rfl⟩ ?_
  refine go_ifZ_ne (pc := 5) C 10 dX9_endSpace_5 (by decide) (fun _ => ?_) (fun _ => ?_)
  · refine go_aload_n (pc := 10) C 0 dX9_endSpace_10 rfl ?_
    refine go_dup (pc := 11) C dX9_endSpace_11 rfl ?_
    refine go_gI (pc := 12) C fdX9_36 dX9_endSpace_12 (fun x2 => ?_)
    refine go_iconst (pc := 15) C dX9_endSpace_15 ki_1 ?_
    refine go_iload_n (pc := 16) C 1 dX9_endSpace_16 rfl ?_
    refine go_ishl (pc := 17) C dX9_endSpace_17 ?_
    refine go_iconst (pc := 18) C dX9_endSpace_18 ki_m1 ?_
    refine go_ixor (pc := 19) C dX9_endSpace_19 ?_
    refine go_iand (pc := 20) C dX9_endSpace_20 ?_
    refine go_pI (pc := 21) C fpX9_36 dX9_endSpace_21 (fun h3 => ?_)
    refine go_aload_n (pc := 24) C 0 dX9_endSpace_24 rfl ?_
    refine go_dup (pc := 25) C dX9_endSpace_25 rfl ?_
    refine go_gI (pc := 26) C fdX9_40 dX9_endSpace_26 (fun x4 => ?_)
    refine go_iconst (pc := 29) C dX9_endSpace_29 ki_1 ?_
    refine go_iload_n (pc := 30) C 1 dX9_endSpace_30 rfl ?_
    refine go_ishl (pc := 31) C dX9_endSpace_31 ?_
    refine go_iconst (pc := 32) C dX9_endSpace_32 ki_m1 ?_
    refine go_ixor (pc := 33) C dX9_endSpace_33 ?_
    refine go_iand (pc := 34) C dX9_endSpace_34 ?_
    refine go_pI (pc := 35) C fpX9_40 dX9_endSpace_35 (fun h5 => ?_)
    refine go_aload_n (pc := 38) C 0 dX9_endSpace_38 rfl ?_
    refine go_gR (pc := 39) C fdX9_9 dX9_endSpace_39 (fun x6 => ?_)
    refine go_iload_n (pc := 42) C 1 dX9_endSpace_42 rfl ?_
    refine go_iald (pc := 43) C dX9_endSpace_43 (fun x7 => ?_)
    refine go_istore_n (ls' := [(2, .int x7), (0, .ref a0), (1, .int a1)]) (pc := 44) C dX9_endSpace_44 (by decide) rfl ?_
    refine go_aload_n (pc := 45) C 1 dX9_endSpace_45 rfl ?_
    refine go_gR (pc := 46) C fdX9_9 dX9_endSpace_46 (fun x8 => ?_)
    refine go_iload_n (pc := 49) C 2 dX9_endSpace_49 rfl ?_
    refine go_bipush (pc := 50) C dX9_endSpace_50 kb_24 ?_
    refine go_iast (pc := 52) C dX9_endSpace_52 (fun h9 => ?_)
    refine go_aload_n (pc := 53) C 1 dX9_endSpace_53 rfl ?_
    refine go_iload_n (pc := 54) C 0 dX9_endSpace_54 rfl ?_
    refine go_bind (fun q10 hq10 => ?_)
    refine go_callV (rest := []) (st' := [.int q10.1]) (c' := 0) (s' := 0) (pc := 55) C O miX9_193 mvX9_release [.int x7] rfl (mX9_release hq10).1 (mX9_release hq10).2 dX9_endSpace_55 ⟨by decide, by decide, by decide, by decide⟩ rfl (Nat.le_of_ble_eq_true rfl) rfl ⟨rfl, rfl⟩ ?_
    exact go_iret (w := wIh) (pc := 58) C E ((q10.1, q10.2)) q10.1 dX9_endSpace_58 rfl
  · refine go_iconst (pc := 8) C dX9_endSpace_8 ki_m1 ?_
    exact go_iret (w := wIh) (pc := 9) C E (((-1), h)) ((-1)) dX9_endSpace_9 rfl
theorem dX10_sign_0 : decode cX10_sign 0 = .ok (.aload_n 0, 1) := by decide +kernel
theorem dX10_sign_1 : decode cX10_sign 1 = .ok (.getfield 78, 3) := by decide +kernel
theorem dX10_sign_4 : decode cX10_sign 4 = .ok (.iconst 4, 1) := by decide +kernel
theorem dX10_sign_5 : decode cX10_sign 5 = .ok (.iadd, 1) := by decide +kernel
theorem dX10_sign_6 : decode cX10_sign 6 = .ok (.bipush 80, 2) := by decide +kernel
theorem dX10_sign_8 : decode cX10_sign 8 = .ok (.if_icmp .le 5, 3) := by decide +kernel
theorem dX10_sign_11 : decode cX10_sign 11 = .ok (.iconst (-1), 1) := by decide +kernel
theorem dX10_sign_12 : decode cX10_sign 12 = .ok (.ireturn, 1) := by decide +kernel
theorem dX10_sign_13 : decode cX10_sign 13 = .ok (.bipush 24, 2) := by decide +kernel
theorem dX10_sign_15 : decode cX10_sign 15 = .ok (.istore_n 2, 1) := by decide +kernel
theorem dX10_sign_16 : decode cX10_sign 16 = .ok (.iload_n 2, 1) := by decide +kernel
theorem dX10_sign_17 : decode cX10_sign 17 = .ok (.ifCond .lt 36, 3) := by decide +kernel
theorem dX10_sign_20 : decode cX10_sign 20 = .ok (.aload_n 0, 1) := by decide +kernel
theorem dX10_sign_21 : decode cX10_sign 21 = .ok (.getfield 9, 3) := by decide +kernel
theorem dX10_sign_24 : decode cX10_sign 24 = .ok (.aload_n 0, 1) := by decide +kernel
theorem dX10_sign_25 : decode cX10_sign 25 = .ok (.getfield 78, 3) := by decide +kernel
theorem dX10_sign_28 : decode cX10_sign 28 = .ok (.iload_n 1, 1) := by decide +kernel
theorem dX10_sign_29 : decode cX10_sign 29 = .ok (.iload_n 2, 1) := by decide +kernel
theorem dX10_sign_30 : decode cX10_sign 30 = .ok (.iushr, 1) := by decide +kernel
theorem dX10_sign_31 : decode cX10_sign 31 = .ok (.sipush 255, 3) := by decide +kernel
theorem dX10_sign_34 : decode cX10_sign 34 = .ok (.iand, 1) := by decide +kernel
theorem dX10_sign_35 : decode cX10_sign 35 = .ok (.i2c, 1) := by decide +kernel
theorem dX10_sign_36 : decode cX10_sign 36 = .ok (.castore, 1) := by decide +kernel
theorem dX10_sign_37 : decode cX10_sign 37 = .ok (.aload_n 0, 1) := by decide +kernel
theorem dX10_sign_38 : decode cX10_sign 38 = .ok (.dup, 1) := by decide +kernel
theorem dX10_sign_39 : decode cX10_sign 39 = .ok (.getfield 78, 3) := by decide +kernel
theorem dX10_sign_42 : decode cX10_sign 42 = .ok (.iconst 1, 1) := by decide +kernel
theorem dX10_sign_43 : decode cX10_sign 43 = .ok (.iadd, 1) := by decide +kernel
theorem dX10_sign_44 : decode cX10_sign 44 = .ok (.putfield 78, 3) := by decide +kernel
theorem dX10_sign_47 : decode cX10_sign 47 = .ok (.iinc 2 (-8), 3) := by decide +kernel
theorem dX10_sign_50 : decode cX10_sign 50 = .ok (.goto (-34), 3) := by decide +kernel
theorem dX10_sign_53 : decode cX10_sign 53 = .ok (.aload_n 0, 1) := by decide +kernel
theorem dX10_sign_54 : decode cX10_sign 54 = .ok (.getfield 78, 3) := by decide +kernel
theorem dX10_sign_57 : decode cX10_sign 57 = .ok (.ireturn, 1) := by decide +kernel
def fX10_sign_L16 : Nat → AH → Nat → Int32 → Int32 → Option (Int32 × AH)
  | 0, _, _, _, _ => none
  | n + 1, h, v0, v1, v2 =>
    if v2 < 0 then (
      (gI h 10 v0 1).bind fun x1 =>
      some ((x1, h))
    ) else (
      (gR h 10 v0 0).bind fun x2 =>
      (gI h 10 v0 1).bind fun x3 =>
      (sI h 2 x2 x3 (UInt32.toInt32 (Int32.toUInt32 ((jush v1 v2) &&& 255) % 65536))).bind fun h4 =>
      (gI h4 10 v0 1).bind fun x5 =>
      (pF h4 10 v0 1 (.int (x5 + 1))).bind fun h6 =>
      letF (v2 + (-8) : Int32) fun x7 =>
      fX10_sign_L16 n h6 v0 v1 x7
    )
def fX10_sign (h : AH) (a0 : Nat) (a1 : Int32) : Option (Int32 × AH) :=
  if hasC h 10 a0 = true then (
    (gI h 10 a0 1).bind fun x8 =>
    if (x8 + 4) ≤ 80 then (
      fX10_sign_L16 FU h a0 a1 24
    ) else (
      some (((-1), h))
    )
  ) else none
set_option maxHeartbeats 4000000 in
theorem gX10_sign_L16 {Y : YT} {X : XT} (C : CT Y X RX10 cX10_sign 3) (O : RO X 1 0 0) {r : Int32 × AH} (E : RX Y X (some .int) (some (.int r.1)) r.2 0 0) : ∀ (n : Nat) (h : AH) (v0 : Nat) (v1 : Int32) (v2 : Int32), GO Y X 3 r h 0 0 16 [(0, .ref v0), (1, .int v1), (2, .int v2)] [] (fX10_sign_L16 n h v0 v1 v2) := by
  intro n
  induction n with
  | zero => intros; exact go_none _ _ _
  | succ n ih =>
    intro h v0 v1 v2
    rw [fX10_sign_L16]
    refine go_iload_n (pc := 16) C 2 dX10_sign_16 rfl ?_
    refine go_if_lt (pc := 17) C 53 dX10_sign_17 (by decide) (fun _ => ?_) (fun _ => ?_)
    · refine go_aload_n (pc := 53) C 0 dX10_sign_53 rfl ?_
      refine go_gI (pc := 54) C fdX10_78 dX10_sign_54 (fun x1 => ?_)
      exact go_iret (w := wIh) (pc := 57) C E ((x1, h)) x1 dX10_sign_57 rfl
    · refine go_aload_n (pc := 20) C 0 dX10_sign_20 rfl ?_
      refine go_gR (pc := 21) C fdX10_9 dX10_sign_21 (fun x2 => ?_)
      refine go_aload_n (pc := 24) C 0 dX10_sign_24 rfl ?_
      refine go_gI (pc := 25) C fdX10_78 dX10_sign_25 (fun x3 => ?_)
      refine go_iload_n (pc := 28) C 1 dX10_sign_28 rfl ?_
      refine go_iload_n (pc := 29) C 2 dX10_sign_29 rfl ?_
      refine go_iushr (pc := 30) C dX10_sign_30 ?_
      refine go_sipush (pc := 31) C dX10_sign_31 ks_255 ?_
      refine go_iand (pc := 34) C dX10_sign_34 ?_
      refine go_i2c (pc := 35) C dX10_sign_35 ?_
      refine go_cast (pc := 36) C dX10_sign_36 (fun h4 => ?_)
      refine go_aload_n (pc := 37) C 0 dX10_sign_37 rfl ?_
      refine go_dup (pc := 38) C dX10_sign_38 rfl ?_
      refine go_gI (pc := 39) C fdX10_78 dX10_sign_39 (fun x5 => ?_)
      refine go_iconst (pc := 42) C dX10_sign_42 ki_1 ?_
      refine go_iadd (pc := 43) C dX10_sign_43 ?_
      refine go_pI (pc := 44) C fpX10_78 dX10_sign_44 (fun h6 => ?_)
      refine go_iincL (pc := 47) C 2 dX10_sign_47 rfl ki_m8 (by decide) (fun x7 => [(2, .int x7), (0, .ref v0), (1, .int v1)]) (fun _ => rfl) (fun x7 => ?_)
      refine go_goto (pc := 50) C 16 dX10_sign_50 (by decide) ?_
      refine go_sub (ls' := [(0, .ref v0), (1, .int v1), (2, .int x7)]) [1, 2, 0] rfl ?_
      exact ih h6 v0 v1 x7
set_option maxHeartbeats 4000000 in
theorem mX10_sign {h : AH} {a0 : Nat} {a1 : Int32} {r : Int32 × AH} (hr : fX10_sign h a0 a1 = some r) : hasC h 10 a0 = true ∧ MC yX10_sign cX10_sign 3 (some .int) 1 0 0 [.ref a0, .int a1] h (some (.int r.1)) r.2 := by
  unfold fX10_sign at hr
  obtain ⟨hc, hr⟩ := if_some hr
  refine ⟨hc, mc_of (l0 := [(0, .ref a0), (1, .int a1)]) rfl pn_X10 (Nat.le_of_ble_eq_true rfl) (fun Y X C E O hnm => go_run hr ?_)⟩
  have C : CT Y X RX10 cX10_sign 3 := C
  refine go_aload_n (pc := 0) C 0 dX10_sign_0 rfl ?_
  refine go_gI (pc := 1) C fdX10_78 dX10_sign_1 (fun x8 => ?_)
  refine go_iconst (pc := 4) C dX10_sign_4 ki_4 ?_
  refine go_iadd (pc := 5) C dX10_sign_5 ?_
  refine go_bipush (pc := 6) C dX10_sign_6 kb_80 ?_
  refine go_icmp_le (pc := 8) C 13 dX10_sign_8 (by decide) (fun _ => ?_) (fun _ => ?_)
  · refine go_bipush (pc := 13) C dX10_sign_13 kb_24 ?_
    refine go_istore_n (ls' := [(2, .int 24), (0, .ref a0), (1, .int a1)]) (pc := 15) C dX10_sign_15 (by decide) rfl ?_
    refine go_sub (ls' := [(0, .ref a0), (1, .int a1), (2, .int 24)]) [1, 2, 0] rfl ?_
    refine gX10_sign_L16 C O E FU h a0 a1 24
  · refine go_iconst (pc := 11) C dX10_sign_11 ki_m1 ?_
    exact go_iret (w := wIh) (pc := 12) C E (((-1), h)) ((-1)) dX10_sign_12 rfl
theorem dX10_end_0 : decode cX10_end 0 = .ok (.iload_n 1, 1) := by decide +kernel
theorem dX10_end_1 : decode cX10_end 1 = .ok (.ifCond .lt 11, 3) := by decide +kernel
theorem dX10_end_4 : decode cX10_end 4 = .ok (.iload_n 1, 1) := by decide +kernel
theorem dX10_end_5 : decode cX10_end 5 = .ok (.aload_n 0, 1) := by decide +kernel
theorem dX10_end_6 : decode cX10_end 6 = .ok (.getfield 78, 3) := by decide +kernel
theorem dX10_end_9 : decode cX10_end 9 = .ok (.if_icmp .le 5, 3) := by decide +kernel
theorem dX10_end_12 : decode cX10_end 12 = .ok (.iconst 0, 1) := by decide +kernel
theorem dX10_end_13 : decode cX10_end 13 = .ok (.ireturn, 1) := by decide +kernel
theorem dX10_end_14 : decode cX10_end 14 = .ok (.aload_n 0, 1) := by decide +kernel
theorem dX10_end_15 : decode cX10_end 15 = .ok (.iload_n 1, 1) := by decide +kernel
theorem dX10_end_16 : decode cX10_end 16 = .ok (.putfield 78, 3) := by decide +kernel
theorem dX10_end_19 : decode cX10_end 19 = .ok (.iconst 1, 1) := by decide +kernel
theorem dX10_end_20 : decode cX10_end 20 = .ok (.ireturn, 1) := by decide +kernel
def fX10_end (h : AH) (a0 : Nat) (a1 : Int32) : Option (Bool × AH) :=
  if hasC h 10 a0 = true then (
    if a1 < 0 then (
      some ((false, h))
    ) else (
      (gI h 10 a0 1).bind fun x1 =>
      if a1 ≤ x1 then (
        (pF h 10 a0 1 (.int a1)).bind fun h2 =>
        some ((true, h2))
      ) else (
        some ((false, h))
      )
    )
  ) else none
set_option maxHeartbeats 4000000 in
theorem mX10_end {h : AH} {a0 : Nat} {a1 : Int32} {r : Bool × AH} (hr : fX10_end h a0 a1 = some r) : hasC h 10 a0 = true ∧ MC yX10_end cX10_end 2 (some .boolean) 1 0 0 [.ref a0, .int a1] h (some (.int (b2i r.1))) r.2 := by
  unfold fX10_end at hr
  obtain ⟨hc, hr⟩ := if_some hr
  refine ⟨hc, mc_of (l0 := [(0, .ref a0), (1, .int a1)]) rfl pn_X10 (Nat.le_of_ble_eq_true rfl) (fun Y X C E O hnm => go_run hr ?_)⟩
  have C : CT Y X RX10 cX10_end 2 := C
  refine go_iload_n (pc := 0) C 1 dX10_end_0 rfl ?_
  refine go_if_lt (pc := 1) C 12 dX10_end_1 (by decide) (fun _ => ?_) (fun _ => ?_)
  · refine go_iconst (pc := 12) C dX10_end_12 ki_0 ?_
    exact go_bret (w := wZh) (pc := 13) C E ((false, h)) 0 false rfl dX10_end_13 rfl
  · refine go_iload_n (pc := 4) C 1 dX10_end_4 rfl ?_
    refine go_aload_n (pc := 5) C 0 dX10_end_5 rfl ?_
    refine go_gI (pc := 6) C fdX10_78 dX10_end_6 (fun x1 => ?_)
    refine go_icmp_le (pc := 9) C 14 dX10_end_9 (by decide) (fun _ => ?_) (fun _ => ?_)
    · refine go_aload_n (pc := 14) C 0 dX10_end_14 rfl ?_
      refine go_iload_n (pc := 15) C 1 dX10_end_15 rfl ?_
      refine go_pI (pc := 16) C fpX10_78 dX10_end_16 (fun h2 => ?_)
      refine go_iconst (pc := 19) C dX10_end_19 ki_1 ?_
      exact go_bret (w := wZh) (pc := 20) C E ((true, h2)) 1 true rfl dX10_end_20 rfl
    · refine go_iconst (pc := 12) C dX10_end_12 ki_0 ?_
      exact go_bret (w := wZh) (pc := 13) C E ((false, h)) 0 false rfl dX10_end_13 rfl
theorem dX10_takeText_0 : decode cX10_takeText 0 = .ok (.aload_n 0, 1) := by decide +kernel
theorem dX10_takeText_1 : decode cX10_takeText 1 = .ok (.getfield 78, 3) := by decide +kernel
theorem dX10_takeText_4 : decode cX10_takeText 4 = .ok (.istore_n 1, 1) := by decide +kernel
theorem dX10_takeText_5 : decode cX10_takeText 5 = .ok (.aload_n 0, 1) := by decide +kernel
theorem dX10_takeText_6 : decode cX10_takeText 6 = .ok (.iconst 0, 1) := by decide +kernel
theorem dX10_takeText_7 : decode cX10_takeText 7 = .ok (.putfield 78, 3) := by decide +kernel
theorem dX10_takeText_10 : decode cX10_takeText 10 = .ok (.iload_n 1, 1) := by decide +kernel
theorem dX10_takeText_11 : decode cX10_takeText 11 = .ok (.ireturn, 1) := by decide +kernel
def fX10_takeText (h : AH) (a0 : Nat) : Option (Int32 × AH) :=
  if hasC h 10 a0 = true then (
    (gI h 10 a0 1).bind fun x1 =>
    (pF h 10 a0 1 (.int 0)).bind fun h2 =>
    some ((x1, h2))
  ) else none
set_option maxHeartbeats 4000000 in
theorem mX10_takeText {h : AH} {a0 : Nat} {r : Int32 × AH} (hr : fX10_takeText h a0 = some r) : hasC h 10 a0 = true ∧ MC yX10_takeText cX10_takeText 2 (some .int) 1 0 0 [.ref a0] h (some (.int r.1)) r.2 := by
  unfold fX10_takeText at hr
  obtain ⟨hc, hr⟩ := if_some hr
  refine ⟨hc, mc_of (l0 := [(0, .ref a0)]) rfl pn_X10 (Nat.le_of_ble_eq_true rfl) (fun Y X C E O hnm => go_run hr ?_)⟩
  have C : CT Y X RX10 cX10_takeText 2 := C
  refine go_aload_n (pc := 0) C 0 dX10_takeText_0 rfl ?_
  refine go_gI (pc := 1) C fdX10_78 dX10_takeText_1 (fun x1 => ?_)
  refine go_istore_n (ls' := [(1, .int x1), (0, .ref a0)]) (pc := 4) C dX10_takeText_4 (by decide) rfl ?_
  refine go_aload_n (pc := 5) C 1 dX10_takeText_5 rfl ?_
  refine go_iconst (pc := 6) C dX10_takeText_6 ki_0 ?_
  refine go_pI (pc := 7) C fpX10_78 dX10_takeText_7 (fun h2 => ?_)
  refine go_iload_n (pc := 10) C 0 dX10_takeText_10 rfl ?_
  exact go_iret (w := wIh) (pc := 11) C E ((x1, h2)) x1 dX10_takeText_11 rfl
theorem dX10_signAt_0 : decode cX10_signAt 0 = .ok (.iload_n 1, 1) := by decide +kernel
theorem dX10_signAt_1 : decode cX10_signAt 1 = .ok (.ifCond .lt 21, 3) := by decide +kernel
theorem dX10_signAt_4 : decode cX10_signAt 4 = .ok (.iload_n 1, 1) := by decide +kernel
theorem dX10_signAt_5 : decode cX10_signAt 5 = .ok (.aload_n 0, 1) := by decide +kernel
theorem dX10_signAt_6 : decode cX10_signAt 6 = .ok (.getfield 9, 3) := by decide +kernel
theorem dX10_signAt_9 : decode cX10_signAt 9 = .ok (.arraylength, 1) := by decide +kernel
theorem dX10_signAt_10 : decode cX10_signAt 10 = .ok (.if_icmp .ge 12, 3) := by decide +kernel
theorem dX10_signAt_13 : decode cX10_signAt 13 = .ok (.aload_n 0, 1) := by decide +kernel
theorem dX10_signAt_14 : decode cX10_signAt 14 = .ok (.getfield 9, 3) := by decide +kernel
theorem dX10_signAt_17 : decode cX10_signAt 17 = .ok (.iload_n 1, 1) := by decide +kernel
theorem dX10_signAt_18 : decode cX10_signAt 18 = .ok (.caload, 1) := by decide +kernel
theorem dX10_signAt_19 : decode cX10_signAt 19 = .ok (.goto 4, 3) := by decide +kernel
theorem dX10_signAt_22 : decode cX10_signAt 22 = .ok (.iconst 0, 1) := by decide +kernel
theorem dX10_signAt_23 : decode cX10_signAt 23 = .ok (.ireturn, 1) := by decide +kernel
def fX10_signAt (h : AH) (a0 : Nat) (a1 : Int32) : Option (Int32) :=
  if hasC h 10 a0 = true then (
    if a1 < 0 then (
      (i2ch 0).bind fun x1 => some x1
    ) else (
      (gR h 10 a0 0).bind fun x2 =>
      (aL h 2 x2).bind fun x3 =>
      if x3 ≤ a1 then (
        (i2ch 0).bind fun x4 => some x4
      ) else (
        (gR h 10 a0 0).bind fun x5 =>
        (aI h 2 x5 a1).bind fun x6 =>
        (i2ch x6).bind fun x7 => some x7
      )
    )
  ) else none
set_option maxHeartbeats 4000000 in
theorem mX10_signAt {h : AH} {a0 : Nat} {a1 : Int32} {r : Int32} (hr : fX10_signAt h a0 a1 = some r) : hasC h 10 a0 = true ∧ MC yX10_signAt cX10_signAt 2 (some .char) 1 0 0 [.ref a0, .int a1] h (some (.int r)) h := by
  unfold fX10_signAt at hr
  obtain ⟨hc, hr⟩ := if_some hr
  refine ⟨hc, mc_of (l0 := [(0, .ref a0), (1, .int a1)]) rfl pn_X10 (Nat.le_of_ble_eq_true rfl) (fun Y X C E O hnm => go_run hr ?_)⟩
  have C : CT Y X RX10 cX10_signAt 2 := C
  refine go_iload_n (pc := 0) C 1 dX10_signAt_0 rfl ?_
  refine go_if_lt (pc := 1) C 22 dX10_signAt_1 (by decide) (fun _ => ?_) (fun _ => ?_)
  · refine go_iconst (pc := 22) C dX10_signAt_22 ki_0 ?_
    exact go_cret (w := (wI h)) (pc := 23) C E 0 (fun x1 => x1) dX10_signAt_23 (fun _ => rfl)
  · refine go_iload_n (pc := 4) C 1 dX10_signAt_4 rfl ?_
    refine go_aload_n (pc := 5) C 0 dX10_signAt_5 rfl ?_
    refine go_gR (pc := 6) C fdX10_9 dX10_signAt_6 (fun x2 => ?_)
    refine go_alen (pc := 9) C 2 (by decide) dX10_signAt_9 (fun x3 => ?_)
    refine go_icmp_ge (pc := 10) C 22 dX10_signAt_10 (by decide) (fun _ => ?_) (fun _ => ?_)
    · refine go_iconst (pc := 22) C dX10_signAt_22 ki_0 ?_
      exact go_cret (w := (wI h)) (pc := 23) C E 0 (fun x4 => x4) dX10_signAt_23 (fun _ => rfl)
    · refine go_aload_n (pc := 13) C 0 dX10_signAt_13 rfl ?_
      refine go_gR (pc := 14) C fdX10_9 dX10_signAt_14 (fun x5 => ?_)
      refine go_iload_n (pc := 17) C 1 dX10_signAt_17 rfl ?_
      refine go_cald (pc := 18) C dX10_signAt_18 (fun x6 => ?_)
      refine go_goto (pc := 19) C 23 dX10_signAt_19 (by decide) ?_
      exact go_cret (w := (wI h)) (pc := 23) C E x6 (fun x7 => x7) dX10_signAt_23 (fun _ => rfl)
theorem dX10_standsInSpace_0 : decode cX10_standsInSpace 0 = .ok (.aload_n 0, 1) := by decide +kernel
theorem dX10_standsInSpace_1 : decode cX10_standsInSpace 1 = .ok (.iload_n 1, 1) := by decide +kernel
theorem dX10_standsInSpace_2 : decode cX10_standsInSpace 2 = .ok (.invokevirtual 113, 3) := by decide +kernel
theorem dX10_standsInSpace_5 : decode cX10_standsInSpace 5 = .ok (.istore_n 2, 1) := by decide +kernel
theorem dX10_standsInSpace_6 : decode cX10_standsInSpace 6 = .ok (.iload_n 1, 1) := by decide +kernel
theorem dX10_standsInSpace_7 : decode cX10_standsInSpace 7 = .ok (.ifCond .ne 21, 3) := by decide +kernel
theorem dX10_standsInSpace_10 : decode cX10_standsInSpace 10 = .ok (.iload_n 2, 1) := by decide +kernel
theorem dX10_standsInSpace_11 : decode cX10_standsInSpace 11 = .ok (.bipush 48, 2) := by decide +kernel
theorem dX10_standsInSpace_13 : decode cX10_standsInSpace 13 = .ok (.if_icmp .lt 13, 3) := by decide +kernel
theorem dX10_standsInSpace_16 : decode cX10_standsInSpace 16 = .ok (.iload_n 2, 1) := by decide +kernel
theorem dX10_standsInSpace_17 : decode cX10_standsInSpace 17 = .ok (.bipush 51, 2) := by decide +kernel
theorem dX10_standsInSpace_19 : decode cX10_standsInSpace 19 = .ok (.if_icmp .gt 7, 3) := by decide +kernel
theorem dX10_standsInSpace_22 : decode cX10_standsInSpace 22 = .ok (.iconst 1, 1) := by decide +kernel
theorem dX10_standsInSpace_23 : decode cX10_standsInSpace 23 = .ok (.goto 4, 3) := by decide +kernel
theorem dX10_standsInSpace_26 : decode cX10_standsInSpace 26 = .ok (.iconst 0, 1) := by decide +kernel
theorem dX10_standsInSpace_27 : decode cX10_standsInSpace 27 = .ok (.ireturn, 1) := by decide +kernel
theorem dX10_standsInSpace_28 : decode cX10_standsInSpace 28 = .ok (.iload_n 1, 1) := by decide +kernel
theorem dX10_standsInSpace_29 : decode cX10_standsInSpace 29 = .ok (.iconst 1, 1) := by decide +kernel
theorem dX10_standsInSpace_30 : decode cX10_standsInSpace 30 = .ok (.if_icmp .ne 8, 3) := by decide +kernel
theorem dX10_standsInSpace_33 : decode cX10_standsInSpace 33 = .ok (.iload_n 2, 1) := by decide +kernel
theorem dX10_standsInSpace_34 : decode cX10_standsInSpace 34 = .ok (.invokestatic 414, 3) := by decide +kernel
theorem dX10_standsInSpace_37 : decode cX10_standsInSpace 37 = .ok (.ireturn, 1) := by decide +kernel
theorem dX10_standsInSpace_38 : decode cX10_standsInSpace 38 = .ok (.iload_n 1, 1) := by decide +kernel
theorem dX10_standsInSpace_39 : decode cX10_standsInSpace 39 = .ok (.iconst 2, 1) := by decide +kernel
theorem dX10_standsInSpace_40 : decode cX10_standsInSpace 40 = .ok (.irem, 1) := by decide +kernel
theorem dX10_standsInSpace_41 : decode cX10_standsInSpace 41 = .ok (.ifCond .ne 22, 3) := by decide +kernel
theorem dX10_standsInSpace_44 : decode cX10_standsInSpace 44 = .ok (.iload_n 2, 1) := by decide +kernel
theorem dX10_standsInSpace_45 : decode cX10_standsInSpace 45 = .ok (.invokestatic 414, 3) := by decide +kernel
theorem dX10_standsInSpace_48 : decode cX10_standsInSpace 48 = .ok (.ifCond .ne 9, 3) := by decide +kernel
theorem dX10_standsInSpace_51 : decode cX10_standsInSpace 51 = .ok (.iload_n 2, 1) := by decide +kernel
theorem dX10_standsInSpace_52 : decode cX10_standsInSpace 52 = .ok (.bipush 46, 2) := by decide +kernel
theorem dX10_standsInSpace_54 : decode cX10_standsInSpace 54 = .ok (.if_icmp .ne 7, 3) := by decide +kernel
theorem dX10_standsInSpace_57 : decode cX10_standsInSpace 57 = .ok (.iconst 1, 1) := by decide +kernel
theorem dX10_standsInSpace_58 : decode cX10_standsInSpace 58 = .ok (.goto 4, 3) := by decide +kernel
theorem dX10_standsInSpace_61 : decode cX10_standsInSpace 61 = .ok (.iconst 0, 1) := by decide +kernel
theorem dX10_standsInSpace_62 : decode cX10_standsInSpace 62 = .ok (.ireturn, 1) := by decide +kernel
theorem dX10_standsInSpace_63 : decode cX10_standsInSpace 63 = .ok (.aload_n 0, 1) := by decide +kernel
theorem dX10_standsInSpace_64 : decode cX10_standsInSpace 64 = .ok (.iload_n 1, 1) := by decide +kernel
theorem dX10_standsInSpace_65 : decode cX10_standsInSpace 65 = .ok (.iconst 1, 1) := by decide +kernel
theorem dX10_standsInSpace_66 : decode cX10_standsInSpace 66 = .ok (.isub, 1) := by decide +kernel
theorem dX10_standsInSpace_67 : decode cX10_standsInSpace 67 = .ok (.invokevirtual 113, 3) := by decide +kernel
theorem dX10_standsInSpace_70 : decode cX10_standsInSpace 70 = .ok (.bipush 46, 2) := by decide +kernel
theorem dX10_standsInSpace_72 : decode cX10_standsInSpace 72 = .ok (.if_icmp .ne 17, 3) := by decide +kernel
theorem dX10_standsInSpace_75 : decode cX10_standsInSpace 75 = .ok (.iload_n 2, 1) := by decide +kernel
theorem dX10_standsInSpace_76 : decode cX10_standsInSpace 76 = .ok (.bipush 46, 2) := by decide +kernel
theorem dX10_standsInSpace_78 : decode cX10_standsInSpace 78 = .ok (.if_icmp .ne 7, 3) := by decide +kernel
theorem dX10_standsInSpace_81 : decode cX10_standsInSpace 81 = .ok (.iconst 1, 1) := by decide +kernel
theorem dX10_standsInSpace_82 : decode cX10_standsInSpace 82 = .ok (.goto 11, 3) := by decide +kernel
theorem dX10_standsInSpace_85 : decode cX10_standsInSpace 85 = .ok (.iconst 0, 1) := by decide +kernel
theorem dX10_standsInSpace_86 : decode cX10_standsInSpace 86 = .ok (.goto 7, 3) := by decide +kernel
theorem dX10_standsInSpace_89 : decode cX10_standsInSpace 89 = .ok (.iload_n 2, 1) := by decide +kernel
theorem dX10_standsInSpace_90 : decode cX10_standsInSpace 90 = .ok (.invokestatic 414, 3) := by decide +kernel
theorem dX10_standsInSpace_93 : decode cX10_standsInSpace 93 = .ok (.ireturn, 1) := by decide +kernel
def fX10_standsInSpace (h : AH) (a0 : Nat) (a1 : Int32) : Option (Bool) :=
  if hasC h 10 a0 = true then (
    (fX10_signAt h a0 a1).bind fun q1 =>
    if a1 = 0 then (
      if q1 < 48 then (
        some false
      ) else (
        if 51 < q1 then (
          some false
        ) else (
          some true
        )
      )
    ) else (
      if a1 = 1 then (
        (fX10_isDigit h q1).bind fun q2 =>
        some q2
      ) else (
        (jrem a1 2).bind fun x3 =>
        if x3 = 0 then (
          (fX10_isDigit h q1).bind fun q4 =>
          if q4 = true then (
            some true
          ) else (
            if q1 = 46 then (
              some true
            ) else (
              some false
            )
          )
        ) else (
          (fX10_signAt h a0 (a1 - 1)).bind fun q5 =>
          if q5 = 46 then (
            if q1 = 46 then (
              some true
            ) else (
              some false
            )
          ) else (
            (fX10_isDigit h q1).bind fun q6 =>
            some q6
          )
        )
      )
    )
  ) else none
set_option maxHeartbeats 4000000 in
theorem mX10_standsInSpace {h : AH} {a0 : Nat} {a1 : Int32} {r : Bool} (hr : fX10_standsInSpace h a0 a1 = some r) : hasC h 10 a0 = true ∧ MC yX10_standsInSpace cX10_standsInSpace 3 (some .boolean) 2 0 0 [.ref a0, .int a1] h (some (.int (b2i r))) h := by
  unfold fX10_standsInSpace at hr
  obtain ⟨hc, hr⟩ := if_some hr
  refine ⟨hc, mc_of (l0 := [(0, .ref a0), (1, .int a1)]) rfl pn_X10 (Nat.le_of_ble_eq_true rfl) (fun Y X C E O hnm => go_run hr ?_)⟩
  have C : CT Y X RX10 cX10_standsInSpace 3 := C
  refine go_aload_n (pc := 0) C 0 dX10_standsInSpace_0 rfl ?_
  refine go_iload_n (pc := 1) C 1 dX10_standsInSpace_1 rfl ?_
  refine go_bind (fun q1 hq1 => ?_)
  refine go_callV (rest := []) (st' := [.int q1]) (c' := 0) (s' := 0) (pc := 2) C O miX10_113 mvX10_signAt [.int a1] rfl (mX10_signAt hq1).1 (mX10_signAt hq1).2 dX10_standsInSpace_2 ⟨by decide, by decide, by decide, by decide⟩ rfl (Nat.le_of_ble_eq_true rfl) rfl ⟨rfl, rfl⟩ ?_
  refine go_istore_n (ls' := [(2, .int q1), (0, .ref a0), (1, .int a1)]) (pc := 5) C dX10_standsInSpace_5 (by decide) rfl ?_
  refine go_iload_n (pc := 6) C 2 dX10_standsInSpace_6 rfl ?_
  refine go_if_ne (pc := 7) C 28 dX10_standsInSpace_7 (by decide) (fun _ => ?_) (fun _ => ?_)
  · refine go_iload_n (pc := 10) C 0 dX10_standsInSpace_10 rfl ?_
    refine go_bipush (pc := 11) C dX10_standsInSpace_11 kb_48 ?_
    refine go_icmp_lt (pc := 13) C 26 dX10_standsInSpace_13 (by decide) (fun _ => ?_) (fun _ => ?_)
    · refine go_iconst (pc := 26) C dX10_standsInSpace_26 ki_0 ?_
      exact go_bret (w := (wZ h)) (pc := 27) C E false 0 false rfl dX10_standsInSpace_27 rfl
    · refine go_iload_n (pc := 16) C 0 dX10_standsInSpace_16 rfl ?_
      refine go_bipush (pc := 17) C dX10_standsInSpace_17 kb_51 ?_
      refine go_icmp_gt (pc := 19) C 26 dX10_standsInSpace_19 (by decide) (fun _ => ?_) (fun _ => ?_)
      · refine go_iconst (pc := 26) C dX10_standsInSpace_26 ki_0 ?_
        exact go_bret (w := (wZ h)) (pc := 27) C E false 0 false rfl dX10_standsInSpace_27 rfl
      · refine go_iconst (pc := 22) C dX10_standsInSpace_22 ki_1 ?_
        refine go_goto (pc := 23) C 27 dX10_standsInSpace_23 (by decide) ?_
        exact go_bret (w := (wZ h)) (pc := 27) C E true 1 true rfl dX10_standsInSpace_27 rfl
  · refine go_iload_n (pc := 28) C 2 dX10_standsInSpace_28 rfl ?_
    refine go_iconst (pc := 29) C dX10_standsInSpace_29 ki_1 ?_
    refine go_icmp_ne (pc := 30) C 38 dX10_standsInSpace_30 (by decide) (fun _ => ?_) (fun _ => ?_)
    · refine go_iload_n (pc := 33) C 0 dX10_standsInSpace_33 rfl ?_
      refine go_bind (fun q2 hq2 => ?_)
      refine go_callS (rest := []) (st' := [.int (b2i q2)]) (c' := 0) (s' := 0) (pc := 34) C O miX10_414 w_390 [.int q1] rfl (mX10_isDigit hq2) dX10_standsInSpace_34 ⟨by decide, by decide, by decide, by decide⟩ rfl (Nat.le_of_ble_eq_true rfl) rfl ⟨rfl, rfl⟩ ?_
      exact go_bret (w := (wZ h)) (pc := 37) C E q2 (b2i q2) q2 rfl dX10_standsInSpace_37 rfl
    · refine go_iload_n (pc := 38) C 2 dX10_standsInSpace_38 rfl ?_
      refine go_iconst (pc := 39) C dX10_standsInSpace_39 ki_2 ?_
      refine go_irem (pc := 40) C dX10_standsInSpace_40 (fun x3 => ?_)
      refine go_if_ne (pc := 41) C 63 dX10_standsInSpace_41 (by decide) (fun _ => ?_) (fun _ => ?_)
      · refine go_iload_n (pc := 44) C 0 dX10_standsInSpace_44 rfl ?_
        refine go_bind (fun q4 hq4 => ?_)
        refine go_callS (rest := []) (st' := [.int (b2i q4)]) (c' := 0) (s' := 0) (pc := 45) C O miX10_414 w_390 [.int q1] rfl (mX10_isDigit hq4) dX10_standsInSpace_45 ⟨by decide, by decide, by decide, by decide⟩ rfl (Nat.le_of_ble_eq_true rfl) rfl ⟨rfl, rfl⟩ ?_
        refine go_ifZ_ne (pc := 48) C 57 dX10_standsInSpace_48 (by decide) (fun _ => ?_) (fun _ => ?_)
        · refine go_iconst (pc := 57) C dX10_standsInSpace_57 ki_1 ?_
          refine go_goto (pc := 58) C 62 dX10_standsInSpace_58 (by decide) ?_
          exact go_bret (w := (wZ h)) (pc := 62) C E true 1 true rfl dX10_standsInSpace_62 rfl
        · refine go_iload_n (pc := 51) C 0 dX10_standsInSpace_51 rfl ?_
          refine go_bipush (pc := 52) C dX10_standsInSpace_52 kb_46 ?_
          refine go_icmp_ne (pc := 54) C 61 dX10_standsInSpace_54 (by decide) (fun _ => ?_) (fun _ => ?_)
          · refine go_iconst (pc := 57) C dX10_standsInSpace_57 ki_1 ?_
            refine go_goto (pc := 58) C 62 dX10_standsInSpace_58 (by decide) ?_
            exact go_bret (w := (wZ h)) (pc := 62) C E true 1 true rfl dX10_standsInSpace_62 rfl
          · refine go_iconst (pc := 61) C dX10_standsInSpace_61 ki_0 ?_
            exact go_bret (w := (wZ h)) (pc := 62) C E false 0 false rfl dX10_standsInSpace_62 rfl
      · refine go_aload_n (pc := 63) C 1 dX10_standsInSpace_63 rfl ?_
        refine go_iload_n (pc := 64) C 2 dX10_standsInSpace_64 rfl ?_
        refine go_iconst (pc := 65) C dX10_standsInSpace_65 ki_1 ?_
        refine go_isub (pc := 66) C dX10_standsInSpace_66 ?_
        refine go_bind (fun q5 hq5 => ?_)
        refine go_callV (rest := []) (st' := [.int q5]) (c' := 0) (s' := 0) (pc := 67) C O miX10_113 mvX10_signAt [.int (a1 - 1)] rfl (mX10_signAt hq5).1 (mX10_signAt hq5).2 dX10_standsInSpace_67 ⟨by decide, by decide, by decide, by decide⟩ rfl (Nat.le_of_ble_eq_true rfl) rfl ⟨rfl, rfl⟩ ?_
        refine go_bipush (pc := 70) C dX10_standsInSpace_70 kb_46 ?_
        refine go_icmp_ne (pc := 72) C 89 dX10_standsInSpace_72 (by decide) (fun _ => ?_) (fun _ => ?_)
        · refine go_iload_n (pc := 75) C 0 dX10_standsInSpace_75 rfl ?_
          refine go_bipush (pc := 76) C dX10_standsInSpace_76 kb_46 ?_
          refine go_icmp_ne (pc := 78) C 85 dX10_standsInSpace_78 (by decide) (fun _ => ?_) (fun _ => ?_)
          · refine go_iconst (pc := 81) C dX10_standsInSpace_81 ki_1 ?_
            refine go_goto (pc := 82) C 93 dX10_standsInSpace_82 (by decide) ?_
            exact go_bret (w := (wZ h)) (pc := 93) C E true 1 true rfl dX10_standsInSpace_93 rfl
          · refine go_iconst (pc := 85) C dX10_standsInSpace_85 ki_0 ?_
            refine go_goto (pc := 86) C 93 dX10_standsInSpace_86 (by decide) ?_
            exact go_bret (w := (wZ h)) (pc := 93) C E false 0 false rfl dX10_standsInSpace_93 rfl
        · refine go_iload_n (pc := 89) C 0 dX10_standsInSpace_89 rfl ?_
          refine go_bind (fun q6 hq6 => ?_)
          refine go_callS (rest := []) (st' := [.int (b2i q6)]) (c' := 0) (s' := 0) (pc := 90) C O miX10_414 w_390 [.int q1] rfl (mX10_isDigit hq6) dX10_standsInSpace_90 ⟨by decide, by decide, by decide, by decide⟩ rfl (Nat.le_of_ble_eq_true rfl) rfl ⟨rfl, rfl⟩ ?_
          exact go_bret (w := (wZ h)) (pc := 93) C E q6 (b2i q6) q6 rfl dX10_standsInSpace_93 rfl
theorem dX10_wrongSpaceSign_0 : decode cX10_wrongSpaceSign 0 = .ok (.iconst 0, 1) := by decide +kernel
theorem dX10_wrongSpaceSign_1 : decode cX10_wrongSpaceSign 1 = .ok (.istore_n 2, 1) := by decide +kernel
theorem dX10_wrongSpaceSign_2 : decode cX10_wrongSpaceSign 2 = .ok (.iload_n 2, 1) := by decide +kernel
theorem dX10_wrongSpaceSign_3 : decode cX10_wrongSpaceSign 3 = .ok (.iload_n 1, 1) := by decide +kernel
theorem dX10_wrongSpaceSign_4 : decode cX10_wrongSpaceSign 4 = .ok (.if_icmp .ge 25, 3) := by decide +kernel
theorem dX10_wrongSpaceSign_7 : decode cX10_wrongSpaceSign 7 = .ok (.iload_n 2, 1) := by decide +kernel
theorem dX10_wrongSpaceSign_8 : decode cX10_wrongSpaceSign 8 = .ok (.bipush 18, 2) := by decide +kernel
theorem dX10_wrongSpaceSign_10 : decode cX10_wrongSpaceSign 10 = .ok (.if_icmp .ge 19, 3) := by decide +kernel
theorem dX10_wrongSpaceSign_13 : decode cX10_wrongSpaceSign 13 = .ok (.aload_n 0, 1) := by decide +kernel
theorem dX10_wrongSpaceSign_14 : decode cX10_wrongSpaceSign 14 = .ok (.iload_n 2, 1) := by decide +kernel
theorem dX10_wrongSpaceSign_15 : decode cX10_wrongSpaceSign 15 = .ok (.invokevirtual 411, 3) := by decide +kernel
theorem dX10_wrongSpaceSign_18 : decode cX10_wrongSpaceSign 18 = .ok (.ifCond .ne 5, 3) := by decide +kernel
theorem dX10_wrongSpaceSign_21 : decode cX10_wrongSpaceSign 21 = .ok (.iload_n 2, 1) := by decide +kernel
theorem dX10_wrongSpaceSign_22 : decode cX10_wrongSpaceSign 22 = .ok (.ireturn, 1) := by decide +kernel
theorem dX10_wrongSpaceSign_23 : decode cX10_wrongSpaceSign 23 = .ok (.iinc 2 1, 3) := by decide +kernel
theorem dX10_wrongSpaceSign_26 : decode cX10_wrongSpaceSign 26 = .ok (.goto (-24), 3) := by decide +kernel
theorem dX10_wrongSpaceSign_29 : decode cX10_wrongSpaceSign 29 = .ok (.iload_n 1, 1) := by decide +kernel
theorem dX10_wrongSpaceSign_30 : decode cX10_wrongSpaceSign 30 = .ok (.bipush 18, 2) := by decide +kernel
theorem dX10_wrongSpaceSign_32 : decode cX10_wrongSpaceSign 32 = .ok (.if_icmp .le 6, 3) := by decide +kernel
theorem dX10_wrongSpaceSign_35 : decode cX10_wrongSpaceSign 35 = .ok (.bipush 18, 2) := by decide +kernel
theorem dX10_wrongSpaceSign_37 : decode cX10_wrongSpaceSign 37 = .ok (.ireturn, 1) := by decide +kernel
theorem dX10_wrongSpaceSign_38 : decode cX10_wrongSpaceSign 38 = .ok (.iload_n 1, 1) := by decide +kernel
theorem dX10_wrongSpaceSign_39 : decode cX10_wrongSpaceSign 39 = .ok (.iconst 2, 1) := by decide +kernel
theorem dX10_wrongSpaceSign_40 : decode cX10_wrongSpaceSign 40 = .ok (.if_icmp .lt 10, 3) := by decide +kernel
theorem dX10_wrongSpaceSign_43 : decode cX10_wrongSpaceSign 43 = .ok (.iload_n 1, 1) := by decide +kernel
theorem dX10_wrongSpaceSign_44 : decode cX10_wrongSpaceSign 44 = .ok (.iconst 2, 1) := by decide +kernel
theorem dX10_wrongSpaceSign_45 : decode cX10_wrongSpaceSign 45 = .ok (.irem, 1) := by decide +kernel
theorem dX10_wrongSpaceSign_46 : decode cX10_wrongSpaceSign 46 = .ok (.iconst 1, 1) := by decide +kernel
theorem dX10_wrongSpaceSign_47 : decode cX10_wrongSpaceSign 47 = .ok (.if_icmp .ne 7, 3) := by decide +kernel
theorem dX10_wrongSpaceSign_50 : decode cX10_wrongSpaceSign 50 = .ok (.iload_n 1, 1) := by decide +kernel
theorem dX10_wrongSpaceSign_51 : decode cX10_wrongSpaceSign 51 = .ok (.goto 4, 3) := by decide +kernel
theorem dX10_wrongSpaceSign_54 : decode cX10_wrongSpaceSign 54 = .ok (.iconst (-1), 1) := by decide +kernel
theorem dX10_wrongSpaceSign_55 : decode cX10_wrongSpaceSign 55 = .ok (.ireturn, 1) := by decide +kernel
def fX10_wrongSpaceSign_L2 (h : AH) (k29 : Int32 → Option (Int32)) : Nat → Nat → Int32 → Int32 → Option (Int32)
  | 0, _, _, _ => none
  | n + 1, v0, v1, v2 =>
    if v1 ≤ v2 then (
      k29 v1
    ) else (
      if 18 ≤ v2 then (
        k29 v1
      ) else (
        (fX10_standsInSpace h v0 v2).bind fun q1 =>
        if q1 = true then (
          letF (v2 + 1 : Int32) fun x2 =>
          fX10_wrongSpaceSign_L2 h k29 n v0 v1 x2
        ) else (
          some v2
        )
      )
    )
def fX10_wrongSpaceSign_J29 (h : AH) (v1 : Int32) : Option (Int32) :=
    if v1 ≤ 18 then (
      if v1 < 2 then (
        some v1
      ) else (
        (jrem v1 2).bind fun x3 =>
        if x3 = 1 then (
          some v1
        ) else (
          some ((-1))
        )
      )
    ) else (
      some 18
    )
def fX10_wrongSpaceSign (h : AH) (a0 : Nat) (a1 : Int32) : Option (Int32) :=
  if hasC h 10 a0 = true then (
    fX10_wrongSpaceSign_L2 h
      (fun x4 =>
        fX10_wrongSpaceSign_J29 h x4)
      FU a0 a1 0
  ) else none
set_option maxHeartbeats 4000000 in
theorem gX10_wrongSpaceSign_L2 {Y : YT} {X : XT} (C : CT Y X RX10 cX10_wrongSpaceSign 3) (O : RO X 3 0 0) {h : AH} {r : Int32} (E : RX Y X (some .int) (some (.int r)) h 0 0) {k29 : Int32 → Option (Int32)} (hk29 : ∀ (v1 : Int32), GO Y X 3 r h 0 0 29 [(1, .int v1)] [] (k29 v1)) : ∀ (n : Nat) (v0 : Nat) (v1 : Int32) (v2 : Int32), GO Y X 3 r h 0 0 2 [(0, .ref v0), (1, .int v1), (2, .int v2)] [] (fX10_wrongSpaceSign_L2 h k29 n v0 v1 v2) := by
  intro n
  induction n with
  | zero => intros; exact go_none _ _ _
  | succ n ih =>
    intro v0 v1 v2
    rw [fX10_wrongSpaceSign_L2]
    refine go_iload_n (pc := 2) C 2 dX10_wrongSpaceSign_2 rfl ?_
    refine go_iload_n (pc := 3) C 1 dX10_wrongSpaceSign_3 rfl ?_
    refine go_icmp_ge (pc := 4) C 29 dX10_wrongSpaceSign_4 (by decide) (fun _ => ?_) (fun _ => ?_)
    · refine go_sub (ls' := [(1, .int v1)]) [1] rfl ?_
      exact hk29 v1
    · refine go_iload_n (pc := 7) C 2 dX10_wrongSpaceSign_7 rfl ?_
      refine go_bipush (pc := 8) C dX10_wrongSpaceSign_8 kb_18 ?_
      refine go_icmp_ge (pc := 10) C 29 dX10_wrongSpaceSign_10 (by decide) (fun _ => ?_) (fun _ => ?_)
      · refine go_sub (ls' := [(1, .int v1)]) [1] rfl ?_
        exact hk29 v1
      · refine go_aload_n (pc := 13) C 0 dX10_wrongSpaceSign_13 rfl ?_
        refine go_iload_n (pc := 14) C 2 dX10_wrongSpaceSign_14 rfl ?_
        refine go_bind (fun q1 hq1 => ?_)
        refine go_callV (rest := []) (st' := [.int (b2i q1)]) (c' := 0) (s' := 0) (pc := 15) C O miX10_411 mvX10_standsInSpace [.int v2] rfl (mX10_standsInSpace hq1).1 (mX10_standsInSpace hq1).2 dX10_wrongSpaceSign_15 ⟨by decide, by decide, by decide, by decide⟩ rfl (Nat.le_of_ble_eq_true rfl) rfl ⟨rfl, rfl⟩ ?_
        refine go_ifZ_ne (pc := 18) C 23 dX10_wrongSpaceSign_18 (by decide) (fun _ => ?_) (fun _ => ?_)
        · refine go_iincL (pc := 23) C 2 dX10_wrongSpaceSign_23 rfl ki_1 (by decide) (fun x2 => [(2, .int x2), (0, .ref v0), (1, .int v1)]) (fun _ => rfl) (fun x2 => ?_)
          refine go_goto (pc := 26) C 2 dX10_wrongSpaceSign_26 (by decide) ?_
          refine go_sub (ls' := [(0, .ref v0), (1, .int v1), (2, .int x2)]) [1, 2, 0] rfl ?_
          exact ih v0 v1 x2
        · refine go_iload_n (pc := 21) C 2 dX10_wrongSpaceSign_21 rfl ?_
          exact go_iret (w := (wI h)) (pc := 22) C E v2 v2 dX10_wrongSpaceSign_22 rfl
set_option maxHeartbeats 4000000 in
theorem gX10_wrongSpaceSign_J29 {Y : YT} {X : XT} (C : CT Y X RX10 cX10_wrongSpaceSign 3) (O : RO X 3 0 0) {h : AH} {r : Int32} (E : RX Y X (some .int) (some (.int r)) h 0 0) : ∀ (v1 : Int32), GO Y X 3 r h 0 0 29 [(1, .int v1)] [] (fX10_wrongSpaceSign_J29 h v1) := by
  intro v1
  unfold fX10_wrongSpaceSign_J29
  refine go_iload_n (pc := 29) C 0 dX10_wrongSpaceSign_29 rfl ?_
  refine go_bipush (pc := 30) C dX10_wrongSpaceSign_30 kb_18 ?_
  refine go_icmp_le (pc := 32) C 38 dX10_wrongSpaceSign_32 (by decide) (fun _ => ?_) (fun _ => ?_)
  · refine go_iload_n (pc := 38) C 0 dX10_wrongSpaceSign_38 rfl ?_
    refine go_iconst (pc := 39) C dX10_wrongSpaceSign_39 ki_2 ?_
    refine go_icmp_lt (pc := 40) C 50 dX10_wrongSpaceSign_40 (by decide) (fun _ => ?_) (fun _ => ?_)
    · refine go_iload_n (pc := 50) C 0 dX10_wrongSpaceSign_50 rfl ?_
      refine go_goto (pc := 51) C 55 dX10_wrongSpaceSign_51 (by decide) ?_
      exact go_iret (w := (wI h)) (pc := 55) C E v1 v1 dX10_wrongSpaceSign_55 rfl
    · refine go_iload_n (pc := 43) C 0 dX10_wrongSpaceSign_43 rfl ?_
      refine go_iconst (pc := 44) C dX10_wrongSpaceSign_44 ki_2 ?_
      refine go_irem (pc := 45) C dX10_wrongSpaceSign_45 (fun x3 => ?_)
      refine go_iconst (pc := 46) C dX10_wrongSpaceSign_46 ki_1 ?_
      refine go_icmp_ne (pc := 47) C 54 dX10_wrongSpaceSign_47 (by decide) (fun _ => ?_) (fun _ => ?_)
      · refine go_iload_n (pc := 50) C 0 dX10_wrongSpaceSign_50 rfl ?_
        refine go_goto (pc := 51) C 55 dX10_wrongSpaceSign_51 (by decide) ?_
        exact go_iret (w := (wI h)) (pc := 55) C E v1 v1 dX10_wrongSpaceSign_55 rfl
      · refine go_iconst (pc := 54) C dX10_wrongSpaceSign_54 ki_m1 ?_
        exact go_iret (w := (wI h)) (pc := 55) C E ((-1)) ((-1)) dX10_wrongSpaceSign_55 rfl
  · refine go_bipush (pc := 35) C dX10_wrongSpaceSign_35 kb_18 ?_
    exact go_iret (w := (wI h)) (pc := 37) C E 18 18 dX10_wrongSpaceSign_37 rfl
set_option maxHeartbeats 4000000 in
theorem mX10_wrongSpaceSign {h : AH} {a0 : Nat} {a1 : Int32} {r : Int32} (hr : fX10_wrongSpaceSign h a0 a1 = some r) : hasC h 10 a0 = true ∧ MC yX10_wrongSpaceSign cX10_wrongSpaceSign 3 (some .int) 3 0 0 [.ref a0, .int a1] h (some (.int r)) h := by
  unfold fX10_wrongSpaceSign at hr
  obtain ⟨hc, hr⟩ := if_some hr
  refine ⟨hc, mc_of (l0 := [(0, .ref a0), (1, .int a1)]) rfl pn_X10 (Nat.le_of_ble_eq_true rfl) (fun Y X C E O hnm => go_run hr ?_)⟩
  have C : CT Y X RX10 cX10_wrongSpaceSign 3 := C
  refine go_iconst (pc := 0) C dX10_wrongSpaceSign_0 ki_0 ?_
  refine go_istore_n (ls' := [(2, .int 0), (0, .ref a0), (1, .int a1)]) (pc := 1) C dX10_wrongSpaceSign_1 (by decide) rfl ?_
  refine go_sub (ls' := [(0, .ref a0), (1, .int a1), (2, .int 0)]) [1, 2, 0] rfl ?_
  refine gX10_wrongSpaceSign_L2 C O E (fun x4 => ?_) FU a0 a1 0
  · refine go_sub (ls' := [(1, .int x4)]) [0] rfl ?_
    refine gX10_wrongSpaceSign_J29 C O E x4
theorem dX10_toldPages_0 : decode cX10_toldPages 0 = .ok (.iconst 0, 1) := by decide +kernel
theorem dX10_toldPages_1 : decode cX10_toldPages 1 = .ok (.istore_n 2, 1) := by decide +kernel
theorem dX10_toldPages_2 : decode cX10_toldPages 2 = .ok (.iconst 2, 1) := by decide +kernel
theorem dX10_toldPages_3 : decode cX10_toldPages 3 = .ok (.istore_n 3, 1) := by decide +kernel
theorem dX10_toldPages_4 : decode cX10_toldPages 4 = .ok (.iload_n 3, 1) := by decide +kernel
theorem dX10_toldPages_5 : decode cX10_toldPages 5 = .ok (.iconst 1, 1) := by decide +kernel
theorem dX10_toldPages_6 : decode cX10_toldPages 6 = .ok (.iadd, 1) := by decide +kernel
theorem dX10_toldPages_7 : decode cX10_toldPages 7 = .ok (.iload_n 1, 1) := by decide +kernel
theorem dX10_toldPages_8 : decode cX10_toldPages 8 = .ok (.if_icmp .ge 27, 3) := by decide +kernel
theorem dX10_toldPages_11 : decode cX10_toldPages 11 = .ok (.iload_n 2, 1) := by decide +kernel
theorem dX10_toldPages_12 : decode cX10_toldPages 12 = .ok (.aload_n 0, 1) := by decide +kernel
theorem dX10_toldPages_13 : decode cX10_toldPages 13 = .ok (.iload_n 3, 1) := by decide +kernel
theorem dX10_toldPages_14 : decode cX10_toldPages 14 = .ok (.invokevirtual 113, 3) := by decide +kernel
theorem dX10_toldPages_17 : decode cX10_toldPages 17 = .ok (.bipush 46, 2) := by decide +kernel
theorem dX10_toldPages_19 : decode cX10_toldPages 19 = .ok (.if_icmp .ne 7, 3) := by decide +kernel
theorem dX10_toldPages_22 : decode cX10_toldPages 22 = .ok (.iconst 0, 1) := by decide +kernel
theorem dX10_toldPages_23 : decode cX10_toldPages 23 = .ok (.goto 4, 3) := by decide +kernel
theorem dX10_toldPages_26 : decode cX10_toldPages 26 = .ok (.iconst 1, 1) := by decide +kernel
theorem dX10_toldPages_27 : decode cX10_toldPages 27 = .ok (.iadd, 1) := by decide +kernel
theorem dX10_toldPages_28 : decode cX10_toldPages 28 = .ok (.istore_n 2, 1) := by decide +kernel
theorem dX10_toldPages_29 : decode cX10_toldPages 29 = .ok (.iinc 3 2, 3) := by decide +kernel
theorem dX10_toldPages_32 : decode cX10_toldPages 32 = .ok (.goto (-28), 3) := by decide +kernel
theorem dX10_toldPages_35 : decode cX10_toldPages 35 = .ok (.iload_n 2, 1) := by decide +kernel
theorem dX10_toldPages_36 : decode cX10_toldPages 36 = .ok (.ireturn, 1) := by decide +kernel
def fX10_toldPages_J27 (h : AH) (k4 : Nat → Int32 → Int32 → Int32 → Option (Int32)) (v0 : Nat) (v1 : Int32) (v3 : Int32) (s0 : Int32) (s1 : Int32) : Option (Int32) :=
    letF (s1 + s0 : Int32) fun x1 =>
    letF (v3 + 2 : Int32) fun x2 =>
    k4 v0 v1 x1 x2
def fX10_toldPages_L4 (h : AH) : Nat → Nat → Int32 → Int32 → Int32 → Option (Int32)
  | 0, _, _, _, _ => none
  | n + 1, v0, v1, v2, v3 =>
    if v1 ≤ (v3 + 1) then (
      some v2
    ) else (
      (fX10_signAt h v0 v3).bind fun q3 =>
      if q3 = 46 then (
        fX10_toldPages_J27 h (fX10_toldPages_L4 h n) v0 v1 v3 0 v2
      ) else (
        fX10_toldPages_J27 h (fX10_toldPages_L4 h n) v0 v1 v3 1 v2
      )
    )
def fX10_toldPages (h : AH) (a0 : Nat) (a1 : Int32) : Option (Int32) :=
  if hasC h 10 a0 = true then (
    fX10_toldPages_L4 h FU a0 a1 0 2
  ) else none
set_option maxHeartbeats 4000000 in
theorem gX10_toldPages_J27 {Y : YT} {X : XT} (C : CT Y X RX10 cX10_toldPages 4) (O : RO X 2 0 0) {h : AH} {r : Int32} (E : RX Y X (some .int) (some (.int r)) h 0 0) {k4 : Nat → Int32 → Int32 → Int32 → Option (Int32)} (hk4 : ∀ (v0 : Nat) (v1 : Int32) (v2 : Int32) (v3 : Int32), GO Y X 4 r h 0 0 4 [(0, .ref v0), (1, .int v1), (2, .int v2), (3, .int v3)] [] (k4 v0 v1 v2 v3)) : ∀ (v0 : Nat) (v1 : Int32) (v3 : Int32) (s0 : Int32) (s1 : Int32), GO Y X 4 r h 0 0 27 [(0, .ref v0), (1, .int v1), (3, .int v3)] [.int s0, .int s1] (fX10_toldPages_J27 h k4 v0 v1 v3 s0 s1) := by
  intro v0 v1 v3 s0 s1
  unfold fX10_toldPages_J27
  refine go_iadd (pc := 27) C dX10_toldPages_27 ?_
  refine go_istore_nL (pc := 28) C dX10_toldPages_28 (by decide) (fun x1 => [(2, .int x1), (0, .ref v0), (1, .int v1), (3, .int v3)]) (fun _ => rfl) (fun x1 => ?_)
  refine go_iincL (pc := 29) C 3 dX10_toldPages_29 rfl ki_2 (by decide) (fun x2 => [(3, .int x2), (2, .int x1), (0, .ref v0), (1, .int v1)]) (fun _ => rfl) (fun x2 => ?_)
  refine go_goto (pc := 32) C 4 dX10_toldPages_32 (by decide) ?_
  refine go_sub (ls' := [(0, .ref v0), (1, .int v1), (2, .int x1), (3, .int x2)]) [2, 3, 1, 0] rfl ?_
  exact hk4 v0 v1 x1 x2
set_option maxHeartbeats 4000000 in
theorem gX10_toldPages_L4 {Y : YT} {X : XT} (C : CT Y X RX10 cX10_toldPages 4) (O : RO X 2 0 0) {h : AH} {r : Int32} (E : RX Y X (some .int) (some (.int r)) h 0 0) : ∀ (n : Nat) (v0 : Nat) (v1 : Int32) (v2 : Int32) (v3 : Int32), GO Y X 4 r h 0 0 4 [(0, .ref v0), (1, .int v1), (2, .int v2), (3, .int v3)] [] (fX10_toldPages_L4 h n v0 v1 v2 v3) := by
  intro n
  induction n with
  | zero => intros; exact go_none _ _ _
  | succ n ih =>
    intro v0 v1 v2 v3
    rw [fX10_toldPages_L4]
    refine go_iload_n (pc := 4) C 3 dX10_toldPages_4 rfl ?_
    refine go_iconst (pc := 5) C dX10_toldPages_5 ki_1 ?_
    refine go_iadd (pc := 6) C dX10_toldPages_6 ?_
    refine go_iload_n (pc := 7) C 1 dX10_toldPages_7 rfl ?_
    refine go_icmp_ge (pc := 8) C 35 dX10_toldPages_8 (by decide) (fun _ => ?_) (fun _ => ?_)
    · refine go_iload_n (pc := 35) C 2 dX10_toldPages_35 rfl ?_
      exact go_iret (w := (wI h)) (pc := 36) C E v2 v2 dX10_toldPages_36 rfl
    · refine go_iload_n (pc := 11) C 2 dX10_toldPages_11 rfl ?_
      refine go_aload_n (pc := 12) C 0 dX10_toldPages_12 rfl ?_
      refine go_iload_n (pc := 13) C 3 dX10_toldPages_13 rfl ?_
      refine go_bind (fun q3 hq3 => ?_)
      refine go_callV (rest := [.int v2]) (st' := [.int q3, .int v2]) (c' := 0) (s' := 0) (pc := 14) C O miX10_113 mvX10_signAt [.int v3] rfl (mX10_signAt hq3).1 (mX10_signAt hq3).2 dX10_toldPages_14 ⟨by decide, by decide, by decide, by decide⟩ rfl (Nat.le_of_ble_eq_true rfl) rfl ⟨rfl, rfl⟩ ?_
      refine go_bipush (pc := 17) C dX10_toldPages_17 kb_46 ?_
      refine go_icmp_ne (pc := 19) C 26 dX10_toldPages_19 (by decide) (fun _ => ?_) (fun _ => ?_)
      · refine go_iconst (pc := 22) C dX10_toldPages_22 ki_0 ?_
        refine go_goto (pc := 23) C 27 dX10_toldPages_23 (by decide) ?_
        refine go_sub (ls' := [(0, .ref v0), (1, .int v1), (3, .int v3)]) [0, 1, 3] rfl ?_
        refine gX10_toldPages_J27 C O E (ih) v0 v1 v3 0 v2
      · refine go_iconst (pc := 26) C dX10_toldPages_26 ki_1 ?_
        refine go_sub (ls' := [(0, .ref v0), (1, .int v1), (3, .int v3)]) [0, 1, 3] rfl ?_
        refine gX10_toldPages_J27 C O E (ih) v0 v1 v3 1 v2
set_option maxHeartbeats 4000000 in
theorem mX10_toldPages {h : AH} {a0 : Nat} {a1 : Int32} {r : Int32} (hr : fX10_toldPages h a0 a1 = some r) : hasC h 10 a0 = true ∧ MC yX10_toldPages cX10_toldPages 4 (some .int) 2 0 0 [.ref a0, .int a1] h (some (.int r)) h := by
  unfold fX10_toldPages at hr
  obtain ⟨hc, hr⟩ := if_some hr
  refine ⟨hc, mc_of (l0 := [(0, .ref a0), (1, .int a1)]) rfl pn_X10 (Nat.le_of_ble_eq_true rfl) (fun Y X C E O hnm => go_run hr ?_)⟩
  have C : CT Y X RX10 cX10_toldPages 4 := C
  refine go_iconst (pc := 0) C dX10_toldPages_0 ki_0 ?_
  refine go_istore_n (ls' := [(2, .int 0), (0, .ref a0), (1, .int a1)]) (pc := 1) C dX10_toldPages_1 (by decide) rfl ?_
  refine go_iconst (pc := 2) C dX10_toldPages_2 ki_2 ?_
  refine go_istore_n (ls' := [(3, .int 2), (2, .int 0), (0, .ref a0), (1, .int a1)]) (pc := 3) C dX10_toldPages_3 (by decide) rfl ?_
  refine go_sub (ls' := [(0, .ref a0), (1, .int a1), (2, .int 0), (3, .int 2)]) [2, 3, 1, 0] rfl ?_
  refine gX10_toldPages_L4 C O E FU a0 a1 0 2
theorem dX10_digitAt_0 : decode cX10_digitAt 0 = .ok (.aload_n 0, 1) := by decide +kernel
theorem dX10_digitAt_1 : decode cX10_digitAt 1 = .ok (.iload_n 1, 1) := by decide +kernel
theorem dX10_digitAt_2 : decode cX10_digitAt 2 = .ok (.invokevirtual 113, 3) := by decide +kernel
theorem dX10_digitAt_5 : decode cX10_digitAt 5 = .ok (.bipush 48, 2) := by decide +kernel
theorem dX10_digitAt_7 : decode cX10_digitAt 7 = .ok (.isub, 1) := by decide +kernel
theorem dX10_digitAt_8 : decode cX10_digitAt 8 = .ok (.ireturn, 1) := by decide +kernel
def fX10_digitAt (h : AH) (a0 : Nat) (a1 : Int32) : Option (Int32) :=
  if hasC h 10 a0 = true then (
    (fX10_signAt h a0 a1).bind fun q1 =>
    some (q1 - 48)
  ) else none
set_option maxHeartbeats 4000000 in
theorem mX10_digitAt {h : AH} {a0 : Nat} {a1 : Int32} {r : Int32} (hr : fX10_digitAt h a0 a1 = some r) : hasC h 10 a0 = true ∧ MC yX10_digitAt cX10_digitAt 2 (some .int) 2 0 0 [.ref a0, .int a1] h (some (.int r)) h := by
  unfold fX10_digitAt at hr
  obtain ⟨hc, hr⟩ := if_some hr
  refine ⟨hc, mc_of (l0 := [(0, .ref a0), (1, .int a1)]) rfl pn_X10 (Nat.le_of_ble_eq_true rfl) (fun Y X C E O hnm => go_run hr ?_)⟩
  have C : CT Y X RX10 cX10_digitAt 2 := C
  refine go_aload_n (pc := 0) C 0 dX10_digitAt_0 rfl ?_
  refine go_iload_n (pc := 1) C 1 dX10_digitAt_1 rfl ?_
  refine go_bind (fun q1 hq1 => ?_)
  refine go_callV (rest := []) (st' := [.int q1]) (c' := 0) (s' := 0) (pc := 2) C O miX10_113 mvX10_signAt [.int a1] rfl (mX10_signAt hq1).1 (mX10_signAt hq1).2 dX10_digitAt_2 ⟨by decide, by decide, by decide, by decide⟩ rfl (Nat.le_of_ble_eq_true rfl) rfl ⟨rfl, rfl⟩ ?_
  refine go_bipush (pc := 5) C dX10_digitAt_5 kb_48 ?_
  refine go_isub (pc := 7) C dX10_digitAt_7 ?_
  exact go_iret (w := (wI h)) (pc := 8) C E (q1 - 48) (q1 - 48) dX10_digitAt_8 rfl
theorem dX10_numberAt_0 : decode cX10_numberAt 0 = .ok (.bipush 10, 2) := by decide +kernel
theorem dX10_numberAt_2 : decode cX10_numberAt 2 = .ok (.aload_n 0, 1) := by decide +kernel
theorem dX10_numberAt_3 : decode cX10_numberAt 3 = .ok (.iload_n 1, 1) := by decide +kernel
theorem dX10_numberAt_4 : decode cX10_numberAt 4 = .ok (.invokevirtual 106, 3) := by decide +kernel
theorem dX10_numberAt_7 : decode cX10_numberAt 7 = .ok (.imul, 1) := by decide +kernel
theorem dX10_numberAt_8 : decode cX10_numberAt 8 = .ok (.aload_n 0, 1) := by decide +kernel
theorem dX10_numberAt_9 : decode cX10_numberAt 9 = .ok (.iload_n 1, 1) := by decide +kernel
theorem dX10_numberAt_10 : decode cX10_numberAt 10 = .ok (.iconst 1, 1) := by decide +kernel
theorem dX10_numberAt_11 : decode cX10_numberAt 11 = .ok (.iadd, 1) := by decide +kernel
theorem dX10_numberAt_12 : decode cX10_numberAt 12 = .ok (.invokevirtual 106, 3) := by decide +kernel
theorem dX10_numberAt_15 : decode cX10_numberAt 15 = .ok (.iadd, 1) := by decide +kernel
theorem dX10_numberAt_16 : decode cX10_numberAt 16 = .ok (.ireturn, 1) := by decide +kernel
def fX10_numberAt (h : AH) (a0 : Nat) (a1 : Int32) : Option (Int32) :=
  if hasC h 10 a0 = true then (
    (fX10_digitAt h a0 a1).bind fun q1 =>
    (fX10_digitAt h a0 (a1 + 1)).bind fun q2 =>
    some ((10 * q1) + q2)
  ) else none
set_option maxHeartbeats 4000000 in
theorem mX10_numberAt {h : AH} {a0 : Nat} {a1 : Int32} {r : Int32} (hr : fX10_numberAt h a0 a1 = some r) : hasC h 10 a0 = true ∧ MC yX10_numberAt cX10_numberAt 2 (some .int) 3 0 0 [.ref a0, .int a1] h (some (.int r)) h := by
  unfold fX10_numberAt at hr
  obtain ⟨hc, hr⟩ := if_some hr
  refine ⟨hc, mc_of (l0 := [(0, .ref a0), (1, .int a1)]) rfl pn_X10 (Nat.le_of_ble_eq_true rfl) (fun Y X C E O hnm => go_run hr ?_)⟩
  have C : CT Y X RX10 cX10_numberAt 2 := C
  refine go_bipush (pc := 0) C dX10_numberAt_0 kb_10 ?_
  refine go_aload_n (pc := 2) C 0 dX10_numberAt_2 rfl ?_
  refine go_iload_n (pc := 3) C 1 dX10_numberAt_3 rfl ?_
  refine go_bind (fun q1 hq1 => ?_)
  refine go_callV (rest := [.int 10]) (st' := [.int q1, .int 10]) (c' := 0) (s' := 0) (pc := 4) C O miX10_106 mvX10_digitAt [.int a1] rfl (mX10_digitAt hq1).1 (mX10_digitAt hq1).2 dX10_numberAt_4 ⟨by decide, by decide, by decide, by decide⟩ rfl (Nat.le_of_ble_eq_true rfl) rfl ⟨rfl, rfl⟩ ?_
  refine go_imul (pc := 7) C dX10_numberAt_7 ?_
  refine go_aload_n (pc := 8) C 0 dX10_numberAt_8 rfl ?_
  refine go_iload_n (pc := 9) C 1 dX10_numberAt_9 rfl ?_
  refine go_iconst (pc := 10) C dX10_numberAt_10 ki_1 ?_
  refine go_iadd (pc := 11) C dX10_numberAt_11 ?_
  refine go_bind (fun q2 hq2 => ?_)
  refine go_callV (rest := [.int (10 * q1)]) (st' := [.int q2, .int (10 * q1)]) (c' := 0) (s' := 0) (pc := 12) C O miX10_106 mvX10_digitAt [.int (a1 + 1)] rfl (mX10_digitAt hq2).1 (mX10_digitAt hq2).2 dX10_numberAt_12 ⟨by decide, by decide, by decide, by decide⟩ rfl (Nat.le_of_ble_eq_true rfl) rfl ⟨rfl, rfl⟩ ?_
  refine go_iadd (pc := 15) C dX10_numberAt_15 ?_
  exact go_iret (w := (wI h)) (pc := 16) C E ((10 * q1) + q2) ((10 * q1) + q2) dX10_numberAt_16 rfl
theorem dX10_spaces_0 : decode cX10_spaces 0 = .ok (.aload_n 0, 1) := by decide +kernel
theorem dX10_spaces_1 : decode cX10_spaces 1 = .ok (.invokevirtual 82, 3) := by decide +kernel
theorem dX10_spaces_4 : decode cX10_spaces 4 = .ok (.istore_n 1, 1) := by decide +kernel
theorem dX10_spaces_5 : decode cX10_spaces 5 = .ok (.aload_n 0, 1) := by decide +kernel
theorem dX10_spaces_6 : decode cX10_spaces 6 = .ok (.iload_n 1, 1) := by decide +kernel
theorem dX10_spaces_7 : decode cX10_spaces 7 = .ok (.invokevirtual 86, 3) := by decide +kernel
theorem dX10_spaces_10 : decode cX10_spaces 10 = .ok (.istore_n 2, 1) := by decide +kernel
theorem dX10_spaces_11 : decode cX10_spaces 11 = .ok (.iload_n 2, 1) := by decide +kernel
theorem dX10_spaces_12 : decode cX10_spaces 12 = .ok (.iconst (-1), 1) := by decide +kernel
theorem dX10_spaces_13 : decode cX10_spaces 13 = .ok (.if_icmp .eq 7, 3) := by decide +kernel
theorem dX10_spaces_16 : decode cX10_spaces 16 = .ok (.iconst (-1), 1) := by decide +kernel
theorem dX10_spaces_17 : decode cX10_spaces 17 = .ok (.iload_n 2, 1) := by decide +kernel
theorem dX10_spaces_18 : decode cX10_spaces 18 = .ok (.isub, 1) := by decide +kernel
theorem dX10_spaces_19 : decode cX10_spaces 19 = .ok (.ireturn, 1) := by decide +kernel
theorem dX10_spaces_20 : decode cX10_spaces 20 = .ok (.aload_n 0, 1) := by decide +kernel
theorem dX10_spaces_21 : decode cX10_spaces 21 = .ok (.getfield 16, 3) := by decide +kernel
theorem dX10_spaces_24 : decode cX10_spaces 24 = .ok (.invokevirtual 90, 3) := by decide +kernel
theorem dX10_spaces_27 : decode cX10_spaces 27 = .ok (.bipush 6, 2) := by decide +kernel
theorem dX10_spaces_29 : decode cX10_spaces 29 = .ok (.if_icmp .ne 6, 3) := by decide +kernel
theorem dX10_spaces_32 : decode cX10_spaces 32 = .ok (.bipush (-100), 2) := by decide +kernel
theorem dX10_spaces_34 : decode cX10_spaces 34 = .ok (.ireturn, 1) := by decide +kernel
theorem dX10_spaces_35 : decode cX10_spaces 35 = .ok (.aload_n 0, 1) := by decide +kernel
theorem dX10_spaces_36 : decode cX10_spaces 36 = .ok (.getfield 16, 3) := by decide +kernel
theorem dX10_spaces_39 : decode cX10_spaces 39 = .ok (.invokevirtual 93, 3) := by decide +kernel
theorem dX10_spaces_42 : decode cX10_spaces 42 = .ok (.bipush 24, 2) := by decide +kernel
theorem dX10_spaces_44 : decode cX10_spaces 44 = .ok (.if_icmp .ne 6, 3) := by decide +kernel
theorem dX10_spaces_47 : decode cX10_spaces 47 = .ok (.bipush (-101), 2) := by decide +kernel
theorem dX10_spaces_49 : decode cX10_spaces 49 = .ok (.ireturn, 1) := by decide +kernel
theorem dX10_spaces_50 : decode cX10_spaces 50 = .ok (.aload_n 0, 1) := by decide +kernel
theorem dX10_spaces_51 : decode cX10_spaces 51 = .ok (.getfield 16, 3) := by decide +kernel
theorem dX10_spaces_54 : decode cX10_spaces 54 = .ok (.invokevirtual 96, 3) := by decide +kernel
theorem dX10_spaces_57 : decode cX10_spaces 57 = .ok (.aload_n 0, 1) := by decide +kernel
theorem dX10_spaces_58 : decode cX10_spaces 58 = .ok (.iload_n 1, 1) := by decide +kernel
theorem dX10_spaces_59 : decode cX10_spaces 59 = .ok (.invokevirtual 99, 3) := by decide +kernel
theorem dX10_spaces_62 : decode cX10_spaces 62 = .ok (.iadd, 1) := by decide +kernel
theorem dX10_spaces_63 : decode cX10_spaces 63 = .ok (.bipush 64, 2) := by decide +kernel
theorem dX10_spaces_65 : decode cX10_spaces 65 = .ok (.if_icmp .le 6, 3) := by decide +kernel
theorem dX10_spaces_68 : decode cX10_spaces 68 = .ok (.bipush (-102), 2) := by decide +kernel
theorem dX10_spaces_70 : decode cX10_spaces 70 = .ok (.ireturn, 1) := by decide +kernel
theorem dX10_spaces_71 : decode cX10_spaces 71 = .ok (.aload_n 0, 1) := by decide +kernel
theorem dX10_spaces_72 : decode cX10_spaces 72 = .ok (.getfield 26, 3) := by decide +kernel
theorem dX10_spaces_75 : decode cX10_spaces 75 = .ok (.aload_n 0, 1) := by decide +kernel
theorem dX10_spaces_76 : decode cX10_spaces 76 = .ok (.getfield 16, 3) := by decide +kernel
theorem dX10_spaces_79 : decode cX10_spaces 79 = .ok (.invokevirtual 102, 3) := by decide +kernel
theorem dX10_spaces_82 : decode cX10_spaces 82 = .ok (.aload_n 0, 1) := by decide +kernel
theorem dX10_spaces_83 : decode cX10_spaces 83 = .ok (.getfield 16, 3) := by decide +kernel
theorem dX10_spaces_86 : decode cX10_spaces 86 = .ok (.aload_n 0, 1) := by decide +kernel
theorem dX10_spaces_87 : decode cX10_spaces 87 = .ok (.iconst 0, 1) := by decide +kernel
theorem dX10_spaces_88 : decode cX10_spaces 88 = .ok (.invokevirtual 106, 3) := by decide +kernel
theorem dX10_spaces_91 : decode cX10_spaces 91 = .ok (.aload_n 0, 1) := by decide +kernel
theorem dX10_spaces_92 : decode cX10_spaces 92 = .ok (.iconst 1, 1) := by decide +kernel
theorem dX10_spaces_93 : decode cX10_spaces 93 = .ok (.invokevirtual 106, 3) := by decide +kernel
theorem dX10_spaces_96 : decode cX10_spaces 96 = .ok (.invokevirtual 109, 3) := by decide +kernel
theorem dX10_spaces_99 : decode cX10_spaces 99 = .ok (.istore_n 3, 1) := by decide +kernel
theorem dX10_spaces_100 : decode cX10_spaces 100 = .ok (.iconst 2, 1) := by decide +kernel
theorem dX10_spaces_101 : decode cX10_spaces 101 = .ok (.istore 4, 2) := by decide +kernel
theorem dX10_spaces_103 : decode cX10_spaces 103 = .ok (.iload 4, 2) := by decide +kernel
theorem dX10_spaces_105 : decode cX10_spaces 105 = .ok (.iconst 1, 1) := by decide +kernel
theorem dX10_spaces_106 : decode cX10_spaces 106 = .ok (.iadd, 1) := by decide +kernel
theorem dX10_spaces_107 : decode cX10_spaces 107 = .ok (.iload_n 1, 1) := by decide +kernel
theorem dX10_spaces_108 : decode cX10_spaces 108 = .ok (.if_icmp .ge 40, 3) := by decide +kernel
theorem dX10_spaces_111 : decode cX10_spaces 111 = .ok (.aload_n 0, 1) := by decide +kernel
theorem dX10_spaces_112 : decode cX10_spaces 112 = .ok (.iload 4, 2) := by decide +kernel
theorem dX10_spaces_114 : decode cX10_spaces 114 = .ok (.invokevirtual 113, 3) := by decide +kernel
theorem dX10_spaces_117 : decode cX10_spaces 117 = .ok (.bipush 46, 2) := by decide +kernel
theorem dX10_spaces_119 : decode cX10_spaces 119 = .ok (.if_icmp .eq 23, 3) := by decide +kernel
theorem dX10_spaces_122 : decode cX10_spaces 122 = .ok (.aload_n 0, 1) := by decide +kernel
theorem dX10_spaces_123 : decode cX10_spaces 123 = .ok (.getfield 16, 3) := by decide +kernel
theorem dX10_spaces_126 : decode cX10_spaces 126 = .ok (.iload_n 3, 1) := by decide +kernel
theorem dX10_spaces_127 : decode cX10_spaces 127 = .ok (.iload 4, 2) := by decide +kernel
theorem dX10_spaces_129 : decode cX10_spaces 129 = .ok (.iconst 2, 1) := by decide +kernel
theorem dX10_spaces_130 : decode cX10_spaces 130 = .ok (.idiv, 1) := by decide +kernel
theorem dX10_spaces_131 : decode cX10_spaces 131 = .ok (.iconst 1, 1) := by decide +kernel
theorem dX10_spaces_132 : decode cX10_spaces 132 = .ok (.isub, 1) := by decide +kernel
theorem dX10_spaces_133 : decode cX10_spaces 133 = .ok (.aload_n 0, 1) := by decide +kernel
theorem dX10_spaces_134 : decode cX10_spaces 134 = .ok (.iload 4, 2) := by decide +kernel
theorem dX10_spaces_136 : decode cX10_spaces 136 = .ok (.invokevirtual 117, 3) := by decide +kernel
theorem dX10_spaces_139 : decode cX10_spaces 139 = .ok (.invokevirtual 120, 3) := by decide +kernel
theorem dX10_spaces_142 : decode cX10_spaces 142 = .ok (.iinc 4 2, 3) := by decide +kernel
theorem dX10_spaces_145 : decode cX10_spaces 145 = .ok (.goto (-42), 3) := by decide +kernel
theorem dX10_spaces_148 : decode cX10_spaces 148 = .ok (.aload_n 0, 1) := by decide +kernel
theorem dX10_spaces_149 : decode cX10_spaces 149 = .ok (.getfield 26, 3) := by decide +kernel
theorem dX10_spaces_152 : decode cX10_spaces 152 = .ok (.invokevirtual 124, 3) := by decide +kernel
theorem dX10_spaces_155 : decode cX10_spaces 155 = .ok (.aload_n 0, 1) := by decide +kernel
theorem dX10_spaces_156 : decode cX10_spaces 156 = .ok (.getfield 16, 3) := by decide +kernel
theorem dX10_spaces_159 : decode cX10_spaces 159 = .ok (.iload_n 3, 1) := by decide +kernel
theorem dX10_spaces_160 : decode cX10_spaces 160 = .ok (.invokevirtual 127, 3) := by decide +kernel
theorem dX10_spaces_163 : decode cX10_spaces 163 = .ok (.ireturn, 1) := by decide +kernel
def fX10_spaces_L103 (k148 : AH → Nat → Int32 → Option (Int32 × AH)) : Nat → AH → Nat → Int32 → Int32 → Int32 → Option (Int32 × AH)
  | 0, _, _, _, _, _ => none
  | n + 1, h, v0, v1, v3, v4 =>
    if v1 ≤ (v4 + 1) then (
      k148 h v0 v3
    ) else (
      (fX10_signAt h v0 v4).bind fun q1 =>
      if q1 = 46 then (
        letF (v4 + 2 : Int32) fun x2 =>
        fX10_spaces_L103 k148 n h v0 v1 v3 x2
      ) else (
        (gR h 10 v0 2).bind fun x3 =>
        (jdiv v4 2).bind fun x4 =>
        (fX10_numberAt h v0 v4).bind fun q5 =>
        (fX9_hold h x3 v3 (x4 - 1) q5).bind fun q6 =>
        letF (v4 + 2 : Int32) fun x7 =>
        fX10_spaces_L103 k148 n q6 v0 v1 v3 x7
      )
    )
def fX10_spaces (h : AH) (a0 : Nat) : Option (Int32 × AH) :=
  if hasC h 10 a0 = true then (
    (fX10_takeText h a0).bind fun q8 =>
    (fX10_wrongSpaceSign q8.2 a0 q8.1).bind fun q9 =>
    if q9 = ((-1)) then (
      (gR q8.2 10 a0 2).bind fun x10 =>
      (fX9_spaceTotal q8.2 x10).bind fun q11 =>
      if q11 = 6 then (
        some (((-100), q8.2))
      ) else (
        (gR q8.2 10 a0 2).bind fun x12 =>
        (fX9_objectTotal q8.2 x12).bind fun q13 =>
        if q13 = 24 then (
          some (((-101), q8.2))
        ) else (
          (gR q8.2 10 a0 2).bind fun x14 =>
          (fX9_frameTotal q8.2 x14).bind fun q15 =>
          (fX10_toldPages q8.2 a0 q8.1).bind fun q16 =>
          if (q15 + q16) ≤ 64 then (
            (gR q8.2 10 a0 4).bind fun x17 =>
            (gR q8.2 10 a0 2).bind fun x18 =>
            (fX2_mark q8.2 x17 x18).bind fun q19 =>
            (gR q19 10 a0 2).bind fun x20 =>
            (fX10_digitAt q19 a0 0).bind fun q21 =>
            (fX10_digitAt q19 a0 1).bind fun q22 =>
            (fX9_comeObject q19 x20 q21 q22).bind fun q23 =>
            fX10_spaces_L103
              (fun h26 x24 x25 =>
                (gR h26 10 x24 4).bind fun x27 =>
                (fX2_keepMark h26 x27).bind fun q28 =>
                (gR q28 10 x24 2).bind fun x29 =>
                (fX9_comeSpace q28 x29 x25).bind fun q30 =>
                some ((q30.1, q30.2)))
              FU q23.2 a0 q8.1 q23.1 2
          ) else (
            some (((-102), q8.2))
          )
        )
      )
    ) else (
      some ((((-1)) - q9, q8.2))
    )
  ) else none
set_option maxHeartbeats 4000000 in
theorem gX10_spaces_L103 {Y : YT} {X : XT} (C : CT Y X RX10 cX10_spaces 5) (O : RO X 4 0 0) {r : Int32 × AH} (E : RX Y X (some .int) (some (.int r.1)) r.2 0 0) {k148 : AH → Nat → Int32 → Option (Int32 × AH)} (hk148 : ∀ (h : AH) (v0 : Nat) (v3 : Int32), GO Y X 5 r h 0 0 148 [(0, .ref v0), (3, .int v3)] [] (k148 h v0 v3)) : ∀ (n : Nat) (h : AH) (v0 : Nat) (v1 : Int32) (v3 : Int32) (v4 : Int32), GO Y X 5 r h 0 0 103 [(0, .ref v0), (1, .int v1), (3, .int v3), (4, .int v4)] [] (fX10_spaces_L103 k148 n h v0 v1 v3 v4) := by
  intro n
  induction n with
  | zero => intros; exact go_none _ _ _
  | succ n ih =>
    intro h v0 v1 v3 v4
    rw [fX10_spaces_L103]
    refine go_iload (pc := 103) C 3 dX10_spaces_103 rfl ?_
    refine go_iconst (pc := 105) C dX10_spaces_105 ki_1 ?_
    refine go_iadd (pc := 106) C dX10_spaces_106 ?_
    refine go_iload_n (pc := 107) C 1 dX10_spaces_107 rfl ?_
    refine go_icmp_ge (pc := 108) C 148 dX10_spaces_108 (by decide) (fun _ => ?_) (fun _ => ?_)
    · refine go_sub (ls' := [(0, .ref v0), (3, .int v3)]) [0, 2] rfl ?_
      exact hk148 h v0 v3
    · refine go_aload_n (pc := 111) C 0 dX10_spaces_111 rfl ?_
      refine go_iload (pc := 112) C 3 dX10_spaces_112 rfl ?_
      refine go_bind (fun q1 hq1 => ?_)
      refine go_callV (rest := []) (st' := [.int q1]) (c' := 0) (s' := 0) (pc := 114) C O miX10_113 mvX10_signAt [.int v4] rfl (mX10_signAt hq1).1 (mX10_signAt hq1).2 dX10_spaces_114 ⟨by decide, by decide, by decide, by decide⟩ rfl (Nat.le_of_ble_eq_true rfl) rfl ⟨rfl, rfl⟩ ?_
      refine go_bipush (pc := 117) C dX10_spaces_117 kb_46 ?_
      refine go_icmp_eq (pc := 119) C 142 dX10_spaces_119 (by decide) (fun _ => ?_) (fun _ => ?_)
      · refine go_iincL (pc := 142) C 3 dX10_spaces_142 rfl ki_2 (by decide) (fun x2 => [(4, .int x2), (0, .ref v0), (1, .int v1), (3, .int v3)]) (fun _ => rfl) (fun x2 => ?_)
        refine go_goto (pc := 145) C 103 dX10_spaces_145 (by decide) ?_
        refine go_sub (ls' := [(0, .ref v0), (1, .int v1), (3, .int v3), (4, .int x2)]) [1, 2, 3, 0] rfl ?_
        exact ih h v0 v1 v3 x2
      · refine go_aload_n (pc := 122) C 0 dX10_spaces_122 rfl ?_
        refine go_gR (pc := 123) C fdX10_16 dX10_spaces_123 (fun x3 => ?_)
        refine go_iload_n (pc := 126) C 2 dX10_spaces_126 rfl ?_
        refine go_iload (pc := 127) C 3 dX10_spaces_127 rfl ?_
        refine go_iconst (pc := 129) C dX10_spaces_129 ki_2 ?_
        refine go_idiv (pc := 130) C dX10_spaces_130 (fun x4 => ?_)
        refine go_iconst (pc := 131) C dX10_spaces_131 ki_1 ?_
        refine go_isub (pc := 132) C dX10_spaces_132 ?_
        refine go_aload_n (pc := 133) C 0 dX10_spaces_133 rfl ?_
        refine go_iload (pc := 134) C 3 dX10_spaces_134 rfl ?_
        refine go_bind (fun q5 hq5 => ?_)
        refine go_callV (rest := [.int (x4 - 1), .int v3, .ref x3]) (st' := [.int q5, .int (x4 - 1), .int v3, .ref x3]) (c' := 0) (s' := 0) (pc := 136) C O miX10_117 mvX10_numberAt [.int v4] rfl (mX10_numberAt hq5).1 (mX10_numberAt hq5).2 dX10_spaces_136 ⟨by decide, by decide, by decide, by decide⟩ rfl (Nat.le_of_ble_eq_true rfl) rfl ⟨rfl, rfl⟩ ?_
        refine go_bind (fun q6 hq6 => ?_)
        refine go_callV (rest := []) (st' := []) (c' := 0) (s' := 0) (pc := 139) C O miX10_120 mvX9_hold [.int v3, .int (x4 - 1), .int q5] rfl (mX9_hold hq6).1 (mX9_hold hq6).2 dX10_spaces_139 ⟨by decide, by decide, by decide, by decide⟩ rfl (Nat.le_of_ble_eq_true rfl) rfl ⟨rfl, rfl⟩ ?_
        refine go_iincL (pc := 142) C 3 dX10_spaces_142 rfl ki_2 (by decide) (fun x7 => [(4, .int x7), (0, .ref v0), (1, .int v1), (3, .int v3)]) (fun _ => rfl) (fun x7 => ?_)
        refine go_goto (pc := 145) C 103 dX10_spaces_145 (by decide) ?_
        refine go_sub (ls' := [(0, .ref v0), (1, .int v1), (3, .int v3), (4, .int x7)]) [1, 2, 3, 0] rfl ?_
        exact ih q6 v0 v1 v3 x7
set_option maxHeartbeats 4000000 in
theorem mX10_spaces {h : AH} {a0 : Nat} {r : Int32 × AH} (hr : fX10_spaces h a0 = some r) : hasC h 10 a0 = true ∧ MC yX10_spaces cX10_spaces 5 (some .int) 4 0 0 [.ref a0] h (some (.int r.1)) r.2 := by
  unfold fX10_spaces at hr
  obtain ⟨hc, hr⟩ := if_some hr
  refine ⟨hc, mc_of (l0 := [(0, .ref a0)]) rfl pn_X10 (Nat.le_of_ble_eq_true rfl) (fun Y X C E O hnm => go_run hr ?_)⟩
  have C : CT Y X RX10 cX10_spaces 5 := C
  refine go_aload_n (pc := 0) C 0 dX10_spaces_0 rfl ?_
  refine go_bind (fun q8 hq8 => ?_)
  refine go_callV (rest := []) (st' := [.int q8.1]) (c' := 0) (s' := 0) (pc := 1) C O miX10_82 mvX10_takeText [] rfl (mX10_takeText hq8).1 (mX10_takeText hq8).2 dX10_spaces_1 ⟨by decide, by decide, by decide, by decide⟩ rfl (Nat.le_of_ble_eq_true rfl) rfl ⟨rfl, rfl⟩ ?_
  refine go_istore_n (ls' := [(1, .int q8.1), (0, .ref a0)]) (pc := 4) C dX10_spaces_4 (by decide) rfl ?_
  refine go_aload_n (pc := 5) C 1 dX10_spaces_5 rfl ?_
  refine go_iload_n (pc := 6) C 0 dX10_spaces_6 rfl ?_
  refine go_bind (fun q9 hq9 => ?_)
  refine go_callV (rest := []) (st' := [.int q9]) (c' := 0) (s' := 0) (pc := 7) C O miX10_86 mvX10_wrongSpaceSign [.int q8.1] rfl (mX10_wrongSpaceSign hq9).1 (mX10_wrongSpaceSign hq9).2 dX10_spaces_7 ⟨by decide, by decide, by decide, by decide⟩ rfl (Nat.le_of_ble_eq_true rfl) rfl ⟨rfl, rfl⟩ ?_
  refine go_istore_n (ls' := [(2, .int q9), (1, .int q8.1), (0, .ref a0)]) (pc := 10) C dX10_spaces_10 (by decide) rfl ?_
  refine go_iload_n (pc := 11) C 0 dX10_spaces_11 rfl ?_
  refine go_iconst (pc := 12) C dX10_spaces_12 ki_m1 ?_
  refine go_icmp_eq (pc := 13) C 20 dX10_spaces_13 (by decide) (fun _ => ?_) (fun _ => ?_)
  · refine go_aload_n (pc := 20) C 2 dX10_spaces_20 rfl ?_
    refine go_gR (pc := 21) C fdX10_16 dX10_spaces_21 (fun x10 => ?_)
    refine go_bind (fun q11 hq11 => ?_)
    refine go_callV (rest := []) (st' := [.int q11]) (c' := 0) (s' := 0) (pc := 24) C O miX10_90 mvX9_spaceTotal [] rfl (mX9_spaceTotal hq11).1 (mX9_spaceTotal hq11).2 dX10_spaces_24 ⟨by decide, by decide, by decide, by decide⟩ rfl (Nat.le_of_ble_eq_true rfl) rfl ⟨rfl, rfl⟩ ?_
    refine go_bipush (pc := 27) C dX10_spaces_27 kb_6 ?_
    refine go_icmp_ne (pc := 29) C 35 dX10_spaces_29 (by decide) (fun _ => ?_) (fun _ => ?_)
    · refine go_bipush (pc := 32) C dX10_spaces_32 kb_m100 ?_
      exact go_iret (w := wIh) (pc := 34) C E (((-100), q8.2)) ((-100)) dX10_spaces_34 rfl
    · refine go_aload_n (pc := 35) C 2 dX10_spaces_35 rfl ?_
      refine go_gR (pc := 36) C fdX10_16 dX10_spaces_36 (fun x12 => ?_)
      refine go_bind (fun q13 hq13 => ?_)
      refine go_callV (rest := []) (st' := [.int q13]) (c' := 0) (s' := 0) (pc := 39) C O miX10_93 mvX9_objectTotal [] rfl (mX9_objectTotal hq13).1 (mX9_objectTotal hq13).2 dX10_spaces_39 ⟨by decide, by decide, by decide, by decide⟩ rfl (Nat.le_of_ble_eq_true rfl) rfl ⟨rfl, rfl⟩ ?_
      refine go_bipush (pc := 42) C dX10_spaces_42 kb_24 ?_
      refine go_icmp_ne (pc := 44) C 50 dX10_spaces_44 (by decide) (fun _ => ?_) (fun _ => ?_)
      · refine go_bipush (pc := 47) C dX10_spaces_47 kb_m101 ?_
        exact go_iret (w := wIh) (pc := 49) C E (((-101), q8.2)) ((-101)) dX10_spaces_49 rfl
      · refine go_aload_n (pc := 50) C 2 dX10_spaces_50 rfl ?_
        refine go_gR (pc := 51) C fdX10_16 dX10_spaces_51 (fun x14 => ?_)
        refine go_bind (fun q15 hq15 => ?_)
        refine go_callV (rest := []) (st' := [.int q15]) (c' := 0) (s' := 0) (pc := 54) C O miX10_96 mvX9_frameTotal [] rfl (mX9_frameTotal hq15).1 (mX9_frameTotal hq15).2 dX10_spaces_54 ⟨by decide, by decide, by decide, by decide⟩ rfl (Nat.le_of_ble_eq_true rfl) rfl ⟨rfl, rfl⟩ ?_
        refine go_aload_n (pc := 57) C 2 dX10_spaces_57 rfl ?_
        refine go_iload_n (pc := 58) C 1 dX10_spaces_58 rfl ?_
        refine go_bind (fun q16 hq16 => ?_)
        refine go_callV (rest := [.int q15]) (st' := [.int q16, .int q15]) (c' := 0) (s' := 0) (pc := 59) C O miX10_99 mvX10_toldPages [.int q8.1] rfl (mX10_toldPages hq16).1 (mX10_toldPages hq16).2 dX10_spaces_59 ⟨by decide, by decide, by decide, by decide⟩ rfl (Nat.le_of_ble_eq_true rfl) rfl ⟨rfl, rfl⟩ ?_
        refine go_iadd (pc := 62) C dX10_spaces_62 ?_
        refine go_bipush (pc := 63) C dX10_spaces_63 kb_64 ?_
        refine go_icmp_le (pc := 65) C 71 dX10_spaces_65 (by decide) (fun _ => ?_) (fun _ => ?_)
        · refine go_aload_n (pc := 71) C 2 dX10_spaces_71 rfl ?_
          refine go_gR (pc := 72) C fdX10_26 dX10_spaces_72 (fun x17 => ?_)
          refine go_aload_n (pc := 75) C 2 dX10_spaces_75 rfl ?_
          refine go_gR (pc := 76) C fdX10_16 dX10_spaces_76 (fun x18 => ?_)
          refine go_bind (fun q19 hq19 => ?_)
          refine go_callV (rest := []) (st' := []) (c' := 0) (s' := 0) (pc := 79) C O miX10_102 mvX2_mark [.ref x18] rfl (mX2_mark hq19).1 (mX2_mark hq19).2 dX10_spaces_79 ⟨by decide, by decide, by decide, by decide⟩ rfl (Nat.le_of_ble_eq_true rfl) rfl ⟨rfl, rfl⟩ ?_
          refine go_aload_n (pc := 82) C 2 dX10_spaces_82 rfl ?_
          refine go_gR (pc := 83) C fdX10_16 dX10_spaces_83 (fun x20 => ?_)
          refine go_aload_n (pc := 86) C 2 dX10_spaces_86 rfl ?_
          refine go_iconst (pc := 87) C dX10_spaces_87 ki_0 ?_
          refine go_bind (fun q21 hq21 => ?_)
          refine go_callV (rest := [.ref x20]) (st' := [.int q21, .ref x20]) (c' := 0) (s' := 0) (pc := 88) C O miX10_106 mvX10_digitAt [.int 0] rfl (mX10_digitAt hq21).1 (mX10_digitAt hq21).2 dX10_spaces_88 ⟨by decide, by decide, by decide, by decide⟩ rfl (Nat.le_of_ble_eq_true rfl) rfl ⟨rfl, rfl⟩ ?_
          refine go_aload_n (pc := 91) C 2 dX10_spaces_91 rfl ?_
          refine go_iconst (pc := 92) C dX10_spaces_92 ki_1 ?_
          refine go_bind (fun q22 hq22 => ?_)
          refine go_callV (rest := [.int q21, .ref x20]) (st' := [.int q22, .int q21, .ref x20]) (c' := 0) (s' := 0) (pc := 93) C O miX10_106 mvX10_digitAt [.int 1] rfl (mX10_digitAt hq22).1 (mX10_digitAt hq22).2 dX10_spaces_93 ⟨by decide, by decide, by decide, by decide⟩ rfl (Nat.le_of_ble_eq_true rfl) rfl ⟨rfl, rfl⟩ ?_
          refine go_bind (fun q23 hq23 => ?_)
          refine go_callV (rest := []) (st' := [.int q23.1]) (c' := 0) (s' := 0) (pc := 96) C O miX10_109 mvX9_comeObject [.int q21, .int q22] rfl (mX9_comeObject hq23).1 (mX9_comeObject hq23).2 dX10_spaces_96 ⟨by decide, by decide, by decide, by decide⟩ rfl (Nat.le_of_ble_eq_true rfl) rfl ⟨rfl, rfl⟩ ?_
          refine go_istore_n (ls' := [(3, .int q23.1), (2, .int q9), (1, .int q8.1), (0, .ref a0)]) (pc := 99) C dX10_spaces_99 (by decide) rfl ?_
          refine go_iconst (pc := 100) C dX10_spaces_100 ki_2 ?_
          refine go_istore (ls' := [(4, .int 2), (3, .int q23.1), (2, .int q9), (1, .int q8.1), (0, .ref a0)]) (pc := 101) C dX10_spaces_101 (by decide) rfl ?_
          refine go_sub (ls' := [(0, .ref a0), (1, .int q8.1), (3, .int q23.1), (4, .int 2)]) [4, 3, 1, 0] rfl ?_
          refine gX10_spaces_L103 C O E (fun h26 x24 x25 => ?_) FU q23.2 a0 q8.1 q23.1 2
          · refine go_aload_n (pc := 148) C 0 dX10_spaces_148 rfl ?_
            refine go_gR (pc := 149) C fdX10_26 dX10_spaces_149 (fun x27 => ?_)
            refine go_bind (fun q28 hq28 => ?_)
            refine go_callV (rest := []) (st' := []) (c' := 0) (s' := 0) (pc := 152) C O miX10_124 mvX2_keepMark [] rfl (mX2_keepMark hq28).1 (mX2_keepMark hq28).2 dX10_spaces_152 ⟨by decide, by decide, by decide, by decide⟩ rfl (Nat.le_of_ble_eq_true rfl) rfl ⟨rfl, rfl⟩ ?_
            refine go_aload_n (pc := 155) C 0 dX10_spaces_155 rfl ?_
            refine go_gR (pc := 156) C fdX10_16 dX10_spaces_156 (fun x29 => ?_)
            refine go_iload_n (pc := 159) C 1 dX10_spaces_159 rfl ?_
            refine go_bind (fun q30 hq30 => ?_)
            refine go_callV (rest := []) (st' := [.int q30.1]) (c' := 0) (s' := 0) (pc := 160) C O miX10_127 mvX9_comeSpace [.int x25] rfl (mX9_comeSpace hq30).1 (mX9_comeSpace hq30).2 dX10_spaces_160 ⟨by decide, by decide, by decide, by decide⟩ rfl (Nat.le_of_ble_eq_true rfl) rfl ⟨rfl, rfl⟩ ?_
            exact go_iret (w := wIh) (pc := 163) C E ((q30.1, q30.2)) q30.1 dX10_spaces_163 rfl
        · refine go_bipush (pc := 68) C dX10_spaces_68 kb_m102 ?_
          exact go_iret (w := wIh) (pc := 70) C E (((-102), q8.2)) ((-102)) dX10_spaces_70 rfl
  · refine go_iconst (pc := 16) C dX10_spaces_16 ki_m1 ?_
    refine go_iload_n (pc := 17) C 0 dX10_spaces_17 rfl ?_
    refine go_isub (pc := 18) C dX10_spaces_18 ?_
    exact go_iret (w := wIh) (pc := 19) C E ((((-1)) - q9, q8.2)) (((-1)) - q9) dX10_spaces_19 rfl
theorem dX10_rule_0 : decode cX10_rule 0 = .ok (.aload_n 0, 1) := by decide +kernel
theorem dX10_rule_1 : decode cX10_rule 1 = .ok (.getfield 43, 3) := by decide +kernel
theorem dX10_rule_4 : decode cX10_rule 4 = .ok (.aload_n 0, 1) := by decide +kernel
theorem dX10_rule_5 : decode cX10_rule 5 = .ok (.getfield 9, 3) := by decide +kernel
theorem dX10_rule_8 : decode cX10_rule 8 = .ok (.aload_n 0, 1) := by decide +kernel
theorem dX10_rule_9 : decode cX10_rule 9 = .ok (.invokevirtual 82, 3) := by decide +kernel
theorem dX10_rule_12 : decode cX10_rule 12 = .ok (.aload_n 0, 1) := by decide +kernel
theorem dX10_rule_13 : decode cX10_rule 13 = .ok (.getfield 37, 3) := by decide +kernel
theorem dX10_rule_16 : decode cX10_rule 16 = .ok (.invokevirtual 130, 3) := by decide +kernel
theorem dX10_rule_19 : decode cX10_rule 19 = .ok (.istore_n 1, 1) := by decide +kernel
theorem dX10_rule_20 : decode cX10_rule 20 = .ok (.iload_n 1, 1) := by decide +kernel
theorem dX10_rule_21 : decode cX10_rule 21 = .ok (.iconst (-1), 1) := by decide +kernel
theorem dX10_rule_22 : decode cX10_rule 22 = .ok (.if_icmp .eq 7, 3) := by decide +kernel
theorem dX10_rule_25 : decode cX10_rule 25 = .ok (.iconst (-1), 1) := by decide +kernel
theorem dX10_rule_26 : decode cX10_rule 26 = .ok (.iload_n 1, 1) := by decide +kernel
theorem dX10_rule_27 : decode cX10_rule 27 = .ok (.isub, 1) := by decide +kernel
theorem dX10_rule_28 : decode cX10_rule 28 = .ok (.ireturn, 1) := by decide +kernel
theorem dX10_rule_29 : decode cX10_rule 29 = .ok (.aload_n 0, 1) := by decide +kernel
theorem dX10_rule_30 : decode cX10_rule 30 = .ok (.getfield 33, 3) := by decide +kernel
theorem dX10_rule_33 : decode cX10_rule 33 = .ok (.aload_n 0, 1) := by decide +kernel
theorem dX10_rule_34 : decode cX10_rule 34 = .ok (.getfield 37, 3) := by decide +kernel
theorem dX10_rule_37 : decode cX10_rule 37 = .ok (.invokevirtual 134, 3) := by decide +kernel
theorem dX10_rule_40 : decode cX10_rule 40 = .ok (.iconst 0, 1) := by decide +kernel
theorem dX10_rule_41 : decode cX10_rule 41 = .ok (.ireturn, 1) := by decide +kernel
def fX10_rule (h : AH) (a0 : Nat) : Option (Int32 × AH) :=
  if hasC h 10 a0 = true then (
    (gR h 10 a0 7).bind fun x1 =>
    (gR h 10 a0 0).bind fun x2 =>
    (fX10_takeText h a0).bind fun q3 =>
    (gR q3.2 10 a0 6).bind fun x4 =>
    (fX7_readRule q3.2 x1 x2 q3.1 x4).bind fun q5 =>
    if q5.1 = ((-1)) then (
      (gR q5.2 10 a0 5).bind fun x6 =>
      (gR q5.2 10 a0 6).bind fun x7 =>
      (fX6_copyFrom q5.2 x6 x7).bind fun q8 =>
      some ((0, q8))
    ) else (
      some ((((-1)) - q5.1, q5.2))
    )
  ) else none
set_option maxHeartbeats 4000000 in
theorem mX10_rule {h : AH} {a0 : Nat} {r : Int32 × AH} (hr : fX10_rule h a0 = some r) : hasC h 10 a0 = true ∧ MC yX10_rule cX10_rule 2 (some .int) 7 0 0 [.ref a0] h (some (.int r.1)) r.2 := by
  unfold fX10_rule at hr
  obtain ⟨hc, hr⟩ := if_some hr
  refine ⟨hc, mc_of (l0 := [(0, .ref a0)]) rfl pn_X10 (Nat.le_of_ble_eq_true rfl) (fun Y X C E O hnm => go_run hr ?_)⟩
  have C : CT Y X RX10 cX10_rule 2 := C
  refine go_aload_n (pc := 0) C 0 dX10_rule_0 rfl ?_
  refine go_gR (pc := 1) C fdX10_43 dX10_rule_1 (fun x1 => ?_)
  refine go_aload_n (pc := 4) C 0 dX10_rule_4 rfl ?_
  refine go_gR (pc := 5) C fdX10_9 dX10_rule_5 (fun x2 => ?_)
  refine go_aload_n (pc := 8) C 0 dX10_rule_8 rfl ?_
  refine go_bind (fun q3 hq3 => ?_)
  refine go_callV (rest := [.ref x2, .ref x1]) (st' := [.int q3.1, .ref x2, .ref x1]) (c' := 0) (s' := 0) (pc := 9) C O miX10_82 mvX10_takeText [] rfl (mX10_takeText hq3).1 (mX10_takeText hq3).2 dX10_rule_9 ⟨by decide, by decide, by decide, by decide⟩ rfl (Nat.le_of_ble_eq_true rfl) rfl ⟨rfl, rfl⟩ ?_
  refine go_aload_n (pc := 12) C 0 dX10_rule_12 rfl ?_
  refine go_gR (pc := 13) C fdX10_37 dX10_rule_13 (fun x4 => ?_)
  refine go_bind (fun q5 hq5 => ?_)
  refine go_callV (rest := []) (st' := [.int q5.1]) (c' := 0) (s' := 0) (pc := 16) C O miX10_130 mvX7_readRule [.ref x2, .int q3.1, .ref x4] rfl (mX7_readRule hq5).1 (mX7_readRule hq5).2 dX10_rule_16 ⟨by decide, by decide, by decide, by decide⟩ rfl (Nat.le_of_ble_eq_true rfl) rfl ⟨rfl, rfl⟩ ?_
  refine go_istore_n (ls' := [(1, .int q5.1), (0, .ref a0)]) (pc := 19) C dX10_rule_19 (by decide) rfl ?_
  refine go_iload_n (pc := 20) C 0 dX10_rule_20 rfl ?_
  refine go_iconst (pc := 21) C dX10_rule_21 ki_m1 ?_
  refine go_icmp_eq (pc := 22) C 29 dX10_rule_22 (by decide) (fun _ => ?_) (fun _ => ?_)
  · refine go_aload_n (pc := 29) C 1 dX10_rule_29 rfl ?_
    refine go_gR (pc := 30) C fdX10_33 dX10_rule_30 (fun x6 => ?_)
    refine go_aload_n (pc := 33) C 1 dX10_rule_33 rfl ?_
    refine go_gR (pc := 34) C fdX10_37 dX10_rule_34 (fun x7 => ?_)
    refine go_bind (fun q8 hq8 => ?_)
    refine go_callV (rest := []) (st' := []) (c' := 0) (s' := 0) (pc := 37) C O miX10_134 mvX6_copyFrom [.ref x7] rfl (mX6_copyFrom hq8).1 (mX6_copyFrom hq8).2 dX10_rule_37 ⟨by decide, by decide, by decide, by decide⟩ rfl (Nat.le_of_ble_eq_true rfl) rfl ⟨rfl, rfl⟩ ?_
    refine go_iconst (pc := 40) C dX10_rule_40 ki_0 ?_
    exact go_iret (w := wIh) (pc := 41) C E ((0, q8)) 0 dX10_rule_41 rfl
  · refine go_iconst (pc := 25) C dX10_rule_25 ki_m1 ?_
    refine go_iload_n (pc := 26) C 0 dX10_rule_26 rfl ?_
    refine go_isub (pc := 27) C dX10_rule_27 ?_
    exact go_iret (w := wIh) (pc := 28) C E ((((-1)) - q5.1, q5.2)) (((-1)) - q5.1) dX10_rule_28 rfl
theorem dX10_clamp_0 : decode cX10_clamp 0 = .ok (.iload_n 1, 1) := by decide +kernel
theorem dX10_clamp_1 : decode cX10_clamp 1 = .ok (.iload_n 2, 1) := by decide +kernel
theorem dX10_clamp_2 : decode cX10_clamp 2 = .ok (.iload_n 0, 1) := by decide +kernel
theorem dX10_clamp_3 : decode cX10_clamp 3 = .ok (.invokestatic 408, 3) := by decide +kernel
theorem dX10_clamp_6 : decode cX10_clamp 6 = .ok (.invokestatic 335, 3) := by decide +kernel
theorem dX10_clamp_9 : decode cX10_clamp 9 = .ok (.ireturn, 1) := by decide +kernel
def fX10_clamp (h : AH) (a0 : Int32) (a1 : Int32) (a2 : Int32) : Option (Int32) :=
  some (jmax a1 (jmin a2 a0))
set_option maxHeartbeats 4000000 in
theorem mX10_clamp {h : AH} {a0 : Int32} {a1 : Int32} {a2 : Int32} {r : Int32} (hr : fX10_clamp h a0 a1 a2 = some r) : MC yX10_clamp cX10_clamp 3 (some .int) 1 0 0 [.int a0, .int a1, .int a2] h (some (.int r)) h := by
  unfold fX10_clamp at hr
  refine mc_of (l0 := [(0, .int a0), (1, .int a1), (2, .int a2)]) rfl pn_X10 (Nat.le_of_ble_eq_true rfl) (fun Y X C E O hnm => go_run hr ?_)
  have C : CT Y X RX10 cX10_clamp 3 := C
  refine go_iload_n (pc := 0) C 1 dX10_clamp_0 rfl ?_
  refine go_iload_n (pc := 1) C 2 dX10_clamp_1 rfl ?_
  refine go_iload_n (pc := 2) C 0 dX10_clamp_2 rfl ?_
  refine go_mmin (pc := 3) C O w_549 w_441 w_102 w_442 ⟨by decide, by decide, by decide⟩ (Nat.le_of_ble_eq_true rfl) dX10_clamp_3 ?_
  refine go_mmax (pc := 6) C O w_550 w_524 w_102 w_525 ⟨by decide, by decide, by decide⟩ (Nat.le_of_ble_eq_true rfl) dX10_clamp_6 ?_
  exact go_iret (w := (wI h)) (pc := 9) C E (jmax a1 (jmin a2 a0)) (jmax a1 (jmin a2 a0)) dX10_clamp_9 rfl
theorem dX10_space_0 : decode cX10_space 0 = .ok (.aload_n 0, 1) := by decide +kernel
theorem dX10_space_1 : decode cX10_space 1 = .ok (.getfield 16, 3) := by decide +kernel
theorem dX10_space_4 : decode cX10_space 4 = .ok (.iload_n 1, 1) := by decide +kernel
theorem dX10_space_5 : decode cX10_space 5 = .ok (.invokevirtual 138, 3) := by decide +kernel
theorem dX10_space_8 : decode cX10_space 8 = .ok (.ifCond .ne 11, 3) := by decide +kernel
theorem dX10_space_19 : decode cX10_space 19 = .ok (.iload_n 2, 1) := by decide +kernel
theorem dX10_space_20 : decode cX10_space 20 = .ok (.tableswitch 91 0 3 #[32, 41, 58, 67], 32) := by decide +kernel
theorem dX10_space_52 : decode cX10_space 52 = .ok (.aload_n 0, 1) := by decide +kernel
theorem dX10_space_53 : decode cX10_space 53 = .ok (.getfield 16, 3) := by decide +kernel
theorem dX10_space_56 : decode cX10_space 56 = .ok (.iload_n 1, 1) := by decide +kernel
theorem dX10_space_57 : decode cX10_space 57 = .ok (.invokevirtual 145, 3) := by decide +kernel
theorem dX10_space_60 : decode cX10_space 60 = .ok (.ireturn, 1) := by decide +kernel
theorem dX10_space_61 : decode cX10_space 61 = .ok (.aload_n 0, 1) := by decide +kernel
theorem dX10_space_62 : decode cX10_space 62 = .ok (.getfield 16, 3) := by decide +kernel
theorem dX10_space_65 : decode cX10_space 65 = .ok (.iload_n 1, 1) := by decide +kernel
theorem dX10_space_66 : decode cX10_space 66 = .ok (.invokevirtual 148, 3) := by decide +kernel
theorem dX10_space_69 : decode cX10_space 69 = .ok (.ifCond .eq 7, 3) := by decide +kernel
theorem dX10_space_72 : decode cX10_space 72 = .ok (.iconst 1, 1) := by decide +kernel
theorem dX10_space_73 : decode cX10_space 73 = .ok (.goto 4, 3) := by decide +kernel
theorem dX10_space_76 : decode cX10_space 76 = .ok (.iconst 0, 1) := by decide +kernel
theorem dX10_space_77 : decode cX10_space 77 = .ok (.ireturn, 1) := by decide +kernel
theorem dX10_space_78 : decode cX10_space 78 = .ok (.aload_n 0, 1) := by decide +kernel
theorem dX10_space_79 : decode cX10_space 79 = .ok (.getfield 16, 3) := by decide +kernel
theorem dX10_space_82 : decode cX10_space 82 = .ok (.iload_n 1, 1) := by decide +kernel
theorem dX10_space_83 : decode cX10_space 83 = .ok (.invokevirtual 151, 3) := by decide +kernel
theorem dX10_space_86 : decode cX10_space 86 = .ok (.ireturn, 1) := by decide +kernel
theorem dX10_space_87 : decode cX10_space 87 = .ok (.aload_n 0, 1) := by decide +kernel
theorem dX10_space_88 : decode cX10_space 88 = .ok (.getfield 33, 3) := by decide +kernel
theorem dX10_space_91 : decode cX10_space 91 = .ok (.aload_n 0, 1) := by decide +kernel
theorem dX10_space_92 : decode cX10_space 92 = .ok (.getfield 16, 3) := by decide +kernel
theorem dX10_space_95 : decode cX10_space 95 = .ok (.iload_n 1, 1) := by decide +kernel
theorem dX10_space_96 : decode cX10_space 96 = .ok (.iconst 0, 1) := by decide +kernel
theorem dX10_space_97 : decode cX10_space 97 = .ok (.invokevirtual 154, 3) := by decide +kernel
theorem dX10_space_100 : decode cX10_space 100 = .ok (.bipush (-99), 2) := by decide +kernel
theorem dX10_space_102 : decode cX10_space 102 = .ok (.bipush 99, 2) := by decide +kernel
theorem dX10_space_104 : decode cX10_space 104 = .ok (.invokestatic 158, 3) := by decide +kernel
theorem dX10_space_107 : decode cX10_space 107 = .ok (.bipush 100, 2) := by decide +kernel
theorem dX10_space_109 : decode cX10_space 109 = .ok (.iadd, 1) := by decide +kernel
theorem dX10_space_110 : decode cX10_space 110 = .ok (.ireturn, 1) := by decide +kernel
def fX10_space (h : AH) (a0 : Nat) (a1 : Int32) (a2 : Int32) : Option (Int32 × AH) :=
  if hasC h 10 a0 = true then (
    (gR h 10 a0 2).bind fun x1 =>
    (fX9_hasSpace h x1 a1).bind fun q2 =>
    if q2 = true then (
      if a2 = 0 then (
        (gR h 10 a0 2).bind fun x4 =>
        (fX9_topOf h x4 a1).bind fun q5 =>
        some ((q5, h))
      ) else (
        if a2 = 1 then (
          (gR h 10 a0 2).bind fun x7 =>
          (fX9_isSharing h x7 a1).bind fun q8 =>
          if q8 = true then (
            some ((1, h))
          ) else (
            some ((0, h))
          )
        ) else (
          if a2 = 2 then (
            (gR h 10 a0 2).bind fun x10 =>
            (fX9_chainLength h x10 a1).bind fun q11 =>
            some ((q11, h))
          ) else (
            if a2 = 3 then (
              (gR h 10 a0 5).bind fun x13 =>
              (gR h 10 a0 2).bind fun x14 =>
              (fX6_reckon h x13 x14 a1 0).bind fun q15 =>
              (fX10_clamp q15.2 q15.1 ((-99)) 99).bind fun q16 =>
              some ((q16 + 100, q15.2))
            ) else (
              none))))
    ) else (
      none
    )
  ) else none
set_option maxHeartbeats 4000000 in
theorem mX10_space {h : AH} {a0 : Nat} {a1 : Int32} {a2 : Int32} {r : Int32 × AH} (hr : fX10_space h a0 a1 a2 = some r) : hasC h 10 a0 = true ∧ MC yX10_space cX10_space 3 (some .int) 6 0 0 [.ref a0, .int a1, .int a2] h (some (.int r.1)) r.2 := by
  unfold fX10_space at hr
  obtain ⟨hc, hr⟩ := if_some hr
  refine ⟨hc, mc_of (l0 := [(0, .ref a0), (1, .int a1), (2, .int a2)]) rfl pn_X10 (Nat.le_of_ble_eq_true rfl) (fun Y X C E O hnm => go_run hr ?_)⟩
  have C : CT Y X RX10 cX10_space 3 := C
  refine go_aload_n (pc := 0) C 0 dX10_space_0 rfl ?_
  refine go_gR (pc := 1) C fdX10_16 dX10_space_1 (fun x1 => ?_)
  refine go_iload_n (pc := 4) C 1 dX10_space_4 rfl ?_
  refine go_bind (fun q2 hq2 => ?_)
  refine go_callV (rest := []) (st' := [.int (b2i q2)]) (c' := 0) (s' := 0) (pc := 5) C O miX10_138 mvX9_hasSpace [.int a1] rfl (mX9_hasSpace hq2).1 (mX9_hasSpace hq2).2 dX10_space_5 ⟨by decide, by decide, by decide, by decide⟩ rfl (Nat.le_of_ble_eq_true rfl) rfl ⟨rfl, rfl⟩ ?_
  refine go_ifZ_ne (pc := 8) C 19 dX10_space_8 (by decide) (fun _ => ?_) (fun _ => ?_)
  · refine go_iload_n (pc := 19) C 2 dX10_space_19 rfl ?_
    refine go_ite (fun hc3 => ?_) (fun hc3 => ?_)
    · refine go_tsw (pc := 20) C 52 0 hc3 dX10_space_20 (by decide) (by decide) rfl (by decide) ?_
      refine go_aload_n (pc := 52) C 0 dX10_space_52 rfl ?_
      refine go_gR (pc := 53) C fdX10_16 dX10_space_53 (fun x4 => ?_)
      refine go_iload_n (pc := 56) C 1 dX10_space_56 rfl ?_
      refine go_bind (fun q5 hq5 => ?_)
      refine go_callV (rest := []) (st' := [.int q5]) (c' := 0) (s' := 0) (pc := 57) C O miX10_145 mvX9_topOf [.int a1] rfl (mX9_topOf hq5).1 (mX9_topOf hq5).2 dX10_space_57 ⟨by decide, by decide, by decide, by decide⟩ rfl (Nat.le_of_ble_eq_true rfl) rfl ⟨rfl, rfl⟩ ?_
      exact go_iret (w := wIh) (pc := 60) C E ((q5, h)) q5 dX10_space_60 rfl
    · refine go_ite (fun hc6 => ?_) (fun hc6 => ?_)
      · refine go_tsw (pc := 20) C 61 1 hc6 dX10_space_20 (by decide) (by decide) rfl (by decide) ?_
        refine go_aload_n (pc := 61) C 0 dX10_space_61 rfl ?_
        refine go_gR (pc := 62) C fdX10_16 dX10_space_62 (fun x7 => ?_)
        refine go_iload_n (pc := 65) C 1 dX10_space_65 rfl ?_
        refine go_bind (fun q8 hq8 => ?_)
        refine go_callV (rest := []) (st' := [.int (b2i q8)]) (c' := 0) (s' := 0) (pc := 66) C O miX10_148 mvX9_isSharing [.int a1] rfl (mX9_isSharing hq8).1 (mX9_isSharing hq8).2 dX10_space_66 ⟨by decide, by decide, by decide, by decide⟩ rfl (Nat.le_of_ble_eq_true rfl) rfl ⟨rfl, rfl⟩ ?_
        refine go_ifZ_eq (pc := 69) C 76 dX10_space_69 (by decide) (fun _ => ?_) (fun _ => ?_)
        · refine go_iconst (pc := 72) C dX10_space_72 ki_1 ?_
          refine go_goto (pc := 73) C 77 dX10_space_73 (by decide) ?_
          exact go_iret (w := wIh) (pc := 77) C E ((1, h)) 1 dX10_space_77 rfl
        · refine go_iconst (pc := 76) C dX10_space_76 ki_0 ?_
          exact go_iret (w := wIh) (pc := 77) C E ((0, h)) 0 dX10_space_77 rfl
      · refine go_ite (fun hc9 => ?_) (fun hc9 => ?_)
        · refine go_tsw (pc := 20) C 78 2 hc9 dX10_space_20 (by decide) (by decide) rfl (by decide) ?_
          refine go_aload_n (pc := 78) C 0 dX10_space_78 rfl ?_
          refine go_gR (pc := 79) C fdX10_16 dX10_space_79 (fun x10 => ?_)
          refine go_iload_n (pc := 82) C 1 dX10_space_82 rfl ?_
          refine go_bind (fun q11 hq11 => ?_)
          refine go_callV (rest := []) (st' := [.int q11]) (c' := 0) (s' := 0) (pc := 83) C O miX10_151 mvX9_chainLength [.int a1] rfl (mX9_chainLength hq11).1 (mX9_chainLength hq11).2 dX10_space_83 ⟨by decide, by decide, by decide, by decide⟩ rfl (Nat.le_of_ble_eq_true rfl) rfl ⟨rfl, rfl⟩ ?_
          exact go_iret (w := wIh) (pc := 86) C E ((q11, h)) q11 dX10_space_86 rfl
        · refine go_ite (fun hc12 => ?_) (fun hc12 => ?_)
          · refine go_tsw (pc := 20) C 87 3 hc12 dX10_space_20 (by decide) (by decide) rfl (by decide) ?_
            refine go_aload_n (pc := 87) C 0 dX10_space_87 rfl ?_
            refine go_gR (pc := 88) C fdX10_33 dX10_space_88 (fun x13 => ?_)
            refine go_aload_n (pc := 91) C 0 dX10_space_91 rfl ?_
            refine go_gR (pc := 92) C fdX10_16 dX10_space_92 (fun x14 => ?_)
            refine go_iload_n (pc := 95) C 1 dX10_space_95 rfl ?_
            refine go_iconst (pc := 96) C dX10_space_96 ki_0 ?_
            refine go_bind (fun q15 hq15 => ?_)
            refine go_callV (rest := []) (st' := [.int q15.1]) (c' := 0) (s' := 0) (pc := 97) C O miX10_154 mvX6_reckon [.ref x14, .int a1, .int 0] rfl (mX6_reckon hq15).1 (mX6_reckon hq15).2 dX10_space_97 ⟨by decide, by decide, by decide, by decide⟩ rfl (Nat.le_of_ble_eq_true rfl) rfl ⟨rfl, rfl⟩ ?_
            refine go_bipush (pc := 100) C dX10_space_100 kb_m99 ?_
            refine go_bipush (pc := 102) C dX10_space_102 kb_99 ?_
            refine go_bind (fun q16 hq16 => ?_)
            refine go_callS (rest := []) (st' := [.int q16]) (c' := 0) (s' := 0) (pc := 104) C O miX10_158 w_547 [.int q15.1, .int ((-99)), .int 99] rfl (mX10_clamp hq16) dX10_space_104 ⟨by decide, by decide, by decide, by decide⟩ rfl (Nat.le_of_ble_eq_true rfl) rfl ⟨rfl, rfl⟩ ?_
            refine go_bipush (pc := 107) C dX10_space_107 kb_100 ?_
            refine go_iadd (pc := 109) C dX10_space_109 ?_
            exact go_iret (w := wIh) (pc := 110) C E ((q16 + 100, q15.2)) (q16 + 100) dX10_space_110 rfl
          · refine go_tsw_else (pc := 20) C 111 [0, 1, 2, 3] dX10_space_20 (fun v hv => by simp only [List.mem_cons, List.not_mem_nil, or_false] at hv; rcases hv with rfl | rfl | rfl | rfl <;> first | exact i32_ne hc3 (by decide) | exact i32_ne hc6 (by decide) | exact i32_ne hc9 (by decide) | exact i32_ne hc12 (by decide)) (by decide) (by decide) (by decide) ?_
            exact go_none _ _ _
  · exact go_none _ _ _
