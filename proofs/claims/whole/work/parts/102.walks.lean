/-! walks, by program: X8_see X8_empty X8_total X8_says X8_agreeWith X8_gather X8_tidying X9_isSharing X9_spaceSet X9_objectSet X9_spaceTotal X9_sharingTotal X9_collapseTotal X9_bypassTotal X9_awaitedTotal X9_awaitedOf X9_shadowOf X9_copyOf X9_pagerOf X9_digitOf X9_placeOf X9_lastOf X9_holderTotal X9_spacesAbove X9_isSeen X9_eagerTotal X9_needsObject X9_ownPages X9_isCopy X9_leastMissing X9_comeObject X9_comeSpace X9_hold X9_setDigit X9_peekPage X9_awaitIfLate X9_isPagedIn X9_readPage X10_isValue X9_pushesToCopy X9_framesToWrite X9_putObjectAbove X9_passCopy X9_remove -/
theorem dX8_see_0 : decode cX8_see 0 = .ok (.iload_n 1, 1) := by decide +kernel
theorem dX8_see_1 : decode cX8_see 1 = .ok (.ifCond .lt 28, 3) := by decide +kernel
theorem dX8_see_4 : decode cX8_see 4 = .ok (.iload_n 1, 1) := by decide +kernel
theorem dX8_see_5 : decode cX8_see 5 = .ok (.bipush 9, 2) := by decide +kernel
theorem dX8_see_7 : decode cX8_see 7 = .ok (.if_icmp .gt 22, 3) := by decide +kernel
theorem dX8_see_10 : decode cX8_see 10 = .ok (.iload_n 2, 1) := by decide +kernel
theorem dX8_see_11 : decode cX8_see 11 = .ok (.ifCond .lt 18, 3) := by decide +kernel
theorem dX8_see_14 : decode cX8_see 14 = .ok (.iload_n 2, 1) := by decide +kernel
theorem dX8_see_15 : decode cX8_see 15 = .ok (.bipush 8, 2) := by decide +kernel
theorem dX8_see_17 : decode cX8_see 17 = .ok (.if_icmp .gt 12, 3) := by decide +kernel
theorem dX8_see_20 : decode cX8_see 20 = .ok (.iload_n 3, 1) := by decide +kernel
theorem dX8_see_21 : decode cX8_see 21 = .ok (.ifCond .lt 8, 3) := by decide +kernel
theorem dX8_see_24 : decode cX8_see 24 = .ok (.iload_n 3, 1) := by decide +kernel
theorem dX8_see_25 : decode cX8_see 25 = .ok (.iconst 1, 1) := by decide +kernel
theorem dX8_see_26 : decode cX8_see 26 = .ok (.if_icmp .le 5, 3) := by decide +kernel
theorem dX8_see_29 : decode cX8_see 29 = .ok (.iconst (-1), 1) := by decide +kernel
theorem dX8_see_30 : decode cX8_see 30 = .ok (.ireturn, 1) := by decide +kernel
theorem dX8_see_31 : decode cX8_see 31 = .ok (.aload_n 0, 1) := by decide +kernel
theorem dX8_see_32 : decode cX8_see 32 = .ok (.getfield 25, 3) := by decide +kernel
theorem dX8_see_35 : decode cX8_see 35 = .ok (.ifCond .lt 12, 3) := by decide +kernel
theorem dX8_see_38 : decode cX8_see 38 = .ok (.aload_n 0, 1) := by decide +kernel
theorem dX8_see_39 : decode cX8_see 39 = .ok (.getfield 25, 3) := by decide +kernel
theorem dX8_see_42 : decode cX8_see 42 = .ok (.bipush 10, 2) := by decide +kernel
theorem dX8_see_44 : decode cX8_see 44 = .ok (.if_icmp .lt 5, 3) := by decide +kernel
theorem dX8_see_47 : decode cX8_see 47 = .ok (.iconst (-1), 1) := by decide +kernel
theorem dX8_see_48 : decode cX8_see 48 = .ok (.ireturn, 1) := by decide +kernel
theorem dX8_see_49 : decode cX8_see 49 = .ok (.aload_n 0, 1) := by decide +kernel
theorem dX8_see_50 : decode cX8_see 50 = .ok (.getfield 11, 3) := by decide +kernel
theorem dX8_see_53 : decode cX8_see 53 = .ok (.aload_n 0, 1) := by decide +kernel
theorem dX8_see_54 : decode cX8_see 54 = .ok (.getfield 25, 3) := by decide +kernel
theorem dX8_see_57 : decode cX8_see 57 = .ok (.iload_n 1, 1) := by decide +kernel
theorem dX8_see_58 : decode cX8_see 58 = .ok (.iastore, 1) := by decide +kernel
theorem dX8_see_59 : decode cX8_see 59 = .ok (.aload_n 0, 1) := by decide +kernel
theorem dX8_see_60 : decode cX8_see 60 = .ok (.getfield 15, 3) := by decide +kernel
theorem dX8_see_63 : decode cX8_see 63 = .ok (.aload_n 0, 1) := by decide +kernel
theorem dX8_see_64 : decode cX8_see 64 = .ok (.getfield 25, 3) := by decide +kernel
theorem dX8_see_67 : decode cX8_see 67 = .ok (.iload_n 2, 1) := by decide +kernel
theorem dX8_see_68 : decode cX8_see 68 = .ok (.iastore, 1) := by decide +kernel
theorem dX8_see_69 : decode cX8_see 69 = .ok (.aload_n 0, 1) := by decide +kernel
theorem dX8_see_70 : decode cX8_see 70 = .ok (.getfield 18, 3) := by decide +kernel
theorem dX8_see_73 : decode cX8_see 73 = .ok (.aload_n 0, 1) := by decide +kernel
theorem dX8_see_74 : decode cX8_see 74 = .ok (.getfield 25, 3) := by decide +kernel
theorem dX8_see_77 : decode cX8_see 77 = .ok (.iload_n 3, 1) := by decide +kernel
theorem dX8_see_78 : decode cX8_see 78 = .ok (.iconst 1, 1) := by decide +kernel
theorem dX8_see_79 : decode cX8_see 79 = .ok (.if_icmp .ne 7, 3) := by decide +kernel
theorem dX8_see_82 : decode cX8_see 82 = .ok (.iconst 1, 1) := by decide +kernel
theorem dX8_see_83 : decode cX8_see 83 = .ok (.goto 4, 3) := by decide +kernel
theorem dX8_see_86 : decode cX8_see 86 = .ok (.iconst 0, 1) := by decide +kernel
theorem dX8_see_87 : decode cX8_see 87 = .ok (.bastore, 1) := by decide +kernel
theorem dX8_see_88 : decode cX8_see 88 = .ok (.aload_n 0, 1) := by decide +kernel
theorem dX8_see_89 : decode cX8_see 89 = .ok (.dup, 1) := by decide +kernel
theorem dX8_see_90 : decode cX8_see 90 = .ok (.getfield 25, 3) := by decide +kernel
theorem dX8_see_93 : decode cX8_see 93 = .ok (.iconst 1, 1) := by decide +kernel
theorem dX8_see_94 : decode cX8_see 94 = .ok (.iadd, 1) := by decide +kernel
theorem dX8_see_95 : decode cX8_see 95 = .ok (.putfield 25, 3) := by decide +kernel
theorem dX8_see_98 : decode cX8_see 98 = .ok (.aload_n 0, 1) := by decide +kernel
theorem dX8_see_99 : decode cX8_see 99 = .ok (.getfield 25, 3) := by decide +kernel
theorem dX8_see_102 : decode cX8_see 102 = .ok (.ireturn, 1) := by decide +kernel
def fX8_see_J87 (h : AH) (v0 : Nat) (s0 : Int32) (s1 : Int32) (s2 : Nat) : Option (Int32 × AH) :=
    (sI h 4 s2 s1 s0).bind fun h1 =>
    (gI h1 8 v0 4).bind fun x2 =>
    (pF h1 8 v0 4 (.int (x2 + 1))).bind fun h3 =>
    (gI h3 8 v0 4).bind fun x4 =>
    some ((x4, h3))
def fX8_see (h : AH) (a0 : Nat) (a1 : Int32) (a2 : Int32) (a3 : Int32) : Option (Int32 × AH) :=
  if hasC h 8 a0 = true then (
    if a1 < 0 then (
      some (((-1), h))
    ) else (
      if 9 < a1 then (
        some (((-1), h))
      ) else (
        if a2 < 0 then (
          some (((-1), h))
        ) else (
          if 8 < a2 then (
            some (((-1), h))
          ) else (
            if a3 < 0 then (
              some (((-1), h))
            ) else (
              if a3 ≤ 1 then (
                (gI h 8 a0 4).bind fun x5 =>
                if x5 < 0 then (
                  some (((-1), h))
                ) else (
                  (gI h 8 a0 4).bind fun x6 =>
                  if x6 < 10 then (
                    (gR h 8 a0 0).bind fun x7 =>
                    (gI h 8 a0 4).bind fun x8 =>
                    (sI h 0 x7 x8 a1).bind fun h9 =>
                    (gR h9 8 a0 1).bind fun x10 =>
                    (gI h9 8 a0 4).bind fun x11 =>
                    (sI h9 0 x10 x11 a2).bind fun h12 =>
                    (gR h12 8 a0 2).bind fun x13 =>
                    (gI h12 8 a0 4).bind fun x14 =>
                    if a3 = 1 then (
                      fX8_see_J87 h12 a0 1 x14 x13
                    ) else (
                      fX8_see_J87 h12 a0 0 x14 x13
                    )
                  ) else (
                    some (((-1), h))
                  )
                )
              ) else (
                some (((-1), h))
              )
            )
          )
        )
      )
    )
  ) else none
set_option maxHeartbeats 4000000 in
theorem gX8_see_J87 {Y : YT} {X : XT} (C : CT Y X RX8 cX8_see 4) (O : RO X 1 0 0) {r : Int32 × AH} (E : RX Y X (some .int) (some (.int r.1)) r.2 0 0) : ∀ (h : AH) (v0 : Nat) (s0 : Int32) (s1 : Int32) (s2 : Nat), GO Y X 4 r h 0 0 87 [(0, .ref v0)] [.int s0, .int s1, .ref s2] (fX8_see_J87 h v0 s0 s1 s2) := by
  intro h v0 s0 s1 s2
  unfold fX8_see_J87
  refine go_zast (pc := 87) C dX8_see_87 (fun h1 => ?_)
  refine go_aload_n (pc := 88) C 0 dX8_see_88 rfl ?_
  refine go_dup (pc := 89) C dX8_see_89 rfl ?_
  refine go_gI (pc := 90) C fdX8_25 dX8_see_90 (fun x2 => ?_)
  refine go_iconst (pc := 93) C dX8_see_93 ki_1 ?_
  refine go_iadd (pc := 94) C dX8_see_94 ?_
  refine go_pI (pc := 95) C fpX8_25 dX8_see_95 (fun h3 => ?_)
  refine go_aload_n (pc := 98) C 0 dX8_see_98 rfl ?_
  refine go_gI (pc := 99) C fdX8_25 dX8_see_99 (fun x4 => ?_)
  exact go_iret (w := wIh) (pc := 102) C E ((x4, h3)) x4 dX8_see_102 rfl
set_option maxHeartbeats 4000000 in
theorem mX8_see {h : AH} {a0 : Nat} {a1 : Int32} {a2 : Int32} {a3 : Int32} {r : Int32 × AH} (hr : fX8_see h a0 a1 a2 a3 = some r) : hasC h 8 a0 = true ∧ MC yX8_see cX8_see 4 (some .int) 1 0 0 [.ref a0, .int a1, .int a2, .int a3] h (some (.int r.1)) r.2 := by
  unfold fX8_see at hr
  obtain ⟨hc, hr⟩ := if_some hr
  refine ⟨hc, mc_of (l0 := [(0, .ref a0), (1, .int a1), (2, .int a2), (3, .int a3)]) rfl pn_X8 (Nat.le_of_ble_eq_true rfl) (fun Y X C E O hnm => go_run hr ?_)⟩
  have C : CT Y X RX8 cX8_see 4 := C
  refine go_iload_n (pc := 0) C 1 dX8_see_0 rfl ?_
  refine go_if_lt (pc := 1) C 29 dX8_see_1 (by decide) (fun _ => ?_) (fun _ => ?_)
  · refine go_iconst (pc := 29) C dX8_see_29 ki_m1 ?_
    exact go_iret (w := wIh) (pc := 30) C E (((-1), h)) ((-1)) dX8_see_30 rfl
  · refine go_iload_n (pc := 4) C 1 dX8_see_4 rfl ?_
    refine go_bipush (pc := 5) C dX8_see_5 kb_9 ?_
    refine go_icmp_gt (pc := 7) C 29 dX8_see_7 (by decide) (fun _ => ?_) (fun _ => ?_)
    · refine go_iconst (pc := 29) C dX8_see_29 ki_m1 ?_
      exact go_iret (w := wIh) (pc := 30) C E (((-1), h)) ((-1)) dX8_see_30 rfl
    · refine go_iload_n (pc := 10) C 2 dX8_see_10 rfl ?_
      refine go_if_lt (pc := 11) C 29 dX8_see_11 (by decide) (fun _ => ?_) (fun _ => ?_)
      · refine go_iconst (pc := 29) C dX8_see_29 ki_m1 ?_
        exact go_iret (w := wIh) (pc := 30) C E (((-1), h)) ((-1)) dX8_see_30 rfl
      · refine go_iload_n (pc := 14) C 2 dX8_see_14 rfl ?_
        refine go_bipush (pc := 15) C dX8_see_15 kb_8 ?_
        refine go_icmp_gt (pc := 17) C 29 dX8_see_17 (by decide) (fun _ => ?_) (fun _ => ?_)
        · refine go_iconst (pc := 29) C dX8_see_29 ki_m1 ?_
          exact go_iret (w := wIh) (pc := 30) C E (((-1), h)) ((-1)) dX8_see_30 rfl
        · refine go_iload_n (pc := 20) C 3 dX8_see_20 rfl ?_
          refine go_if_lt (pc := 21) C 29 dX8_see_21 (by decide) (fun _ => ?_) (fun _ => ?_)
          · refine go_iconst (pc := 29) C dX8_see_29 ki_m1 ?_
            exact go_iret (w := wIh) (pc := 30) C E (((-1), h)) ((-1)) dX8_see_30 rfl
          · refine go_iload_n (pc := 24) C 3 dX8_see_24 rfl ?_
            refine go_iconst (pc := 25) C dX8_see_25 ki_1 ?_
            refine go_icmp_le (pc := 26) C 31 dX8_see_26 (by decide) (fun _ => ?_) (fun _ => ?_)
            · refine go_aload_n (pc := 31) C 0 dX8_see_31 rfl ?_
              refine go_gI (pc := 32) C fdX8_25 dX8_see_32 (fun x5 => ?_)
              refine go_if_lt (pc := 35) C 47 dX8_see_35 (by decide) (fun _ => ?_) (fun _ => ?_)
              · refine go_iconst (pc := 47) C dX8_see_47 ki_m1 ?_
                exact go_iret (w := wIh) (pc := 48) C E (((-1), h)) ((-1)) dX8_see_48 rfl
              · refine go_aload_n (pc := 38) C 0 dX8_see_38 rfl ?_
                refine go_gI (pc := 39) C fdX8_25 dX8_see_39 (fun x6 => ?_)
                refine go_bipush (pc := 42) C dX8_see_42 kb_10 ?_
                refine go_icmp_lt (pc := 44) C 49 dX8_see_44 (by decide) (fun _ => ?_) (fun _ => ?_)
                · refine go_aload_n (pc := 49) C 0 dX8_see_49 rfl ?_
                  refine go_gR (pc := 50) C fdX8_11 dX8_see_50 (fun x7 => ?_)
                  refine go_aload_n (pc := 53) C 0 dX8_see_53 rfl ?_
                  refine go_gI (pc := 54) C fdX8_25 dX8_see_54 (fun x8 => ?_)
                  refine go_iload_n (pc := 57) C 1 dX8_see_57 rfl ?_
                  refine go_iast (pc := 58) C dX8_see_58 (fun h9 => ?_)
                  refine go_aload_n (pc := 59) C 0 dX8_see_59 rfl ?_
                  refine go_gR (pc := 60) C fdX8_15 dX8_see_60 (fun x10 => ?_)
                  refine go_aload_n (pc := 63) C 0 dX8_see_63 rfl ?_
                  refine go_gI (pc := 64) C fdX8_25 dX8_see_64 (fun x11 => ?_)
                  refine go_iload_n (pc := 67) C 2 dX8_see_67 rfl ?_
                  refine go_iast (pc := 68) C dX8_see_68 (fun h12 => ?_)
                  refine go_aload_n (pc := 69) C 0 dX8_see_69 rfl ?_
                  refine go_gR (pc := 70) C fdX8_18 dX8_see_70 (fun x13 => ?_)
                  refine go_aload_n (pc := 73) C 0 dX8_see_73 rfl ?_
                  refine go_gI (pc := 74) C fdX8_25 dX8_see_74 (fun x14 => ?_)
                  refine go_iload_n (pc := 77) C 3 dX8_see_77 rfl ?_
                  refine go_iconst (pc := 78) C dX8_see_78 ki_1 ?_
                  refine go_icmp_ne (pc := 79) C 86 dX8_see_79 (by decide) (fun _ => ?_) (fun _ => ?_)
                  · refine go_iconst (pc := 82) C dX8_see_82 ki_1 ?_
                    refine go_goto (pc := 83) C 87 dX8_see_83 (by decide) ?_
                    refine go_sub (ls' := [(0, .ref a0)]) [0] rfl ?_
                    refine gX8_see_J87 C O E h12 a0 1 x14 x13
                  · refine go_iconst (pc := 86) C dX8_see_86 ki_0 ?_
                    refine go_sub (ls' := [(0, .ref a0)]) [0] rfl ?_
                    refine gX8_see_J87 C O E h12 a0 0 x14 x13
                · refine go_iconst (pc := 47) C dX8_see_47 ki_m1 ?_
                  exact go_iret (w := wIh) (pc := 48) C E (((-1), h)) ((-1)) dX8_see_48 rfl
            · refine go_iconst (pc := 29) C dX8_see_29 ki_m1 ?_
              exact go_iret (w := wIh) (pc := 30) C E (((-1), h)) ((-1)) dX8_see_30 rfl
theorem dX8_empty_0 : decode cX8_empty 0 = .ok (.aload_n 0, 1) := by decide +kernel
theorem dX8_empty_1 : decode cX8_empty 1 = .ok (.getfield 25, 3) := by decide +kernel
theorem dX8_empty_4 : decode cX8_empty 4 = .ok (.istore_n 1, 1) := by decide +kernel
theorem dX8_empty_5 : decode cX8_empty 5 = .ok (.aload_n 0, 1) := by decide +kernel
theorem dX8_empty_6 : decode cX8_empty 6 = .ok (.iconst 0, 1) := by decide +kernel
theorem dX8_empty_7 : decode cX8_empty 7 = .ok (.putfield 25, 3) := by decide +kernel
theorem dX8_empty_10 : decode cX8_empty 10 = .ok (.iload_n 1, 1) := by decide +kernel
theorem dX8_empty_11 : decode cX8_empty 11 = .ok (.ireturn, 1) := by decide +kernel
def fX8_empty (h : AH) (a0 : Nat) : Option (Int32 × AH) :=
  if hasC h 8 a0 = true then (
    (gI h 8 a0 4).bind fun x1 =>
    (pF h 8 a0 4 (.int 0)).bind fun h2 =>
    some ((x1, h2))
  ) else none
set_option maxHeartbeats 4000000 in
theorem mX8_empty {h : AH} {a0 : Nat} {r : Int32 × AH} (hr : fX8_empty h a0 = some r) : hasC h 8 a0 = true ∧ MC yX8_empty cX8_empty 2 (some .int) 1 0 0 [.ref a0] h (some (.int r.1)) r.2 := by
  unfold fX8_empty at hr
  obtain ⟨hc, hr⟩ := if_some hr
  refine ⟨hc, mc_of (l0 := [(0, .ref a0)]) rfl pn_X8 (Nat.le_of_ble_eq_true rfl) (fun Y X C E O hnm => go_run hr ?_)⟩
  have C : CT Y X RX8 cX8_empty 2 := C
  refine go_aload_n (pc := 0) C 0 dX8_empty_0 rfl ?_
  refine go_gI (pc := 1) C fdX8_25 dX8_empty_1 (fun x1 => ?_)
  refine go_istore_n (ls' := [(1, .int x1), (0, .ref a0)]) (pc := 4) C dX8_empty_4 (by decide) rfl ?_
  refine go_aload_n (pc := 5) C 1 dX8_empty_5 rfl ?_
  refine go_iconst (pc := 6) C dX8_empty_6 ki_0 ?_
  refine go_pI (pc := 7) C fpX8_25 dX8_empty_7 (fun h2 => ?_)
  refine go_iload_n (pc := 10) C 0 dX8_empty_10 rfl ?_
  exact go_iret (w := wIh) (pc := 11) C E ((x1, h2)) x1 dX8_empty_11 rfl
theorem dX8_total_0 : decode cX8_total 0 = .ok (.aload_n 0, 1) := by decide +kernel
theorem dX8_total_1 : decode cX8_total 1 = .ok (.getfield 25, 3) := by decide +kernel
theorem dX8_total_4 : decode cX8_total 4 = .ok (.ireturn, 1) := by decide +kernel
def fX8_total (h : AH) (a0 : Nat) : Option (Int32) :=
  if hasC h 8 a0 = true then (
    (gI h 8 a0 4).bind fun x1 =>
    some x1
  ) else none
set_option maxHeartbeats 4000000 in
theorem mX8_total {h : AH} {a0 : Nat} {r : Int32} (hr : fX8_total h a0 = some r) : hasC h 8 a0 = true ∧ MC yX8_total cX8_total 1 (some .int) 1 0 0 [.ref a0] h (some (.int r)) h := by
  unfold fX8_total at hr
  obtain ⟨hc, hr⟩ := if_some hr
  refine ⟨hc, mc_of (l0 := [(0, .ref a0)]) rfl pn_X8 (Nat.le_of_ble_eq_true rfl) (fun Y X C E O hnm => go_run hr ?_)⟩
  have C : CT Y X RX8 cX8_total 1 := C
  refine go_aload_n (pc := 0) C 0 dX8_total_0 rfl ?_
  refine go_gI (pc := 1) C fdX8_25 dX8_total_1 (fun x1 => ?_)
  exact go_iret (w := (wI h)) (pc := 4) C E x1 x1 dX8_total_4 rfl
theorem dX8_says_0 : decode cX8_says 0 = .ok (.iload_n 2, 1) := by decide +kernel
theorem dX8_says_1 : decode cX8_says 1 = .ok (.iload_n 0, 1) := by decide +kernel
theorem dX8_says_2 : decode cX8_says 2 = .ok (.if_icmp .le 12, 3) := by decide +kernel
theorem dX8_says_5 : decode cX8_says 5 = .ok (.iload_n 3, 1) := by decide +kernel
theorem dX8_says_6 : decode cX8_says 6 = .ok (.iload_n 1, 1) := by decide +kernel
theorem dX8_says_7 : decode cX8_says 7 = .ok (.if_icmp .lt 7, 3) := by decide +kernel
theorem dX8_says_10 : decode cX8_says 10 = .ok (.iconst 1, 1) := by decide +kernel
theorem dX8_says_11 : decode cX8_says 11 = .ok (.goto 4, 3) := by decide +kernel
theorem dX8_says_14 : decode cX8_says 14 = .ok (.iconst 0, 1) := by decide +kernel
theorem dX8_says_15 : decode cX8_says 15 = .ok (.ireturn, 1) := by decide +kernel
def fX8_says (h : AH) (a0 : Int32) (a1 : Int32) (a2 : Int32) (a3 : Int32) : Option (Bool) :=
  if a2 ≤ a0 then (
    some false
  ) else (
    if a3 < a1 then (
      some false
    ) else (
      some true
    )
  )
set_option maxHeartbeats 4000000 in
theorem mX8_says {h : AH} {a0 : Int32} {a1 : Int32} {a2 : Int32} {a3 : Int32} {r : Bool} (hr : fX8_says h a0 a1 a2 a3 = some r) : MC yX8_says cX8_says 4 (some .boolean) 1 0 0 [.int a0, .int a1, .int a2, .int a3] h (some (.int (b2i r))) h := by
  unfold fX8_says at hr
  refine mc_of (l0 := [(0, .int a0), (1, .int a1), (2, .int a2), (3, .int a3)]) rfl pn_X8 (Nat.le_of_ble_eq_true rfl) (fun Y X C E O hnm => go_run hr ?_)
  have C : CT Y X RX8 cX8_says 4 := C
  refine go_iload_n (pc := 0) C 2 dX8_says_0 rfl ?_
  refine go_iload_n (pc := 1) C 0 dX8_says_1 rfl ?_
  refine go_icmp_le (pc := 2) C 14 dX8_says_2 (by decide) (fun _ => ?_) (fun _ => ?_)
  · refine go_iconst (pc := 14) C dX8_says_14 ki_0 ?_
    exact go_bret (w := (wZ h)) (pc := 15) C E false 0 false rfl dX8_says_15 rfl
  · refine go_iload_n (pc := 5) C 3 dX8_says_5 rfl ?_
    refine go_iload_n (pc := 6) C 1 dX8_says_6 rfl ?_
    refine go_icmp_lt (pc := 7) C 14 dX8_says_7 (by decide) (fun _ => ?_) (fun _ => ?_)
    · refine go_iconst (pc := 14) C dX8_says_14 ki_0 ?_
      exact go_bret (w := (wZ h)) (pc := 15) C E false 0 false rfl dX8_says_15 rfl
    · refine go_iconst (pc := 10) C dX8_says_10 ki_1 ?_
      refine go_goto (pc := 11) C 15 dX8_says_11 (by decide) ?_
      exact go_bret (w := (wZ h)) (pc := 15) C E true 1 true rfl dX8_says_15 rfl
theorem dX8_agreeWith_0 : decode cX8_agreeWith 0 = .ok (.iconst 0, 1) := by decide +kernel
theorem dX8_agreeWith_1 : decode cX8_agreeWith 1 = .ok (.istore_n 3, 1) := by decide +kernel
theorem dX8_agreeWith_2 : decode cX8_agreeWith 2 = .ok (.iload_n 3, 1) := by decide +kernel
theorem dX8_agreeWith_3 : decode cX8_agreeWith 3 = .ok (.aload_n 0, 1) := by decide +kernel
theorem dX8_agreeWith_4 : decode cX8_agreeWith 4 = .ok (.getfield 25, 3) := by decide +kernel
theorem dX8_agreeWith_7 : decode cX8_agreeWith 7 = .ok (.if_icmp .ge 43, 3) := by decide +kernel
theorem dX8_agreeWith_10 : decode cX8_agreeWith 10 = .ok (.iload_n 3, 1) := by decide +kernel
theorem dX8_agreeWith_11 : decode cX8_agreeWith 11 = .ok (.bipush 10, 2) := by decide +kernel
theorem dX8_agreeWith_13 : decode cX8_agreeWith 13 = .ok (.if_icmp .ge 37, 3) := by decide +kernel
theorem dX8_agreeWith_16 : decode cX8_agreeWith 16 = .ok (.iload_n 1, 1) := by decide +kernel
theorem dX8_agreeWith_17 : decode cX8_agreeWith 17 = .ok (.iload_n 2, 1) := by decide +kernel
theorem dX8_agreeWith_18 : decode cX8_agreeWith 18 = .ok (.aload_n 0, 1) := by decide +kernel
theorem dX8_agreeWith_19 : decode cX8_agreeWith 19 = .ok (.getfield 11, 3) := by decide +kernel
theorem dX8_agreeWith_22 : decode cX8_agreeWith 22 = .ok (.iload_n 3, 1) := by decide +kernel
theorem dX8_agreeWith_23 : decode cX8_agreeWith 23 = .ok (.iaload, 1) := by decide +kernel
theorem dX8_agreeWith_24 : decode cX8_agreeWith 24 = .ok (.aload_n 0, 1) := by decide +kernel
theorem dX8_agreeWith_25 : decode cX8_agreeWith 25 = .ok (.getfield 15, 3) := by decide +kernel
theorem dX8_agreeWith_28 : decode cX8_agreeWith 28 = .ok (.iload_n 3, 1) := by decide +kernel
theorem dX8_agreeWith_29 : decode cX8_agreeWith 29 = .ok (.iaload, 1) := by decide +kernel
theorem dX8_agreeWith_30 : decode cX8_agreeWith 30 = .ok (.invokestatic 29, 3) := by decide +kernel
theorem dX8_agreeWith_33 : decode cX8_agreeWith 33 = .ok (.aload_n 0, 1) := by decide +kernel
theorem dX8_agreeWith_34 : decode cX8_agreeWith 34 = .ok (.getfield 18, 3) := by decide +kernel
theorem dX8_agreeWith_37 : decode cX8_agreeWith 37 = .ok (.iload_n 3, 1) := by decide +kernel
theorem dX8_agreeWith_38 : decode cX8_agreeWith 38 = .ok (.baload, 1) := by decide +kernel
theorem dX8_agreeWith_39 : decode cX8_agreeWith 39 = .ok (.if_icmp .eq 5, 3) := by decide +kernel
theorem dX8_agreeWith_42 : decode cX8_agreeWith 42 = .ok (.iconst 0, 1) := by decide +kernel
theorem dX8_agreeWith_43 : decode cX8_agreeWith 43 = .ok (.ireturn, 1) := by decide +kernel
theorem dX8_agreeWith_44 : decode cX8_agreeWith 44 = .ok (.iinc 3 1, 3) := by decide +kernel
theorem dX8_agreeWith_47 : decode cX8_agreeWith 47 = .ok (.goto (-45), 3) := by decide +kernel
theorem dX8_agreeWith_50 : decode cX8_agreeWith 50 = .ok (.iconst 1, 1) := by decide +kernel
theorem dX8_agreeWith_51 : decode cX8_agreeWith 51 = .ok (.ireturn, 1) := by decide +kernel
def fX8_agreeWith_L2 (h : AH) : Nat → Nat → Int32 → Int32 → Int32 → Option (Bool)
  | 0, _, _, _, _ => none
  | n + 1, v0, v1, v2, v3 =>
    (gI h 8 v0 4).bind fun x1 =>
    if x1 ≤ v3 then (
      some true
    ) else (
      if 10 ≤ v3 then (
        some true
      ) else (
        (gR h 8 v0 0).bind fun x2 =>
        (aI h 0 x2 v3).bind fun x3 =>
        (gR h 8 v0 1).bind fun x4 =>
        (aI h 0 x4 v3).bind fun x5 =>
        (fX8_says h v1 v2 x3 x5).bind fun q6 =>
        (gR h 8 v0 2).bind fun x7 =>
        (aZ h x7 v3).bind fun x8 =>
        if (b2i q6) = (b2i x8) then (
          letF (v3 + 1 : Int32) fun x9 =>
          fX8_agreeWith_L2 h n v0 v1 v2 x9
        ) else (
          some false
        )
      )
    )
def fX8_agreeWith (h : AH) (a0 : Nat) (a1 : Int32) (a2 : Int32) : Option (Bool) :=
  if hasC h 8 a0 = true then (
    fX8_agreeWith_L2 h FU a0 a1 a2 0
  ) else none
set_option maxHeartbeats 4000000 in
theorem gX8_agreeWith_L2 {Y : YT} {X : XT} (C : CT Y X RX8 cX8_agreeWith 4) (O : RO X 2 0 0) {h : AH} {r : Bool} (E : RX Y X (some .boolean) (some (.int (b2i r))) h 0 0) : ∀ (n : Nat) (v0 : Nat) (v1 : Int32) (v2 : Int32) (v3 : Int32), GO Y X 4 r h 0 0 2 [(0, .ref v0), (1, .int v1), (2, .int v2), (3, .int v3)] [] (fX8_agreeWith_L2 h n v0 v1 v2 v3) := by
  intro n
  induction n with
  | zero => intros; exact go_none _ _ _
  | succ n ih =>
    intro v0 v1 v2 v3
    rw [fX8_agreeWith_L2]
    refine go_iload_n (pc := 2) C 3 dX8_agreeWith_2 rfl ?_
    refine go_aload_n (pc := 3) C 0 dX8_agreeWith_3 rfl ?_
    refine go_gI (pc := 4) C fdX8_25 dX8_agreeWith_4 (fun x1 => ?_)
    refine go_icmp_ge (pc := 7) C 50 dX8_agreeWith_7 (by decide) (fun _ => ?_) (fun _ => ?_)
    · refine go_iconst (pc := 50) C dX8_agreeWith_50 ki_1 ?_
      exact go_bret (w := (wZ h)) (pc := 51) C E true 1 true rfl dX8_agreeWith_51 rfl
    · refine go_iload_n (pc := 10) C 3 dX8_agreeWith_10 rfl ?_
      refine go_bipush (pc := 11) C dX8_agreeWith_11 kb_10 ?_
      refine go_icmp_ge (pc := 13) C 50 dX8_agreeWith_13 (by decide) (fun _ => ?_) (fun _ => ?_)
      · refine go_iconst (pc := 50) C dX8_agreeWith_50 ki_1 ?_
        exact go_bret (w := (wZ h)) (pc := 51) C E true 1 true rfl dX8_agreeWith_51 rfl
      · refine go_iload_n (pc := 16) C 1 dX8_agreeWith_16 rfl ?_
        refine go_iload_n (pc := 17) C 2 dX8_agreeWith_17 rfl ?_
        refine go_aload_n (pc := 18) C 0 dX8_agreeWith_18 rfl ?_
        refine go_gR (pc := 19) C fdX8_11 dX8_agreeWith_19 (fun x2 => ?_)
        refine go_iload_n (pc := 22) C 3 dX8_agreeWith_22 rfl ?_
        refine go_iald (pc := 23) C dX8_agreeWith_23 (fun x3 => ?_)
        refine go_aload_n (pc := 24) C 0 dX8_agreeWith_24 rfl ?_
        refine go_gR (pc := 25) C fdX8_15 dX8_agreeWith_25 (fun x4 => ?_)
        refine go_iload_n (pc := 28) C 3 dX8_agreeWith_28 rfl ?_
        refine go_iald (pc := 29) C dX8_agreeWith_29 (fun x5 => ?_)
        refine go_bind (fun q6 hq6 => ?_)
        refine go_callS (rest := []) (st' := [.int (b2i q6)]) (c' := 0) (s' := 0) (pc := 30) C O miX8_29 w_1069 [.int v1, .int v2, .int x3, .int x5] rfl (mX8_says hq6) dX8_agreeWith_30 ⟨by decide, by decide, by decide, by decide⟩ rfl (Nat.le_of_ble_eq_true rfl) rfl ⟨rfl, rfl⟩ ?_
        refine go_aload_n (pc := 33) C 0 dX8_agreeWith_33 rfl ?_
        refine go_gR (pc := 34) C fdX8_18 dX8_agreeWith_34 (fun x7 => ?_)
        refine go_iload_n (pc := 37) C 3 dX8_agreeWith_37 rfl ?_
        refine go_zald (pc := 38) C dX8_agreeWith_38 (fun x8 => ?_)
        refine go_icmp_eq (pc := 39) C 44 dX8_agreeWith_39 (by decide) (fun _ => ?_) (fun _ => ?_)
        · refine go_iincL (pc := 44) C 3 dX8_agreeWith_44 rfl ki_1 (by decide) (fun x9 => [(3, .int x9), (0, .ref v0), (1, .int v1), (2, .int v2)]) (fun _ => rfl) (fun x9 => ?_)
          refine go_goto (pc := 47) C 2 dX8_agreeWith_47 (by decide) ?_
          refine go_sub (ls' := [(0, .ref v0), (1, .int v1), (2, .int v2), (3, .int x9)]) [1, 2, 3, 0] rfl ?_
          exact ih v0 v1 v2 x9
        · refine go_iconst (pc := 42) C dX8_agreeWith_42 ki_0 ?_
          exact go_bret (w := (wZ h)) (pc := 43) C E false 0 false rfl dX8_agreeWith_43 rfl
set_option maxHeartbeats 4000000 in
theorem mX8_agreeWith {h : AH} {a0 : Nat} {a1 : Int32} {a2 : Int32} {r : Bool} (hr : fX8_agreeWith h a0 a1 a2 = some r) : hasC h 8 a0 = true ∧ MC yX8_agreeWith cX8_agreeWith 4 (some .boolean) 2 0 0 [.ref a0, .int a1, .int a2] h (some (.int (b2i r))) h := by
  unfold fX8_agreeWith at hr
  obtain ⟨hc, hr⟩ := if_some hr
  refine ⟨hc, mc_of (l0 := [(0, .ref a0), (1, .int a1), (2, .int a2)]) rfl pn_X8 (Nat.le_of_ble_eq_true rfl) (fun Y X C E O hnm => go_run hr ?_)⟩
  have C : CT Y X RX8 cX8_agreeWith 4 := C
  refine go_iconst (pc := 0) C dX8_agreeWith_0 ki_0 ?_
  refine go_istore_n (ls' := [(3, .int 0), (0, .ref a0), (1, .int a1), (2, .int a2)]) (pc := 1) C dX8_agreeWith_1 (by decide) rfl ?_
  refine go_sub (ls' := [(0, .ref a0), (1, .int a1), (2, .int a2), (3, .int 0)]) [1, 2, 3, 0] rfl ?_
  refine gX8_agreeWith_L2 C O E FU a0 a1 a2 0
theorem dX8_gather_0 : decode cX8_gather 0 = .ok (.iconst 0, 1) := by decide +kernel
theorem dX8_gather_1 : decode cX8_gather 1 = .ok (.istore_n 1, 1) := by decide +kernel
theorem dX8_gather_2 : decode cX8_gather 2 = .ok (.iconst 0, 1) := by decide +kernel
theorem dX8_gather_3 : decode cX8_gather 3 = .ok (.istore_n 2, 1) := by decide +kernel
theorem dX8_gather_4 : decode cX8_gather 4 = .ok (.iload_n 2, 1) := by decide +kernel
theorem dX8_gather_5 : decode cX8_gather 5 = .ok (.aload_n 0, 1) := by decide +kernel
theorem dX8_gather_6 : decode cX8_gather 6 = .ok (.getfield 22, 3) := by decide +kernel
theorem dX8_gather_9 : decode cX8_gather 9 = .ok (.arraylength, 1) := by decide +kernel
theorem dX8_gather_10 : decode cX8_gather 10 = .ok (.if_icmp .ge 44, 3) := by decide +kernel
theorem dX8_gather_13 : decode cX8_gather 13 = .ok (.aload_n 0, 1) := by decide +kernel
theorem dX8_gather_14 : decode cX8_gather 14 = .ok (.getfield 22, 3) := by decide +kernel
theorem dX8_gather_17 : decode cX8_gather 17 = .ok (.iload_n 2, 1) := by decide +kernel
theorem dX8_gather_18 : decode cX8_gather 18 = .ok (.aload_n 0, 1) := by decide +kernel
theorem dX8_gather_19 : decode cX8_gather 19 = .ok (.iload_n 2, 1) := by decide +kernel
theorem dX8_gather_20 : decode cX8_gather 20 = .ok (.bipush 7, 2) := by decide +kernel
theorem dX8_gather_22 : decode cX8_gather 22 = .ok (.idiv, 1) := by decide +kernel
theorem dX8_gather_23 : decode cX8_gather 23 = .ok (.iload_n 2, 1) := by decide +kernel
theorem dX8_gather_24 : decode cX8_gather 24 = .ok (.bipush 7, 2) := by decide +kernel
theorem dX8_gather_26 : decode cX8_gather 26 = .ok (.irem, 1) := by decide +kernel
theorem dX8_gather_27 : decode cX8_gather 27 = .ok (.invokevirtual 33, 3) := by decide +kernel
theorem dX8_gather_30 : decode cX8_gather 30 = .ok (.bastore, 1) := by decide +kernel
theorem dX8_gather_31 : decode cX8_gather 31 = .ok (.iload_n 1, 1) := by decide +kernel
theorem dX8_gather_32 : decode cX8_gather 32 = .ok (.aload_n 0, 1) := by decide +kernel
theorem dX8_gather_33 : decode cX8_gather 33 = .ok (.getfield 22, 3) := by decide +kernel
theorem dX8_gather_36 : decode cX8_gather 36 = .ok (.iload_n 2, 1) := by decide +kernel
theorem dX8_gather_37 : decode cX8_gather 37 = .ok (.baload, 1) := by decide +kernel
theorem dX8_gather_38 : decode cX8_gather 38 = .ok (.ifCond .eq 7, 3) := by decide +kernel
theorem dX8_gather_41 : decode cX8_gather 41 = .ok (.iconst 1, 1) := by decide +kernel
theorem dX8_gather_42 : decode cX8_gather 42 = .ok (.goto 4, 3) := by decide +kernel
theorem dX8_gather_45 : decode cX8_gather 45 = .ok (.iconst 0, 1) := by decide +kernel
theorem dX8_gather_46 : decode cX8_gather 46 = .ok (.iadd, 1) := by decide +kernel
theorem dX8_gather_47 : decode cX8_gather 47 = .ok (.istore_n 1, 1) := by decide +kernel
theorem dX8_gather_48 : decode cX8_gather 48 = .ok (.iinc 2 1, 3) := by decide +kernel
theorem dX8_gather_51 : decode cX8_gather 51 = .ok (.goto (-47), 3) := by decide +kernel
theorem dX8_gather_54 : decode cX8_gather 54 = .ok (.iload_n 1, 1) := by decide +kernel
theorem dX8_gather_55 : decode cX8_gather 55 = .ok (.ireturn, 1) := by decide +kernel
def fX8_gather_J46 (k4 : AH → Nat → Int32 → Int32 → Option (Int32 × AH)) (h : AH) (v0 : Nat) (v2 : Int32) (s0 : Int32) (s1 : Int32) : Option (Int32 × AH) :=
    letF (s1 + s0 : Int32) fun x1 =>
    letF (v2 + 1 : Int32) fun x2 =>
    k4 h v0 x1 x2
def fX8_gather_L4 : Nat → AH → Nat → Int32 → Int32 → Option (Int32 × AH)
  | 0, _, _, _, _ => none
  | n + 1, h, v0, v1, v2 =>
    (gR h 8 v0 3).bind fun x3 =>
    (aL h 4 x3).bind fun x4 =>
    if x4 ≤ v2 then (
      some ((v1, h))
    ) else (
      (gR h 8 v0 3).bind fun x5 =>
      (jdiv v2 7).bind fun x6 =>
      (jrem v2 7).bind fun x7 =>
      (fX8_agreeWith h v0 x6 x7).bind fun q8 =>
      (sI h 4 x5 v2 (b2i q8)).bind fun h9 =>
      (gR h9 8 v0 3).bind fun x10 =>
      (aZ h9 x10 v2).bind fun x11 =>
      if x11 = true then (
        fX8_gather_J46 (fX8_gather_L4 n) h9 v0 v2 1 v1
      ) else (
        fX8_gather_J46 (fX8_gather_L4 n) h9 v0 v2 0 v1
      )
    )
def fX8_gather (h : AH) (a0 : Nat) : Option (Int32 × AH) :=
  if hasC h 8 a0 = true then (
    fX8_gather_L4 FU h a0 0 0
  ) else none
set_option maxHeartbeats 4000000 in
theorem gX8_gather_J46 {Y : YT} {X : XT} (C : CT Y X RX8 cX8_gather 3) (O : RO X 3 0 0) {r : Int32 × AH} (E : RX Y X (some .int) (some (.int r.1)) r.2 0 0) {k4 : AH → Nat → Int32 → Int32 → Option (Int32 × AH)} (hk4 : ∀ (h : AH) (v0 : Nat) (v1 : Int32) (v2 : Int32), GO Y X 3 r h 0 0 4 [(0, .ref v0), (1, .int v1), (2, .int v2)] [] (k4 h v0 v1 v2)) : ∀ (h : AH) (v0 : Nat) (v2 : Int32) (s0 : Int32) (s1 : Int32), GO Y X 3 r h 0 0 46 [(0, .ref v0), (2, .int v2)] [.int s0, .int s1] (fX8_gather_J46 k4 h v0 v2 s0 s1) := by
  intro h v0 v2 s0 s1
  unfold fX8_gather_J46
  refine go_iadd (pc := 46) C dX8_gather_46 ?_
  refine go_istore_nL (pc := 47) C dX8_gather_47 (by decide) (fun x1 => [(1, .int x1), (0, .ref v0), (2, .int v2)]) (fun _ => rfl) (fun x1 => ?_)
  refine go_iincL (pc := 48) C 2 dX8_gather_48 rfl ki_1 (by decide) (fun x2 => [(2, .int x2), (1, .int x1), (0, .ref v0)]) (fun _ => rfl) (fun x2 => ?_)
  refine go_goto (pc := 51) C 4 dX8_gather_51 (by decide) ?_
  refine go_sub (ls' := [(0, .ref v0), (1, .int x1), (2, .int x2)]) [2, 1, 0] rfl ?_
  exact hk4 h v0 x1 x2
set_option maxHeartbeats 4000000 in
theorem gX8_gather_L4 {Y : YT} {X : XT} (C : CT Y X RX8 cX8_gather 3) (O : RO X 3 0 0) {r : Int32 × AH} (E : RX Y X (some .int) (some (.int r.1)) r.2 0 0) : ∀ (n : Nat) (h : AH) (v0 : Nat) (v1 : Int32) (v2 : Int32), GO Y X 3 r h 0 0 4 [(0, .ref v0), (1, .int v1), (2, .int v2)] [] (fX8_gather_L4 n h v0 v1 v2) := by
  intro n
  induction n with
  | zero => intros; exact go_none _ _ _
  | succ n ih =>
    intro h v0 v1 v2
    rw [fX8_gather_L4]
    refine go_iload_n (pc := 4) C 2 dX8_gather_4 rfl ?_
    refine go_aload_n (pc := 5) C 0 dX8_gather_5 rfl ?_
    refine go_gR (pc := 6) C fdX8_22 dX8_gather_6 (fun x3 => ?_)
    refine go_alen (pc := 9) C 4 (by decide) dX8_gather_9 (fun x4 => ?_)
    refine go_icmp_ge (pc := 10) C 54 dX8_gather_10 (by decide) (fun _ => ?_) (fun _ => ?_)
    · refine go_iload_n (pc := 54) C 1 dX8_gather_54 rfl ?_
      exact go_iret (w := wIh) (pc := 55) C E ((v1, h)) v1 dX8_gather_55 rfl
    · refine go_aload_n (pc := 13) C 0 dX8_gather_13 rfl ?_
      refine go_gR (pc := 14) C fdX8_22 dX8_gather_14 (fun x5 => ?_)
      refine go_iload_n (pc := 17) C 2 dX8_gather_17 rfl ?_
      refine go_aload_n (pc := 18) C 0 dX8_gather_18 rfl ?_
      refine go_iload_n (pc := 19) C 2 dX8_gather_19 rfl ?_
      refine go_bipush (pc := 20) C dX8_gather_20 kb_7 ?_
      refine go_idiv (pc := 22) C dX8_gather_22 (fun x6 => ?_)
      refine go_iload_n (pc := 23) C 2 dX8_gather_23 rfl ?_
      refine go_bipush (pc := 24) C dX8_gather_24 kb_7 ?_
      refine go_irem (pc := 26) C dX8_gather_26 (fun x7 => ?_)
      refine go_bind (fun q8 hq8 => ?_)
      refine go_callV (rest := [.int v2, .ref x5]) (st' := [.int (b2i q8), .int v2, .ref x5]) (c' := 0) (s' := 0) (pc := 27) C O miX8_33 mvX8_agreeWith [.int x6, .int x7] rfl (mX8_agreeWith hq8).1 (mX8_agreeWith hq8).2 dX8_gather_27 ⟨by decide, by decide, by decide, by decide⟩ rfl (Nat.le_of_ble_eq_true rfl) rfl ⟨rfl, rfl⟩ ?_
      refine go_zast (pc := 30) C dX8_gather_30 (fun h9 => ?_)
      refine go_iload_n (pc := 31) C 1 dX8_gather_31 rfl ?_
      refine go_aload_n (pc := 32) C 0 dX8_gather_32 rfl ?_
      refine go_gR (pc := 33) C fdX8_22 dX8_gather_33 (fun x10 => ?_)
      refine go_iload_n (pc := 36) C 2 dX8_gather_36 rfl ?_
      refine go_zald (pc := 37) C dX8_gather_37 (fun x11 => ?_)
      refine go_ifZ_eq (pc := 38) C 45 dX8_gather_38 (by decide) (fun _ => ?_) (fun _ => ?_)
      · refine go_iconst (pc := 41) C dX8_gather_41 ki_1 ?_
        refine go_goto (pc := 42) C 46 dX8_gather_42 (by decide) ?_
        refine go_sub (ls' := [(0, .ref v0), (2, .int v2)]) [0, 2] rfl ?_
        refine gX8_gather_J46 C O E (ih) h9 v0 v2 1 v1
      · refine go_iconst (pc := 45) C dX8_gather_45 ki_0 ?_
        refine go_sub (ls' := [(0, .ref v0), (2, .int v2)]) [0, 2] rfl ?_
        refine gX8_gather_J46 C O E (ih) h9 v0 v2 0 v1
set_option maxHeartbeats 4000000 in
theorem mX8_gather {h : AH} {a0 : Nat} {r : Int32 × AH} (hr : fX8_gather h a0 = some r) : hasC h 8 a0 = true ∧ MC yX8_gather cX8_gather 3 (some .int) 3 0 0 [.ref a0] h (some (.int r.1)) r.2 := by
  unfold fX8_gather at hr
  obtain ⟨hc, hr⟩ := if_some hr
  refine ⟨hc, mc_of (l0 := [(0, .ref a0)]) rfl pn_X8 (Nat.le_of_ble_eq_true rfl) (fun Y X C E O hnm => go_run hr ?_)⟩
  have C : CT Y X RX8 cX8_gather 3 := C
  refine go_iconst (pc := 0) C dX8_gather_0 ki_0 ?_
  refine go_istore_n (ls' := [(1, .int 0), (0, .ref a0)]) (pc := 1) C dX8_gather_1 (by decide) rfl ?_
  refine go_iconst (pc := 2) C dX8_gather_2 ki_0 ?_
  refine go_istore_n (ls' := [(2, .int 0), (1, .int 0), (0, .ref a0)]) (pc := 3) C dX8_gather_3 (by decide) rfl ?_
  refine go_sub (ls' := [(0, .ref a0), (1, .int 0), (2, .int 0)]) [2, 1, 0] rfl ?_
  refine gX8_gather_L4 C O E FU h a0 0 0
theorem dX8_tidying_0 : decode cX8_tidying 0 = .ok (.iconst 0, 1) := by decide +kernel
theorem dX8_tidying_1 : decode cX8_tidying 1 = .ok (.istore_n 3, 1) := by decide +kernel
theorem dX8_tidying_2 : decode cX8_tidying 2 = .ok (.iconst 0, 1) := by decide +kernel
theorem dX8_tidying_3 : decode cX8_tidying 3 = .ok (.istore 4, 2) := by decide +kernel
theorem dX8_tidying_5 : decode cX8_tidying 5 = .ok (.iload 4, 2) := by decide +kernel
theorem dX8_tidying_7 : decode cX8_tidying 7 = .ok (.aload_n 0, 1) := by decide +kernel
theorem dX8_tidying_8 : decode cX8_tidying 8 = .ok (.getfield 22, 3) := by decide +kernel
theorem dX8_tidying_11 : decode cX8_tidying 11 = .ok (.arraylength, 1) := by decide +kernel
theorem dX8_tidying_12 : decode cX8_tidying 12 = .ok (.if_icmp .ge 45, 3) := by decide +kernel
theorem dX8_tidying_15 : decode cX8_tidying 15 = .ok (.iload_n 3, 1) := by decide +kernel
theorem dX8_tidying_16 : decode cX8_tidying 16 = .ok (.aload_n 0, 1) := by decide +kernel
theorem dX8_tidying_17 : decode cX8_tidying 17 = .ok (.getfield 22, 3) := by decide +kernel
theorem dX8_tidying_20 : decode cX8_tidying 20 = .ok (.iload 4, 2) := by decide +kernel
theorem dX8_tidying_22 : decode cX8_tidying 22 = .ok (.baload, 1) := by decide +kernel
theorem dX8_tidying_23 : decode cX8_tidying 23 = .ok (.ifCond .eq 25, 3) := by decide +kernel
theorem dX8_tidying_26 : decode cX8_tidying 26 = .ok (.iload 4, 2) := by decide +kernel
theorem dX8_tidying_28 : decode cX8_tidying 28 = .ok (.bipush 7, 2) := by decide +kernel
theorem dX8_tidying_30 : decode cX8_tidying 30 = .ok (.idiv, 1) := by decide +kernel
theorem dX8_tidying_31 : decode cX8_tidying 31 = .ok (.iload 4, 2) := by decide +kernel
theorem dX8_tidying_33 : decode cX8_tidying 33 = .ok (.bipush 7, 2) := by decide +kernel
theorem dX8_tidying_35 : decode cX8_tidying 35 = .ok (.irem, 1) := by decide +kernel
theorem dX8_tidying_36 : decode cX8_tidying 36 = .ok (.iload_n 1, 1) := by decide +kernel
theorem dX8_tidying_37 : decode cX8_tidying 37 = .ok (.iload_n 2, 1) := by decide +kernel
theorem dX8_tidying_38 : decode cX8_tidying 38 = .ok (.invokestatic 29, 3) := by decide +kernel
theorem dX8_tidying_41 : decode cX8_tidying 41 = .ok (.ifCond .eq 7, 3) := by decide +kernel
theorem dX8_tidying_44 : decode cX8_tidying 44 = .ok (.iconst 1, 1) := by decide +kernel
theorem dX8_tidying_45 : decode cX8_tidying 45 = .ok (.goto 4, 3) := by decide +kernel
theorem dX8_tidying_48 : decode cX8_tidying 48 = .ok (.iconst 0, 1) := by decide +kernel
theorem dX8_tidying_49 : decode cX8_tidying 49 = .ok (.iadd, 1) := by decide +kernel
theorem dX8_tidying_50 : decode cX8_tidying 50 = .ok (.istore_n 3, 1) := by decide +kernel
theorem dX8_tidying_51 : decode cX8_tidying 51 = .ok (.iinc 4 1, 3) := by decide +kernel
theorem dX8_tidying_54 : decode cX8_tidying 54 = .ok (.goto (-49), 3) := by decide +kernel
theorem dX8_tidying_57 : decode cX8_tidying 57 = .ok (.iload_n 3, 1) := by decide +kernel
theorem dX8_tidying_58 : decode cX8_tidying 58 = .ok (.ireturn, 1) := by decide +kernel
def fX8_tidying_J49 (h : AH) (k5 : Nat → Int32 → Int32 → Int32 → Int32 → Option (Int32)) (v0 : Nat) (v1 : Int32) (v2 : Int32) (v4 : Int32) (s0 : Int32) (s1 : Int32) : Option (Int32) :=
    letF (s1 + s0 : Int32) fun x1 =>
    letF (v4 + 1 : Int32) fun x2 =>
    k5 v0 v1 v2 x1 x2
def fX8_tidying_L5 (h : AH) : Nat → Nat → Int32 → Int32 → Int32 → Int32 → Option (Int32)
  | 0, _, _, _, _, _ => none
  | n + 1, v0, v1, v2, v3, v4 =>
    (gR h 8 v0 3).bind fun x3 =>
    (aL h 4 x3).bind fun x4 =>
    if x4 ≤ v4 then (
      some v3
    ) else (
      (gR h 8 v0 3).bind fun x5 =>
      (aZ h x5 v4).bind fun x6 =>
      if x6 = true then (
        (jdiv v4 7).bind fun x7 =>
        (jrem v4 7).bind fun x8 =>
        (fX8_says h x7 x8 v1 v2).bind fun q9 =>
        if q9 = true then (
          fX8_tidying_J49 h (fX8_tidying_L5 h n) v0 v1 v2 v4 1 v3
        ) else (
          fX8_tidying_J49 h (fX8_tidying_L5 h n) v0 v1 v2 v4 0 v3
        )
      ) else (
        fX8_tidying_J49 h (fX8_tidying_L5 h n) v0 v1 v2 v4 0 v3
      )
    )
def fX8_tidying (h : AH) (a0 : Nat) (a1 : Int32) (a2 : Int32) : Option (Int32) :=
  if hasC h 8 a0 = true then (
    fX8_tidying_L5 h FU a0 a1 a2 0 0
  ) else none
set_option maxHeartbeats 4000000 in
theorem gX8_tidying_J49 {Y : YT} {X : XT} (C : CT Y X RX8 cX8_tidying 5) (O : RO X 2 0 0) {h : AH} {r : Int32} (E : RX Y X (some .int) (some (.int r)) h 0 0) {k5 : Nat → Int32 → Int32 → Int32 → Int32 → Option (Int32)} (hk5 : ∀ (v0 : Nat) (v1 : Int32) (v2 : Int32) (v3 : Int32) (v4 : Int32), GO Y X 5 r h 0 0 5 [(0, .ref v0), (1, .int v1), (2, .int v2), (3, .int v3), (4, .int v4)] [] (k5 v0 v1 v2 v3 v4)) : ∀ (v0 : Nat) (v1 : Int32) (v2 : Int32) (v4 : Int32) (s0 : Int32) (s1 : Int32), GO Y X 5 r h 0 0 49 [(0, .ref v0), (1, .int v1), (2, .int v2), (4, .int v4)] [.int s0, .int s1] (fX8_tidying_J49 h k5 v0 v1 v2 v4 s0 s1) := by
  intro v0 v1 v2 v4 s0 s1
  unfold fX8_tidying_J49
  refine go_iadd (pc := 49) C dX8_tidying_49 ?_
  refine go_istore_nL (pc := 50) C dX8_tidying_50 (by decide) (fun x1 => [(3, .int x1), (0, .ref v0), (1, .int v1), (2, .int v2), (4, .int v4)]) (fun _ => rfl) (fun x1 => ?_)
  refine go_iincL (pc := 51) C 4 dX8_tidying_51 rfl ki_1 (by decide) (fun x2 => [(4, .int x2), (3, .int x1), (0, .ref v0), (1, .int v1), (2, .int v2)]) (fun _ => rfl) (fun x2 => ?_)
  refine go_goto (pc := 54) C 5 dX8_tidying_54 (by decide) ?_
  refine go_sub (ls' := [(0, .ref v0), (1, .int v1), (2, .int v2), (3, .int x1), (4, .int x2)]) [2, 3, 4, 1, 0] rfl ?_
  exact hk5 v0 v1 v2 x1 x2
set_option maxHeartbeats 4000000 in
theorem gX8_tidying_L5 {Y : YT} {X : XT} (C : CT Y X RX8 cX8_tidying 5) (O : RO X 2 0 0) {h : AH} {r : Int32} (E : RX Y X (some .int) (some (.int r)) h 0 0) : ∀ (n : Nat) (v0 : Nat) (v1 : Int32) (v2 : Int32) (v3 : Int32) (v4 : Int32), GO Y X 5 r h 0 0 5 [(0, .ref v0), (1, .int v1), (2, .int v2), (3, .int v3), (4, .int v4)] [] (fX8_tidying_L5 h n v0 v1 v2 v3 v4) := by
  intro n
  induction n with
  | zero => intros; exact go_none _ _ _
  | succ n ih =>
    intro v0 v1 v2 v3 v4
    rw [fX8_tidying_L5]
    refine go_iload (pc := 5) C 4 dX8_tidying_5 rfl ?_
    refine go_aload_n (pc := 7) C 0 dX8_tidying_7 rfl ?_
    refine go_gR (pc := 8) C fdX8_22 dX8_tidying_8 (fun x3 => ?_)
    refine go_alen (pc := 11) C 4 (by decide) dX8_tidying_11 (fun x4 => ?_)
    refine go_icmp_ge (pc := 12) C 57 dX8_tidying_12 (by decide) (fun _ => ?_) (fun _ => ?_)
    · refine go_iload_n (pc := 57) C 3 dX8_tidying_57 rfl ?_
      exact go_iret (w := (wI h)) (pc := 58) C E v3 v3 dX8_tidying_58 rfl
    · refine go_iload_n (pc := 15) C 3 dX8_tidying_15 rfl ?_
      refine go_aload_n (pc := 16) C 0 dX8_tidying_16 rfl ?_
      refine go_gR (pc := 17) C fdX8_22 dX8_tidying_17 (fun x5 => ?_)
      refine go_iload (pc := 20) C 4 dX8_tidying_20 rfl ?_
      refine go_zald (pc := 22) C dX8_tidying_22 (fun x6 => ?_)
      refine go_ifZ_eq (pc := 23) C 48 dX8_tidying_23 (by decide) (fun _ => ?_) (fun _ => ?_)
      · refine go_iload (pc := 26) C 4 dX8_tidying_26 rfl ?_
        refine go_bipush (pc := 28) C dX8_tidying_28 kb_7 ?_
        refine go_idiv (pc := 30) C dX8_tidying_30 (fun x7 => ?_)
        refine go_iload (pc := 31) C 4 dX8_tidying_31 rfl ?_
        refine go_bipush (pc := 33) C dX8_tidying_33 kb_7 ?_
        refine go_irem (pc := 35) C dX8_tidying_35 (fun x8 => ?_)
        refine go_iload_n (pc := 36) C 1 dX8_tidying_36 rfl ?_
        refine go_iload_n (pc := 37) C 2 dX8_tidying_37 rfl ?_
        refine go_bind (fun q9 hq9 => ?_)
        refine go_callS (rest := [.int v3]) (st' := [.int (b2i q9), .int v3]) (c' := 0) (s' := 0) (pc := 38) C O miX8_29 w_1069 [.int x7, .int x8, .int v1, .int v2] rfl (mX8_says hq9) dX8_tidying_38 ⟨by decide, by decide, by decide, by decide⟩ rfl (Nat.le_of_ble_eq_true rfl) rfl ⟨rfl, rfl⟩ ?_
        refine go_ifZ_eq (pc := 41) C 48 dX8_tidying_41 (by decide) (fun _ => ?_) (fun _ => ?_)
        · refine go_iconst (pc := 44) C dX8_tidying_44 ki_1 ?_
          refine go_goto (pc := 45) C 49 dX8_tidying_45 (by decide) ?_
          refine go_sub (ls' := [(0, .ref v0), (1, .int v1), (2, .int v2), (4, .int v4)]) [0, 1, 2, 4] rfl ?_
          refine gX8_tidying_J49 C O E (ih) v0 v1 v2 v4 1 v3
        · refine go_iconst (pc := 48) C dX8_tidying_48 ki_0 ?_
          refine go_sub (ls' := [(0, .ref v0), (1, .int v1), (2, .int v2), (4, .int v4)]) [0, 1, 2, 4] rfl ?_
          refine gX8_tidying_J49 C O E (ih) v0 v1 v2 v4 0 v3
      · refine go_iconst (pc := 48) C dX8_tidying_48 ki_0 ?_
        refine go_sub (ls' := [(0, .ref v0), (1, .int v1), (2, .int v2), (4, .int v4)]) [0, 1, 2, 4] rfl ?_
        refine gX8_tidying_J49 C O E (ih) v0 v1 v2 v4 0 v3
set_option maxHeartbeats 4000000 in
theorem mX8_tidying {h : AH} {a0 : Nat} {a1 : Int32} {a2 : Int32} {r : Int32} (hr : fX8_tidying h a0 a1 a2 = some r) : hasC h 8 a0 = true ∧ MC yX8_tidying cX8_tidying 5 (some .int) 2 0 0 [.ref a0, .int a1, .int a2] h (some (.int r)) h := by
  unfold fX8_tidying at hr
  obtain ⟨hc, hr⟩ := if_some hr
  refine ⟨hc, mc_of (l0 := [(0, .ref a0), (1, .int a1), (2, .int a2)]) rfl pn_X8 (Nat.le_of_ble_eq_true rfl) (fun Y X C E O hnm => go_run hr ?_)⟩
  have C : CT Y X RX8 cX8_tidying 5 := C
  refine go_iconst (pc := 0) C dX8_tidying_0 ki_0 ?_
  refine go_istore_n (ls' := [(3, .int 0), (0, .ref a0), (1, .int a1), (2, .int a2)]) (pc := 1) C dX8_tidying_1 (by decide) rfl ?_
  refine go_iconst (pc := 2) C dX8_tidying_2 ki_0 ?_
  refine go_istore (ls' := [(4, .int 0), (3, .int 0), (0, .ref a0), (1, .int a1), (2, .int a2)]) (pc := 3) C dX8_tidying_3 (by decide) rfl ?_
  refine go_sub (ls' := [(0, .ref a0), (1, .int a1), (2, .int a2), (3, .int 0), (4, .int 0)]) [2, 3, 4, 1, 0] rfl ?_
  refine gX8_tidying_L5 C O E FU a0 a1 a2 0 0
theorem dX9_isSharing_0 : decode cX9_isSharing 0 = .ok (.aload_n 0, 1) := by decide +kernel
theorem dX9_isSharing_1 : decode cX9_isSharing 1 = .ok (.getfield 40, 3) := by decide +kernel
theorem dX9_isSharing_4 : decode cX9_isSharing 4 = .ok (.iload_n 1, 1) := by decide +kernel
theorem dX9_isSharing_5 : decode cX9_isSharing 5 = .ok (.invokestatic 62, 3) := by decide +kernel
theorem dX9_isSharing_8 : decode cX9_isSharing 8 = .ok (.ireturn, 1) := by decide +kernel
def fX9_isSharing (h : AH) (a0 : Nat) (a1 : Int32) : Option (Bool) :=
  if hasC h 9 a0 = true then (
    (gI h 9 a0 1).bind fun x1 =>
    (fX10_isIn h x1 a1).bind fun q2 =>
    some q2
  ) else none
set_option maxHeartbeats 4000000 in
theorem mX9_isSharing {h : AH} {a0 : Nat} {a1 : Int32} {r : Bool} (hr : fX9_isSharing h a0 a1 = some r) : hasC h 9 a0 = true ∧ MC yX9_isSharing cX9_isSharing 2 (some .boolean) 2 0 0 [.ref a0, .int a1] h (some (.int (b2i r))) h := by
  unfold fX9_isSharing at hr
  obtain ⟨hc, hr⟩ := if_some hr
  refine ⟨hc, mc_of (l0 := [(0, .ref a0), (1, .int a1)]) rfl pn_X9 (Nat.le_of_ble_eq_true rfl) (fun Y X C E O hnm => go_run hr ?_)⟩
  have C : CT Y X RX9 cX9_isSharing 2 := C
  refine go_aload_n (pc := 0) C 0 dX9_isSharing_0 rfl ?_
  refine go_gI (pc := 1) C fdX9_40 dX9_isSharing_1 (fun x1 => ?_)
  refine go_iload_n (pc := 4) C 1 dX9_isSharing_4 rfl ?_
  refine go_bind (fun q2 hq2 => ?_)
  refine go_callSN (rest := []) (st' := [.int (b2i q2)]) (c' := 0) (s' := 0) (pc := 5) C O miX9_62 w_576 [.int x1, .int a1] rfl (mX10_isIn hq2) dX9_isSharing_5 ⟨by decide, by decide, by decide, by decide⟩ rfl (Nat.le_of_ble_eq_true rfl) rfl ⟨rfl, rfl⟩ ?_
  exact go_bret (w := (wZ h)) (pc := 8) C E q2 (b2i q2) q2 rfl dX9_isSharing_8 rfl
theorem dX9_spaceSet_0 : decode cX9_spaceSet 0 = .ok (.aload_n 0, 1) := by decide +kernel
theorem dX9_spaceSet_1 : decode cX9_spaceSet 1 = .ok (.getfield 36, 3) := by decide +kernel
theorem dX9_spaceSet_4 : decode cX9_spaceSet 4 = .ok (.ireturn, 1) := by decide +kernel
def fX9_spaceSet (h : AH) (a0 : Nat) : Option (Int32) :=
  if hasC h 9 a0 = true then (
    (gI h 9 a0 0).bind fun x1 =>
    some x1
  ) else none
set_option maxHeartbeats 4000000 in
theorem mX9_spaceSet {h : AH} {a0 : Nat} {r : Int32} (hr : fX9_spaceSet h a0 = some r) : hasC h 9 a0 = true ∧ MC yX9_spaceSet cX9_spaceSet 1 (some .int) 1 0 0 [.ref a0] h (some (.int r)) h := by
  unfold fX9_spaceSet at hr
  obtain ⟨hc, hr⟩ := if_some hr
  refine ⟨hc, mc_of (l0 := [(0, .ref a0)]) rfl pn_X9 (Nat.le_of_ble_eq_true rfl) (fun Y X C E O hnm => go_run hr ?_)⟩
  have C : CT Y X RX9 cX9_spaceSet 1 := C
  refine go_aload_n (pc := 0) C 0 dX9_spaceSet_0 rfl ?_
  refine go_gI (pc := 1) C fdX9_36 dX9_spaceSet_1 (fun x1 => ?_)
  exact go_iret (w := (wI h)) (pc := 4) C E x1 x1 dX9_spaceSet_4 rfl
theorem dX9_objectSet_0 : decode cX9_objectSet 0 = .ok (.aload_n 0, 1) := by decide +kernel
theorem dX9_objectSet_1 : decode cX9_objectSet 1 = .ok (.getfield 43, 3) := by decide +kernel
theorem dX9_objectSet_4 : decode cX9_objectSet 4 = .ok (.ireturn, 1) := by decide +kernel
def fX9_objectSet (h : AH) (a0 : Nat) : Option (Int32) :=
  if hasC h 9 a0 = true then (
    (gI h 9 a0 2).bind fun x1 =>
    some x1
  ) else none
set_option maxHeartbeats 4000000 in
theorem mX9_objectSet {h : AH} {a0 : Nat} {r : Int32} (hr : fX9_objectSet h a0 = some r) : hasC h 9 a0 = true ∧ MC yX9_objectSet cX9_objectSet 1 (some .int) 1 0 0 [.ref a0] h (some (.int r)) h := by
  unfold fX9_objectSet at hr
  obtain ⟨hc, hr⟩ := if_some hr
  refine ⟨hc, mc_of (l0 := [(0, .ref a0)]) rfl pn_X9 (Nat.le_of_ble_eq_true rfl) (fun Y X C E O hnm => go_run hr ?_)⟩
  have C : CT Y X RX9 cX9_objectSet 1 := C
  refine go_aload_n (pc := 0) C 0 dX9_objectSet_0 rfl ?_
  refine go_gI (pc := 1) C fdX9_43 dX9_objectSet_1 (fun x1 => ?_)
  exact go_iret (w := (wI h)) (pc := 4) C E x1 x1 dX9_objectSet_4 rfl
theorem dX9_spaceTotal_0 : decode cX9_spaceTotal 0 = .ok (.aload_n 0, 1) := by decide +kernel
theorem dX9_spaceTotal_1 : decode cX9_spaceTotal 1 = .ok (.getfield 36, 3) := by decide +kernel
theorem dX9_spaceTotal_4 : decode cX9_spaceTotal 4 = .ok (.invokestatic 66, 3) := by decide +kernel
theorem dX9_spaceTotal_7 : decode cX9_spaceTotal 7 = .ok (.ireturn, 1) := by decide +kernel
def fX9_spaceTotal (h : AH) (a0 : Nat) : Option (Int32) :=
  if hasC h 9 a0 = true then (
    (gI h 9 a0 0).bind fun x1 =>
    (fJ6_bitCount_0f7a4 h x1).bind fun q2 =>
    some q2
  ) else none
set_option maxHeartbeats 4000000 in
theorem mX9_spaceTotal {h : AH} {a0 : Nat} {r : Int32} (hr : fX9_spaceTotal h a0 = some r) : hasC h 9 a0 = true ∧ MC yX9_spaceTotal cX9_spaceTotal 1 (some .int) 2 0 0 [.ref a0] h (some (.int r)) h := by
  unfold fX9_spaceTotal at hr
  obtain ⟨hc, hr⟩ := if_some hr
  refine ⟨hc, mc_of (l0 := [(0, .ref a0)]) rfl pn_X9 (Nat.le_of_ble_eq_true rfl) (fun Y X C E O hnm => go_run hr ?_)⟩
  have C : CT Y X RX9 cX9_spaceTotal 1 := C
  refine go_aload_n (pc := 0) C 0 dX9_spaceTotal_0 rfl ?_
  refine go_gI (pc := 1) C fdX9_36 dX9_spaceTotal_1 (fun x1 => ?_)
  refine go_bind (fun q2 hq2 => ?_)
  refine go_callS (rest := []) (st' := [.int q2]) (c' := 0) (s' := 0) (pc := 4) C O miX9_66 w_397 [.int x1] rfl (mJ6_bitCount_0f7a4 hq2) dX9_spaceTotal_4 ⟨by decide, by decide, by decide, by decide⟩ rfl (Nat.le_of_ble_eq_true rfl) rfl ⟨rfl, rfl⟩ ?_
  exact go_iret (w := (wI h)) (pc := 7) C E q2 q2 dX9_spaceTotal_7 rfl
theorem dX9_sharingTotal_0 : decode cX9_sharingTotal 0 = .ok (.aload_n 0, 1) := by decide +kernel
theorem dX9_sharingTotal_1 : decode cX9_sharingTotal 1 = .ok (.getfield 40, 3) := by decide +kernel
theorem dX9_sharingTotal_4 : decode cX9_sharingTotal 4 = .ok (.invokestatic 66, 3) := by decide +kernel
theorem dX9_sharingTotal_7 : decode cX9_sharingTotal 7 = .ok (.ireturn, 1) := by decide +kernel
def fX9_sharingTotal (h : AH) (a0 : Nat) : Option (Int32) :=
  if hasC h 9 a0 = true then (
    (gI h 9 a0 1).bind fun x1 =>
    (fJ6_bitCount_0f7a4 h x1).bind fun q2 =>
    some q2
  ) else none
set_option maxHeartbeats 4000000 in
theorem mX9_sharingTotal {h : AH} {a0 : Nat} {r : Int32} (hr : fX9_sharingTotal h a0 = some r) : hasC h 9 a0 = true ∧ MC yX9_sharingTotal cX9_sharingTotal 1 (some .int) 2 0 0 [.ref a0] h (some (.int r)) h := by
  unfold fX9_sharingTotal at hr
  obtain ⟨hc, hr⟩ := if_some hr
  refine ⟨hc, mc_of (l0 := [(0, .ref a0)]) rfl pn_X9 (Nat.le_of_ble_eq_true rfl) (fun Y X C E O hnm => go_run hr ?_)⟩
  have C : CT Y X RX9 cX9_sharingTotal 1 := C
  refine go_aload_n (pc := 0) C 0 dX9_sharingTotal_0 rfl ?_
  refine go_gI (pc := 1) C fdX9_40 dX9_sharingTotal_1 (fun x1 => ?_)
  refine go_bind (fun q2 hq2 => ?_)
  refine go_callS (rest := []) (st' := [.int q2]) (c' := 0) (s' := 0) (pc := 4) C O miX9_66 w_397 [.int x1] rfl (mJ6_bitCount_0f7a4 hq2) dX9_sharingTotal_4 ⟨by decide, by decide, by decide, by decide⟩ rfl (Nat.le_of_ble_eq_true rfl) rfl ⟨rfl, rfl⟩ ?_
  exact go_iret (w := (wI h)) (pc := 7) C E q2 q2 dX9_sharingTotal_7 rfl
theorem dX9_collapseTotal_0 : decode cX9_collapseTotal 0 = .ok (.aload_n 0, 1) := by decide +kernel
theorem dX9_collapseTotal_1 : decode cX9_collapseTotal 1 = .ok (.getfield 72, 3) := by decide +kernel
theorem dX9_collapseTotal_4 : decode cX9_collapseTotal 4 = .ok (.ireturn, 1) := by decide +kernel
def fX9_collapseTotal (h : AH) (a0 : Nat) : Option (Int32) :=
  if hasC h 9 a0 = true then (
    (gI h 9 a0 12).bind fun x1 =>
    some x1
  ) else none
set_option maxHeartbeats 4000000 in
theorem mX9_collapseTotal {h : AH} {a0 : Nat} {r : Int32} (hr : fX9_collapseTotal h a0 = some r) : hasC h 9 a0 = true ∧ MC yX9_collapseTotal cX9_collapseTotal 1 (some .int) 1 0 0 [.ref a0] h (some (.int r)) h := by
  unfold fX9_collapseTotal at hr
  obtain ⟨hc, hr⟩ := if_some hr
  refine ⟨hc, mc_of (l0 := [(0, .ref a0)]) rfl pn_X9 (Nat.le_of_ble_eq_true rfl) (fun Y X C E O hnm => go_run hr ?_)⟩
  have C : CT Y X RX9 cX9_collapseTotal 1 := C
  refine go_aload_n (pc := 0) C 0 dX9_collapseTotal_0 rfl ?_
  refine go_gI (pc := 1) C fdX9_72 dX9_collapseTotal_1 (fun x1 => ?_)
  exact go_iret (w := (wI h)) (pc := 4) C E x1 x1 dX9_collapseTotal_4 rfl
theorem dX9_bypassTotal_0 : decode cX9_bypassTotal 0 = .ok (.aload_n 0, 1) := by decide +kernel
theorem dX9_bypassTotal_1 : decode cX9_bypassTotal 1 = .ok (.getfield 75, 3) := by decide +kernel
theorem dX9_bypassTotal_4 : decode cX9_bypassTotal 4 = .ok (.ireturn, 1) := by decide +kernel
def fX9_bypassTotal (h : AH) (a0 : Nat) : Option (Int32) :=
  if hasC h 9 a0 = true then (
    (gI h 9 a0 13).bind fun x1 =>
    some x1
  ) else none
set_option maxHeartbeats 4000000 in
theorem mX9_bypassTotal {h : AH} {a0 : Nat} {r : Int32} (hr : fX9_bypassTotal h a0 = some r) : hasC h 9 a0 = true ∧ MC yX9_bypassTotal cX9_bypassTotal 1 (some .int) 1 0 0 [.ref a0] h (some (.int r)) h := by
  unfold fX9_bypassTotal at hr
  obtain ⟨hc, hr⟩ := if_some hr
  refine ⟨hc, mc_of (l0 := [(0, .ref a0)]) rfl pn_X9 (Nat.le_of_ble_eq_true rfl) (fun Y X C E O hnm => go_run hr ?_)⟩
  have C : CT Y X RX9 cX9_bypassTotal 1 := C
  refine go_aload_n (pc := 0) C 0 dX9_bypassTotal_0 rfl ?_
  refine go_gI (pc := 1) C fdX9_75 dX9_bypassTotal_1 (fun x1 => ?_)
  exact go_iret (w := (wI h)) (pc := 4) C E x1 x1 dX9_bypassTotal_4 rfl
theorem dX9_awaitedTotal_0 : decode cX9_awaitedTotal 0 = .ok (.iconst 0, 1) := by decide +kernel
theorem dX9_awaitedTotal_1 : decode cX9_awaitedTotal 1 = .ok (.istore_n 1, 1) := by decide +kernel
theorem dX9_awaitedTotal_2 : decode cX9_awaitedTotal 2 = .ok (.iconst 0, 1) := by decide +kernel
theorem dX9_awaitedTotal_3 : decode cX9_awaitedTotal 3 = .ok (.istore_n 2, 1) := by decide +kernel
theorem dX9_awaitedTotal_4 : decode cX9_awaitedTotal 4 = .ok (.iload_n 2, 1) := by decide +kernel
theorem dX9_awaitedTotal_5 : decode cX9_awaitedTotal 5 = .ok (.bipush 24, 2) := by decide +kernel
theorem dX9_awaitedTotal_7 : decode cX9_awaitedTotal 7 = .ok (.if_icmp .ge 21, 3) := by decide +kernel
theorem dX9_awaitedTotal_10 : decode cX9_awaitedTotal 10 = .ok (.iload_n 1, 1) := by decide +kernel
theorem dX9_awaitedTotal_11 : decode cX9_awaitedTotal 11 = .ok (.aload_n 0, 1) := by decide +kernel
theorem dX9_awaitedTotal_12 : decode cX9_awaitedTotal 12 = .ok (.getfield 18, 3) := by decide +kernel
theorem dX9_awaitedTotal_15 : decode cX9_awaitedTotal 15 = .ok (.iload_n 2, 1) := by decide +kernel
theorem dX9_awaitedTotal_16 : decode cX9_awaitedTotal 16 = .ok (.iaload, 1) := by decide +kernel
theorem dX9_awaitedTotal_17 : decode cX9_awaitedTotal 17 = .ok (.invokestatic 66, 3) := by decide +kernel
theorem dX9_awaitedTotal_20 : decode cX9_awaitedTotal 20 = .ok (.iadd, 1) := by decide +kernel
theorem dX9_awaitedTotal_21 : decode cX9_awaitedTotal 21 = .ok (.istore_n 1, 1) := by decide +kernel
theorem dX9_awaitedTotal_22 : decode cX9_awaitedTotal 22 = .ok (.iinc 2 1, 3) := by decide +kernel
theorem dX9_awaitedTotal_25 : decode cX9_awaitedTotal 25 = .ok (.goto (-21), 3) := by decide +kernel
theorem dX9_awaitedTotal_28 : decode cX9_awaitedTotal 28 = .ok (.iload_n 1, 1) := by decide +kernel
theorem dX9_awaitedTotal_29 : decode cX9_awaitedTotal 29 = .ok (.ireturn, 1) := by decide +kernel
def fX9_awaitedTotal_L4 (h : AH) : Nat → Nat → Int32 → Int32 → Option (Int32)
  | 0, _, _, _ => none
  | n + 1, v0, v1, v2 =>
    if 24 ≤ v2 then (
      some v1
    ) else (
      (gR h 9 v0 6).bind fun x1 =>
      (aI h 0 x1 v2).bind fun x2 =>
      (fJ6_bitCount_0f7a4 h x2).bind fun q3 =>
      letF (v1 + q3 : Int32) fun x4 =>
      letF (v2 + 1 : Int32) fun x5 =>
      fX9_awaitedTotal_L4 h n v0 x4 x5
    )
def fX9_awaitedTotal (h : AH) (a0 : Nat) : Option (Int32) :=
  if hasC h 9 a0 = true then (
    fX9_awaitedTotal_L4 h FU a0 0 0
  ) else none
set_option maxHeartbeats 4000000 in
theorem gX9_awaitedTotal_L4 {Y : YT} {X : XT} (C : CT Y X RX9 cX9_awaitedTotal 3) (O : RO X 2 0 0) {h : AH} {r : Int32} (E : RX Y X (some .int) (some (.int r)) h 0 0) : ∀ (n : Nat) (v0 : Nat) (v1 : Int32) (v2 : Int32), GO Y X 3 r h 0 0 4 [(0, .ref v0), (1, .int v1), (2, .int v2)] [] (fX9_awaitedTotal_L4 h n v0 v1 v2) := by
  intro n
  induction n with
  | zero => intros; exact go_none _ _ _
  | succ n ih =>
    intro v0 v1 v2
    rw [fX9_awaitedTotal_L4]
    refine go_iload_n (pc := 4) C 2 dX9_awaitedTotal_4 rfl ?_
    refine go_bipush (pc := 5) C dX9_awaitedTotal_5 kb_24 ?_
    refine go_icmp_ge (pc := 7) C 28 dX9_awaitedTotal_7 (by decide) (fun _ => ?_) (fun _ => ?_)
    · refine go_iload_n (pc := 28) C 1 dX9_awaitedTotal_28 rfl ?_
      exact go_iret (w := (wI h)) (pc := 29) C E v1 v1 dX9_awaitedTotal_29 rfl
    · refine go_iload_n (pc := 10) C 1 dX9_awaitedTotal_10 rfl ?_
      refine go_aload_n (pc := 11) C 0 dX9_awaitedTotal_11 rfl ?_
      refine go_gR (pc := 12) C fdX9_18 dX9_awaitedTotal_12 (fun x1 => ?_)
      refine go_iload_n (pc := 15) C 2 dX9_awaitedTotal_15 rfl ?_
      refine go_iald (pc := 16) C dX9_awaitedTotal_16 (fun x2 => ?_)
      refine go_bind (fun q3 hq3 => ?_)
      refine go_callS (rest := [.int v1]) (st' := [.int q3, .int v1]) (c' := 0) (s' := 0) (pc := 17) C O miX9_66 w_397 [.int x2] rfl (mJ6_bitCount_0f7a4 hq3) dX9_awaitedTotal_17 ⟨by decide, by decide, by decide, by decide⟩ rfl (Nat.le_of_ble_eq_true rfl) rfl ⟨rfl, rfl⟩ ?_
      refine go_iadd (pc := 20) C dX9_awaitedTotal_20 ?_
      refine go_istore_nL (pc := 21) C dX9_awaitedTotal_21 (by decide) (fun x4 => [(1, .int x4), (0, .ref v0), (2, .int v2)]) (fun _ => rfl) (fun x4 => ?_)
      refine go_iincL (pc := 22) C 2 dX9_awaitedTotal_22 rfl ki_1 (by decide) (fun x5 => [(2, .int x5), (1, .int x4), (0, .ref v0)]) (fun _ => rfl) (fun x5 => ?_)
      refine go_goto (pc := 25) C 4 dX9_awaitedTotal_25 (by decide) ?_
      refine go_sub (ls' := [(0, .ref v0), (1, .int x4), (2, .int x5)]) [2, 1, 0] rfl ?_
      exact ih v0 x4 x5
set_option maxHeartbeats 4000000 in
theorem mX9_awaitedTotal {h : AH} {a0 : Nat} {r : Int32} (hr : fX9_awaitedTotal h a0 = some r) : hasC h 9 a0 = true ∧ MC yX9_awaitedTotal cX9_awaitedTotal 3 (some .int) 2 0 0 [.ref a0] h (some (.int r)) h := by
  unfold fX9_awaitedTotal at hr
  obtain ⟨hc, hr⟩ := if_some hr
  refine ⟨hc, mc_of (l0 := [(0, .ref a0)]) rfl pn_X9 (Nat.le_of_ble_eq_true rfl) (fun Y X C E O hnm => go_run hr ?_)⟩
  have C : CT Y X RX9 cX9_awaitedTotal 3 := C
  refine go_iconst (pc := 0) C dX9_awaitedTotal_0 ki_0 ?_
  refine go_istore_n (ls' := [(1, .int 0), (0, .ref a0)]) (pc := 1) C dX9_awaitedTotal_1 (by decide) rfl ?_
  refine go_iconst (pc := 2) C dX9_awaitedTotal_2 ki_0 ?_
  refine go_istore_n (ls' := [(2, .int 0), (1, .int 0), (0, .ref a0)]) (pc := 3) C dX9_awaitedTotal_3 (by decide) rfl ?_
  refine go_sub (ls' := [(0, .ref a0), (1, .int 0), (2, .int 0)]) [2, 1, 0] rfl ?_
  refine gX9_awaitedTotal_L4 C O E FU a0 0 0
theorem dX9_awaitedOf_0 : decode cX9_awaitedOf 0 = .ok (.aload_n 0, 1) := by decide +kernel
theorem dX9_awaitedOf_1 : decode cX9_awaitedOf 1 = .ok (.iload_n 1, 1) := by decide +kernel
theorem dX9_awaitedOf_2 : decode cX9_awaitedOf 2 = .ok (.invokevirtual 55, 3) := by decide +kernel
theorem dX9_awaitedOf_5 : decode cX9_awaitedOf 5 = .ok (.ifCond .eq 12, 3) := by decide +kernel
theorem dX9_awaitedOf_8 : decode cX9_awaitedOf 8 = .ok (.aload_n 0, 1) := by decide +kernel
theorem dX9_awaitedOf_9 : decode cX9_awaitedOf 9 = .ok (.getfield 18, 3) := by decide +kernel
theorem dX9_awaitedOf_12 : decode cX9_awaitedOf 12 = .ok (.iload_n 1, 1) := by decide +kernel
theorem dX9_awaitedOf_13 : decode cX9_awaitedOf 13 = .ok (.iaload, 1) := by decide +kernel
theorem dX9_awaitedOf_14 : decode cX9_awaitedOf 14 = .ok (.goto 4, 3) := by decide +kernel
theorem dX9_awaitedOf_17 : decode cX9_awaitedOf 17 = .ok (.iconst 0, 1) := by decide +kernel
theorem dX9_awaitedOf_18 : decode cX9_awaitedOf 18 = .ok (.ireturn, 1) := by decide +kernel
def fX9_awaitedOf (h : AH) (a0 : Nat) (a1 : Int32) : Option (Int32) :=
  if hasC h 9 a0 = true then (
    (fX9_hasObject h a0 a1).bind fun q1 =>
    if q1 = true then (
      (gR h 9 a0 6).bind fun x2 =>
      (aI h 0 x2 a1).bind fun x3 =>
      some x3
    ) else (
      some 0
    )
  ) else none
set_option maxHeartbeats 4000000 in
theorem mX9_awaitedOf {h : AH} {a0 : Nat} {a1 : Int32} {r : Int32} (hr : fX9_awaitedOf h a0 a1 = some r) : hasC h 9 a0 = true ∧ MC yX9_awaitedOf cX9_awaitedOf 2 (some .int) 2 0 0 [.ref a0, .int a1] h (some (.int r)) h := by
  unfold fX9_awaitedOf at hr
  obtain ⟨hc, hr⟩ := if_some hr
  refine ⟨hc, mc_of (l0 := [(0, .ref a0), (1, .int a1)]) rfl pn_X9 (Nat.le_of_ble_eq_true rfl) (fun Y X C E O hnm => go_run hr ?_)⟩
  have C : CT Y X RX9 cX9_awaitedOf 2 := C
  refine go_aload_n (pc := 0) C 0 dX9_awaitedOf_0 rfl ?_
  refine go_iload_n (pc := 1) C 1 dX9_awaitedOf_1 rfl ?_
  refine go_bind (fun q1 hq1 => ?_)
  refine go_callV (rest := []) (st' := [.int (b2i q1)]) (c' := 0) (s' := 0) (pc := 2) C O miX9_55 mvX9_hasObject [.int a1] rfl (mX9_hasObject hq1).1 (mX9_hasObject hq1).2 dX9_awaitedOf_2 ⟨by decide, by decide, by decide, by decide⟩ rfl (Nat.le_of_ble_eq_true rfl) rfl ⟨rfl, rfl⟩ ?_
  refine go_ifZ_eq (pc := 5) C 17 dX9_awaitedOf_5 (by decide) (fun _ => ?_) (fun _ => ?_)
  · refine go_aload_n (pc := 8) C 0 dX9_awaitedOf_8 rfl ?_
    refine go_gR (pc := 9) C fdX9_18 dX9_awaitedOf_9 (fun x2 => ?_)
    refine go_iload_n (pc := 12) C 1 dX9_awaitedOf_12 rfl ?_
    refine go_iald (pc := 13) C dX9_awaitedOf_13 (fun x3 => ?_)
    refine go_goto (pc := 14) C 18 dX9_awaitedOf_14 (by decide) ?_
    exact go_iret (w := (wI h)) (pc := 18) C E x3 x3 dX9_awaitedOf_18 rfl
  · refine go_iconst (pc := 17) C dX9_awaitedOf_17 ki_0 ?_
    exact go_iret (w := (wI h)) (pc := 18) C E 0 0 dX9_awaitedOf_18 rfl
theorem dX9_shadowOf_0 : decode cX9_shadowOf 0 = .ok (.aload_n 0, 1) := by decide +kernel
theorem dX9_shadowOf_1 : decode cX9_shadowOf 1 = .ok (.iload_n 1, 1) := by decide +kernel
theorem dX9_shadowOf_2 : decode cX9_shadowOf 2 = .ok (.invokevirtual 55, 3) := by decide +kernel
theorem dX9_shadowOf_5 : decode cX9_shadowOf 5 = .ok (.ifCond .eq 12, 3) := by decide +kernel
theorem dX9_shadowOf_8 : decode cX9_shadowOf 8 = .ok (.aload_n 0, 1) := by decide +kernel
theorem dX9_shadowOf_9 : decode cX9_shadowOf 9 = .ok (.getfield 21, 3) := by decide +kernel
theorem dX9_shadowOf_12 : decode cX9_shadowOf 12 = .ok (.iload_n 1, 1) := by decide +kernel
theorem dX9_shadowOf_13 : decode cX9_shadowOf 13 = .ok (.iaload, 1) := by decide +kernel
theorem dX9_shadowOf_14 : decode cX9_shadowOf 14 = .ok (.goto 5, 3) := by decide +kernel
theorem dX9_shadowOf_17 : decode cX9_shadowOf 17 = .ok (.bipush 24, 2) := by decide +kernel
theorem dX9_shadowOf_19 : decode cX9_shadowOf 19 = .ok (.ireturn, 1) := by decide +kernel
def fX9_shadowOf (h : AH) (a0 : Nat) (a1 : Int32) : Option (Int32) :=
  if hasC h 9 a0 = true then (
    (fX9_hasObject h a0 a1).bind fun q1 =>
    if q1 = true then (
      (gR h 9 a0 7).bind fun x2 =>
      (aI h 0 x2 a1).bind fun x3 =>
      some x3
    ) else (
      some 24
    )
  ) else none
set_option maxHeartbeats 4000000 in
theorem mX9_shadowOf {h : AH} {a0 : Nat} {a1 : Int32} {r : Int32} (hr : fX9_shadowOf h a0 a1 = some r) : hasC h 9 a0 = true ∧ MC yX9_shadowOf cX9_shadowOf 2 (some .int) 2 0 0 [.ref a0, .int a1] h (some (.int r)) h := by
  unfold fX9_shadowOf at hr
  obtain ⟨hc, hr⟩ := if_some hr
  refine ⟨hc, mc_of (l0 := [(0, .ref a0), (1, .int a1)]) rfl pn_X9 (Nat.le_of_ble_eq_true rfl) (fun Y X C E O hnm => go_run hr ?_)⟩
  have C : CT Y X RX9 cX9_shadowOf 2 := C
  refine go_aload_n (pc := 0) C 0 dX9_shadowOf_0 rfl ?_
  refine go_iload_n (pc := 1) C 1 dX9_shadowOf_1 rfl ?_
  refine go_bind (fun q1 hq1 => ?_)
  refine go_callV (rest := []) (st' := [.int (b2i q1)]) (c' := 0) (s' := 0) (pc := 2) C O miX9_55 mvX9_hasObject [.int a1] rfl (mX9_hasObject hq1).1 (mX9_hasObject hq1).2 dX9_shadowOf_2 ⟨by decide, by decide, by decide, by decide⟩ rfl (Nat.le_of_ble_eq_true rfl) rfl ⟨rfl, rfl⟩ ?_
  refine go_ifZ_eq (pc := 5) C 17 dX9_shadowOf_5 (by decide) (fun _ => ?_) (fun _ => ?_)
  · refine go_aload_n (pc := 8) C 0 dX9_shadowOf_8 rfl ?_
    refine go_gR (pc := 9) C fdX9_21 dX9_shadowOf_9 (fun x2 => ?_)
    refine go_iload_n (pc := 12) C 1 dX9_shadowOf_12 rfl ?_
    refine go_iald (pc := 13) C dX9_shadowOf_13 (fun x3 => ?_)
    refine go_goto (pc := 14) C 19 dX9_shadowOf_14 (by decide) ?_
    exact go_iret (w := (wI h)) (pc := 19) C E x3 x3 dX9_shadowOf_19 rfl
  · refine go_bipush (pc := 17) C dX9_shadowOf_17 kb_24 ?_
    exact go_iret (w := (wI h)) (pc := 19) C E 24 24 dX9_shadowOf_19 rfl
theorem dX9_copyOf_0 : decode cX9_copyOf 0 = .ok (.aload_n 0, 1) := by decide +kernel
theorem dX9_copyOf_1 : decode cX9_copyOf 1 = .ok (.iload_n 1, 1) := by decide +kernel
theorem dX9_copyOf_2 : decode cX9_copyOf 2 = .ok (.invokevirtual 55, 3) := by decide +kernel
theorem dX9_copyOf_5 : decode cX9_copyOf 5 = .ok (.ifCond .eq 12, 3) := by decide +kernel
theorem dX9_copyOf_8 : decode cX9_copyOf 8 = .ok (.aload_n 0, 1) := by decide +kernel
theorem dX9_copyOf_9 : decode cX9_copyOf 9 = .ok (.getfield 24, 3) := by decide +kernel
theorem dX9_copyOf_12 : decode cX9_copyOf 12 = .ok (.iload_n 1, 1) := by decide +kernel
theorem dX9_copyOf_13 : decode cX9_copyOf 13 = .ok (.iaload, 1) := by decide +kernel
theorem dX9_copyOf_14 : decode cX9_copyOf 14 = .ok (.goto 5, 3) := by decide +kernel
theorem dX9_copyOf_17 : decode cX9_copyOf 17 = .ok (.bipush 24, 2) := by decide +kernel
theorem dX9_copyOf_19 : decode cX9_copyOf 19 = .ok (.ireturn, 1) := by decide +kernel
def fX9_copyOf (h : AH) (a0 : Nat) (a1 : Int32) : Option (Int32) :=
  if hasC h 9 a0 = true then (
    (fX9_hasObject h a0 a1).bind fun q1 =>
    if q1 = true then (
      (gR h 9 a0 8).bind fun x2 =>
      (aI h 0 x2 a1).bind fun x3 =>
      some x3
    ) else (
      some 24
    )
  ) else none
set_option maxHeartbeats 4000000 in
theorem mX9_copyOf {h : AH} {a0 : Nat} {a1 : Int32} {r : Int32} (hr : fX9_copyOf h a0 a1 = some r) : hasC h 9 a0 = true ∧ MC yX9_copyOf cX9_copyOf 2 (some .int) 2 0 0 [.ref a0, .int a1] h (some (.int r)) h := by
  unfold fX9_copyOf at hr
  obtain ⟨hc, hr⟩ := if_some hr
  refine ⟨hc, mc_of (l0 := [(0, .ref a0), (1, .int a1)]) rfl pn_X9 (Nat.le_of_ble_eq_true rfl) (fun Y X C E O hnm => go_run hr ?_)⟩
  have C : CT Y X RX9 cX9_copyOf 2 := C
  refine go_aload_n (pc := 0) C 0 dX9_copyOf_0 rfl ?_
  refine go_iload_n (pc := 1) C 1 dX9_copyOf_1 rfl ?_
  refine go_bind (fun q1 hq1 => ?_)
  refine go_callV (rest := []) (st' := [.int (b2i q1)]) (c' := 0) (s' := 0) (pc := 2) C O miX9_55 mvX9_hasObject [.int a1] rfl (mX9_hasObject hq1).1 (mX9_hasObject hq1).2 dX9_copyOf_2 ⟨by decide, by decide, by decide, by decide⟩ rfl (Nat.le_of_ble_eq_true rfl) rfl ⟨rfl, rfl⟩ ?_
  refine go_ifZ_eq (pc := 5) C 17 dX9_copyOf_5 (by decide) (fun _ => ?_) (fun _ => ?_)
  · refine go_aload_n (pc := 8) C 0 dX9_copyOf_8 rfl ?_
    refine go_gR (pc := 9) C fdX9_24 dX9_copyOf_9 (fun x2 => ?_)
    refine go_iload_n (pc := 12) C 1 dX9_copyOf_12 rfl ?_
    refine go_iald (pc := 13) C dX9_copyOf_13 (fun x3 => ?_)
    refine go_goto (pc := 14) C 19 dX9_copyOf_14 (by decide) ?_
    exact go_iret (w := (wI h)) (pc := 19) C E x3 x3 dX9_copyOf_19 rfl
  · refine go_bipush (pc := 17) C dX9_copyOf_17 kb_24 ?_
    exact go_iret (w := (wI h)) (pc := 19) C E 24 24 dX9_copyOf_19 rfl
theorem dX9_pagerOf_0 : decode cX9_pagerOf 0 = .ok (.aload_n 0, 1) := by decide +kernel
theorem dX9_pagerOf_1 : decode cX9_pagerOf 1 = .ok (.iload_n 1, 1) := by decide +kernel
theorem dX9_pagerOf_2 : decode cX9_pagerOf 2 = .ok (.invokevirtual 55, 3) := by decide +kernel
theorem dX9_pagerOf_5 : decode cX9_pagerOf 5 = .ok (.ifCond .eq 12, 3) := by decide +kernel
theorem dX9_pagerOf_8 : decode cX9_pagerOf 8 = .ok (.aload_n 0, 1) := by decide +kernel
theorem dX9_pagerOf_9 : decode cX9_pagerOf 9 = .ok (.getfield 27, 3) := by decide +kernel
theorem dX9_pagerOf_12 : decode cX9_pagerOf 12 = .ok (.iload_n 1, 1) := by decide +kernel
theorem dX9_pagerOf_13 : decode cX9_pagerOf 13 = .ok (.iaload, 1) := by decide +kernel
theorem dX9_pagerOf_14 : decode cX9_pagerOf 14 = .ok (.goto 4, 3) := by decide +kernel
theorem dX9_pagerOf_17 : decode cX9_pagerOf 17 = .ok (.iconst 0, 1) := by decide +kernel
theorem dX9_pagerOf_18 : decode cX9_pagerOf 18 = .ok (.ireturn, 1) := by decide +kernel
def fX9_pagerOf (h : AH) (a0 : Nat) (a1 : Int32) : Option (Int32) :=
  if hasC h 9 a0 = true then (
    (fX9_hasObject h a0 a1).bind fun q1 =>
    if q1 = true then (
      (gR h 9 a0 9).bind fun x2 =>
      (aI h 0 x2 a1).bind fun x3 =>
      some x3
    ) else (
      some 0
    )
  ) else none
set_option maxHeartbeats 4000000 in
theorem mX9_pagerOf {h : AH} {a0 : Nat} {a1 : Int32} {r : Int32} (hr : fX9_pagerOf h a0 a1 = some r) : hasC h 9 a0 = true ∧ MC yX9_pagerOf cX9_pagerOf 2 (some .int) 2 0 0 [.ref a0, .int a1] h (some (.int r)) h := by
  unfold fX9_pagerOf at hr
  obtain ⟨hc, hr⟩ := if_some hr
  refine ⟨hc, mc_of (l0 := [(0, .ref a0), (1, .int a1)]) rfl pn_X9 (Nat.le_of_ble_eq_true rfl) (fun Y X C E O hnm => go_run hr ?_)⟩
  have C : CT Y X RX9 cX9_pagerOf 2 := C
  refine go_aload_n (pc := 0) C 0 dX9_pagerOf_0 rfl ?_
  refine go_iload_n (pc := 1) C 1 dX9_pagerOf_1 rfl ?_
  refine go_bind (fun q1 hq1 => ?_)
  refine go_callV (rest := []) (st' := [.int (b2i q1)]) (c' := 0) (s' := 0) (pc := 2) C O miX9_55 mvX9_hasObject [.int a1] rfl (mX9_hasObject hq1).1 (mX9_hasObject hq1).2 dX9_pagerOf_2 ⟨by decide, by decide, by decide, by decide⟩ rfl (Nat.le_of_ble_eq_true rfl) rfl ⟨rfl, rfl⟩ ?_
  refine go_ifZ_eq (pc := 5) C 17 dX9_pagerOf_5 (by decide) (fun _ => ?_) (fun _ => ?_)
  · refine go_aload_n (pc := 8) C 0 dX9_pagerOf_8 rfl ?_
    refine go_gR (pc := 9) C fdX9_27 dX9_pagerOf_9 (fun x2 => ?_)
    refine go_iload_n (pc := 12) C 1 dX9_pagerOf_12 rfl ?_
    refine go_iald (pc := 13) C dX9_pagerOf_13 (fun x3 => ?_)
    refine go_goto (pc := 14) C 18 dX9_pagerOf_14 (by decide) ?_
    exact go_iret (w := (wI h)) (pc := 18) C E x3 x3 dX9_pagerOf_18 rfl
  · refine go_iconst (pc := 17) C dX9_pagerOf_17 ki_0 ?_
    exact go_iret (w := (wI h)) (pc := 18) C E 0 0 dX9_pagerOf_18 rfl
theorem dX9_digitOf_0 : decode cX9_digitOf 0 = .ok (.aload_n 0, 1) := by decide +kernel
theorem dX9_digitOf_1 : decode cX9_digitOf 1 = .ok (.iload_n 1, 1) := by decide +kernel
theorem dX9_digitOf_2 : decode cX9_digitOf 2 = .ok (.invokevirtual 55, 3) := by decide +kernel
theorem dX9_digitOf_5 : decode cX9_digitOf 5 = .ok (.ifCond .eq 12, 3) := by decide +kernel
theorem dX9_digitOf_8 : decode cX9_digitOf 8 = .ok (.aload_n 0, 1) := by decide +kernel
theorem dX9_digitOf_9 : decode cX9_digitOf 9 = .ok (.getfield 30, 3) := by decide +kernel
theorem dX9_digitOf_12 : decode cX9_digitOf 12 = .ok (.iload_n 1, 1) := by decide +kernel
theorem dX9_digitOf_13 : decode cX9_digitOf 13 = .ok (.iaload, 1) := by decide +kernel
theorem dX9_digitOf_14 : decode cX9_digitOf 14 = .ok (.goto 4, 3) := by decide +kernel
theorem dX9_digitOf_17 : decode cX9_digitOf 17 = .ok (.iconst 0, 1) := by decide +kernel
theorem dX9_digitOf_18 : decode cX9_digitOf 18 = .ok (.ireturn, 1) := by decide +kernel
def fX9_digitOf (h : AH) (a0 : Nat) (a1 : Int32) : Option (Int32) :=
  if hasC h 9 a0 = true then (
    (fX9_hasObject h a0 a1).bind fun q1 =>
    if q1 = true then (
      (gR h 9 a0 10).bind fun x2 =>
      (aI h 0 x2 a1).bind fun x3 =>
      some x3
    ) else (
      some 0
    )
  ) else none
set_option maxHeartbeats 4000000 in
theorem mX9_digitOf {h : AH} {a0 : Nat} {a1 : Int32} {r : Int32} (hr : fX9_digitOf h a0 a1 = some r) : hasC h 9 a0 = true ∧ MC yX9_digitOf cX9_digitOf 2 (some .int) 2 0 0 [.ref a0, .int a1] h (some (.int r)) h := by
  unfold fX9_digitOf at hr
  obtain ⟨hc, hr⟩ := if_some hr
  refine ⟨hc, mc_of (l0 := [(0, .ref a0), (1, .int a1)]) rfl pn_X9 (Nat.le_of_ble_eq_true rfl) (fun Y X C E O hnm => go_run hr ?_)⟩
  have C : CT Y X RX9 cX9_digitOf 2 := C
  refine go_aload_n (pc := 0) C 0 dX9_digitOf_0 rfl ?_
  refine go_iload_n (pc := 1) C 1 dX9_digitOf_1 rfl ?_
  refine go_bind (fun q1 hq1 => ?_)
  refine go_callV (rest := []) (st' := [.int (b2i q1)]) (c' := 0) (s' := 0) (pc := 2) C O miX9_55 mvX9_hasObject [.int a1] rfl (mX9_hasObject hq1).1 (mX9_hasObject hq1).2 dX9_digitOf_2 ⟨by decide, by decide, by decide, by decide⟩ rfl (Nat.le_of_ble_eq_true rfl) rfl ⟨rfl, rfl⟩ ?_
  refine go_ifZ_eq (pc := 5) C 17 dX9_digitOf_5 (by decide) (fun _ => ?_) (fun _ => ?_)
  · refine go_aload_n (pc := 8) C 0 dX9_digitOf_8 rfl ?_
    refine go_gR (pc := 9) C fdX9_30 dX9_digitOf_9 (fun x2 => ?_)
    refine go_iload_n (pc := 12) C 1 dX9_digitOf_12 rfl ?_
    refine go_iald (pc := 13) C dX9_digitOf_13 (fun x3 => ?_)
    refine go_goto (pc := 14) C 18 dX9_digitOf_14 (by decide) ?_
    exact go_iret (w := (wI h)) (pc := 18) C E x3 x3 dX9_digitOf_18 rfl
  · refine go_iconst (pc := 17) C dX9_digitOf_17 ki_0 ?_
    exact go_iret (w := (wI h)) (pc := 18) C E 0 0 dX9_digitOf_18 rfl
theorem dX9_placeOf_0 : decode cX9_placeOf 0 = .ok (.iconst 0, 1) := by decide +kernel
theorem dX9_placeOf_1 : decode cX9_placeOf 1 = .ok (.istore_n 3, 1) := by decide +kernel
theorem dX9_placeOf_2 : decode cX9_placeOf 2 = .ok (.aload_n 0, 1) := by decide +kernel
theorem dX9_placeOf_3 : decode cX9_placeOf 3 = .ok (.iload_n 1, 1) := by decide +kernel
theorem dX9_placeOf_4 : decode cX9_placeOf 4 = .ok (.invokevirtual 84, 3) := by decide +kernel
theorem dX9_placeOf_7 : decode cX9_placeOf 7 = .ok (.istore 4, 2) := by decide +kernel
theorem dX9_placeOf_9 : decode cX9_placeOf 9 = .ok (.iload_n 3, 1) := by decide +kernel
theorem dX9_placeOf_10 : decode cX9_placeOf 10 = .ok (.bipush 24, 2) := by decide +kernel
theorem dX9_placeOf_12 : decode cX9_placeOf 12 = .ok (.if_icmp .ge 33, 3) := by decide +kernel
theorem dX9_placeOf_15 : decode cX9_placeOf 15 = .ok (.aload_n 0, 1) := by decide +kernel
theorem dX9_placeOf_16 : decode cX9_placeOf 16 = .ok (.iload 4, 2) := by decide +kernel
theorem dX9_placeOf_18 : decode cX9_placeOf 18 = .ok (.invokevirtual 55, 3) := by decide +kernel
theorem dX9_placeOf_21 : decode cX9_placeOf 21 = .ok (.ifCond .eq 24, 3) := by decide +kernel
theorem dX9_placeOf_24 : decode cX9_placeOf 24 = .ok (.iload 4, 2) := by decide +kernel
theorem dX9_placeOf_26 : decode cX9_placeOf 26 = .ok (.iload_n 2, 1) := by decide +kernel
theorem dX9_placeOf_27 : decode cX9_placeOf 27 = .ok (.if_icmp .eq 18, 3) := by decide +kernel
theorem dX9_placeOf_30 : decode cX9_placeOf 30 = .ok (.aload_n 0, 1) := by decide +kernel
theorem dX9_placeOf_31 : decode cX9_placeOf 31 = .ok (.getfield 21, 3) := by decide +kernel
theorem dX9_placeOf_34 : decode cX9_placeOf 34 = .ok (.iload 4, 2) := by decide +kernel
theorem dX9_placeOf_36 : decode cX9_placeOf 36 = .ok (.iaload, 1) := by decide +kernel
theorem dX9_placeOf_37 : decode cX9_placeOf 37 = .ok (.istore 4, 2) := by decide +kernel
theorem dX9_placeOf_39 : decode cX9_placeOf 39 = .ok (.iinc 3 1, 3) := by decide +kernel
theorem dX9_placeOf_42 : decode cX9_placeOf 42 = .ok (.goto (-33), 3) := by decide +kernel
theorem dX9_placeOf_45 : decode cX9_placeOf 45 = .ok (.iload_n 3, 1) := by decide +kernel
theorem dX9_placeOf_46 : decode cX9_placeOf 46 = .ok (.ireturn, 1) := by decide +kernel
def fX9_placeOf_L9 (h : AH) : Nat → Nat → Int32 → Int32 → Int32 → Option (Int32)
  | 0, _, _, _, _ => none
  | n + 1, v0, v2, v3, v4 =>
    if 24 ≤ v3 then (
      some v3
    ) else (
      (fX9_hasObject h v0 v4).bind fun q1 =>
      if q1 = true then (
        if v4 = v2 then (
          some v3
        ) else (
          (gR h 9 v0 7).bind fun x2 =>
          (aI h 0 x2 v4).bind fun x3 =>
          letF (v3 + 1 : Int32) fun x4 =>
          fX9_placeOf_L9 h n v0 v2 x4 x3
        )
      ) else (
        some v3
      )
    )
def fX9_placeOf (h : AH) (a0 : Nat) (a1 : Int32) (a2 : Int32) : Option (Int32) :=
  if hasC h 9 a0 = true then (
    (fX9_topOf h a0 a1).bind fun q5 =>
    fX9_placeOf_L9 h FU a0 a2 0 q5
  ) else none
set_option maxHeartbeats 4000000 in
theorem gX9_placeOf_L9 {Y : YT} {X : XT} (C : CT Y X RX9 cX9_placeOf 5) (O : RO X 3 0 0) {h : AH} {r : Int32} (E : RX Y X (some .int) (some (.int r)) h 0 0) : ∀ (n : Nat) (v0 : Nat) (v2 : Int32) (v3 : Int32) (v4 : Int32), GO Y X 5 r h 0 0 9 [(0, .ref v0), (2, .int v2), (3, .int v3), (4, .int v4)] [] (fX9_placeOf_L9 h n v0 v2 v3 v4) := by
  intro n
  induction n with
  | zero => intros; exact go_none _ _ _
  | succ n ih =>
    intro v0 v2 v3 v4
    rw [fX9_placeOf_L9]
    refine go_iload_n (pc := 9) C 2 dX9_placeOf_9 rfl ?_
    refine go_bipush (pc := 10) C dX9_placeOf_10 kb_24 ?_
    refine go_icmp_ge (pc := 12) C 45 dX9_placeOf_12 (by decide) (fun _ => ?_) (fun _ => ?_)
    · refine go_iload_n (pc := 45) C 2 dX9_placeOf_45 rfl ?_
      exact go_iret (w := (wI h)) (pc := 46) C E v3 v3 dX9_placeOf_46 rfl
    · refine go_aload_n (pc := 15) C 0 dX9_placeOf_15 rfl ?_
      refine go_iload (pc := 16) C 3 dX9_placeOf_16 rfl ?_
      refine go_bind (fun q1 hq1 => ?_)
      refine go_callV (rest := []) (st' := [.int (b2i q1)]) (c' := 0) (s' := 0) (pc := 18) C O miX9_55 mvX9_hasObject [.int v4] rfl (mX9_hasObject hq1).1 (mX9_hasObject hq1).2 dX9_placeOf_18 ⟨by decide, by decide, by decide, by decide⟩ rfl (Nat.le_of_ble_eq_true rfl) rfl ⟨rfl, rfl⟩ ?_
      refine go_ifZ_eq (pc := 21) C 45 dX9_placeOf_21 (by decide) (fun _ => ?_) (fun _ => ?_)
      · refine go_iload (pc := 24) C 3 dX9_placeOf_24 rfl ?_
        refine go_iload_n (pc := 26) C 1 dX9_placeOf_26 rfl ?_
        refine go_icmp_eq (pc := 27) C 45 dX9_placeOf_27 (by decide) (fun _ => ?_) (fun _ => ?_)
        · refine go_iload_n (pc := 45) C 2 dX9_placeOf_45 rfl ?_
          exact go_iret (w := (wI h)) (pc := 46) C E v3 v3 dX9_placeOf_46 rfl
        · refine go_aload_n (pc := 30) C 0 dX9_placeOf_30 rfl ?_
          refine go_gR (pc := 31) C fdX9_21 dX9_placeOf_31 (fun x2 => ?_)
          refine go_iload (pc := 34) C 3 dX9_placeOf_34 rfl ?_
          refine go_iald (pc := 36) C dX9_placeOf_36 (fun x3 => ?_)
          refine go_istore (ls' := [(4, .int x3), (0, .ref v0), (2, .int v2), (3, .int v3)]) (pc := 37) C dX9_placeOf_37 (by decide) rfl ?_
          refine go_iincL (pc := 39) C 3 dX9_placeOf_39 rfl ki_1 (by decide) (fun x4 => [(3, .int x4), (4, .int x3), (0, .ref v0), (2, .int v2)]) (fun _ => rfl) (fun x4 => ?_)
          refine go_goto (pc := 42) C 9 dX9_placeOf_42 (by decide) ?_
          refine go_sub (ls' := [(0, .ref v0), (2, .int v2), (3, .int x4), (4, .int x3)]) [2, 3, 0, 1] rfl ?_
          exact ih v0 v2 x4 x3
      · refine go_iload_n (pc := 45) C 2 dX9_placeOf_45 rfl ?_
        exact go_iret (w := (wI h)) (pc := 46) C E v3 v3 dX9_placeOf_46 rfl
set_option maxHeartbeats 4000000 in
theorem mX9_placeOf {h : AH} {a0 : Nat} {a1 : Int32} {a2 : Int32} {r : Int32} (hr : fX9_placeOf h a0 a1 a2 = some r) : hasC h 9 a0 = true ∧ MC yX9_placeOf cX9_placeOf 5 (some .int) 3 0 0 [.ref a0, .int a1, .int a2] h (some (.int r)) h := by
  unfold fX9_placeOf at hr
  obtain ⟨hc, hr⟩ := if_some hr
  refine ⟨hc, mc_of (l0 := [(0, .ref a0), (1, .int a1), (2, .int a2)]) rfl pn_X9 (Nat.le_of_ble_eq_true rfl) (fun Y X C E O hnm => go_run hr ?_)⟩
  have C : CT Y X RX9 cX9_placeOf 5 := C
  refine go_iconst (pc := 0) C dX9_placeOf_0 ki_0 ?_
  refine go_istore_n (ls' := [(3, .int 0), (0, .ref a0), (1, .int a1), (2, .int a2)]) (pc := 1) C dX9_placeOf_1 (by decide) rfl ?_
  refine go_aload_n (pc := 2) C 1 dX9_placeOf_2 rfl ?_
  refine go_iload_n (pc := 3) C 2 dX9_placeOf_3 rfl ?_
  refine go_bind (fun q5 hq5 => ?_)
  refine go_callV (rest := []) (st' := [.int q5]) (c' := 0) (s' := 0) (pc := 4) C O miX9_84 mvX9_topOf [.int a1] rfl (mX9_topOf hq5).1 (mX9_topOf hq5).2 dX9_placeOf_4 ⟨by decide, by decide, by decide, by decide⟩ rfl (Nat.le_of_ble_eq_true rfl) rfl ⟨rfl, rfl⟩ ?_
  refine go_istore (ls' := [(4, .int q5), (3, .int 0), (0, .ref a0), (1, .int a1), (2, .int a2)]) (pc := 7) C dX9_placeOf_7 (by decide) rfl ?_
  refine go_sub (ls' := [(0, .ref a0), (2, .int a2), (3, .int 0), (4, .int q5)]) [2, 4, 1, 0] rfl ?_
  refine gX9_placeOf_L9 C O E FU a0 a2 0 q5
theorem dX9_lastOf_0 : decode cX9_lastOf 0 = .ok (.aload_n 0, 1) := by decide +kernel
theorem dX9_lastOf_1 : decode cX9_lastOf 1 = .ok (.iload_n 1, 1) := by decide +kernel
theorem dX9_lastOf_2 : decode cX9_lastOf 2 = .ok (.invokevirtual 84, 3) := by decide +kernel
theorem dX9_lastOf_5 : decode cX9_lastOf 5 = .ok (.istore_n 2, 1) := by decide +kernel
theorem dX9_lastOf_6 : decode cX9_lastOf 6 = .ok (.iconst 0, 1) := by decide +kernel
theorem dX9_lastOf_7 : decode cX9_lastOf 7 = .ok (.istore_n 3, 1) := by decide +kernel
theorem dX9_lastOf_8 : decode cX9_lastOf 8 = .ok (.iload_n 3, 1) := by decide +kernel
theorem dX9_lastOf_9 : decode cX9_lastOf 9 = .ok (.bipush 24, 2) := by decide +kernel
theorem dX9_lastOf_11 : decode cX9_lastOf 11 = .ok (.if_icmp .ge 28, 3) := by decide +kernel
theorem dX9_lastOf_14 : decode cX9_lastOf 14 = .ok (.aload_n 0, 1) := by decide +kernel
theorem dX9_lastOf_15 : decode cX9_lastOf 15 = .ok (.aload_n 0, 1) := by decide +kernel
theorem dX9_lastOf_16 : decode cX9_lastOf 16 = .ok (.iload_n 2, 1) := by decide +kernel
theorem dX9_lastOf_17 : decode cX9_lastOf 17 = .ok (.invokevirtual 87, 3) := by decide +kernel
theorem dX9_lastOf_20 : decode cX9_lastOf 20 = .ok (.invokevirtual 55, 3) := by decide +kernel
theorem dX9_lastOf_23 : decode cX9_lastOf 23 = .ok (.ifCond .eq 16, 3) := by decide +kernel
theorem dX9_lastOf_26 : decode cX9_lastOf 26 = .ok (.aload_n 0, 1) := by decide +kernel
theorem dX9_lastOf_27 : decode cX9_lastOf 27 = .ok (.getfield 21, 3) := by decide +kernel
theorem dX9_lastOf_30 : decode cX9_lastOf 30 = .ok (.iload_n 2, 1) := by decide +kernel
theorem dX9_lastOf_31 : decode cX9_lastOf 31 = .ok (.iaload, 1) := by decide +kernel
theorem dX9_lastOf_32 : decode cX9_lastOf 32 = .ok (.istore_n 2, 1) := by decide +kernel
theorem dX9_lastOf_33 : decode cX9_lastOf 33 = .ok (.iinc 3 1, 3) := by decide +kernel
theorem dX9_lastOf_36 : decode cX9_lastOf 36 = .ok (.goto (-28), 3) := by decide +kernel
theorem dX9_lastOf_39 : decode cX9_lastOf 39 = .ok (.iload_n 2, 1) := by decide +kernel
theorem dX9_lastOf_40 : decode cX9_lastOf 40 = .ok (.ireturn, 1) := by decide +kernel
def fX9_lastOf_L8 (h : AH) : Nat → Nat → Int32 → Int32 → Option (Int32)
  | 0, _, _, _ => none
  | n + 1, v0, v2, v3 =>
    if 24 ≤ v3 then (
      some v2
    ) else (
      (fX9_shadowOf h v0 v2).bind fun q1 =>
      (fX9_hasObject h v0 q1).bind fun q2 =>
      if q2 = true then (
        (gR h 9 v0 7).bind fun x3 =>
        (aI h 0 x3 v2).bind fun x4 =>
        letF (v3 + 1 : Int32) fun x5 =>
        fX9_lastOf_L8 h n v0 x4 x5
      ) else (
        some v2
      )
    )
def fX9_lastOf (h : AH) (a0 : Nat) (a1 : Int32) : Option (Int32) :=
  if hasC h 9 a0 = true then (
    (fX9_topOf h a0 a1).bind fun q6 =>
    fX9_lastOf_L8 h FU a0 q6 0
  ) else none
set_option maxHeartbeats 4000000 in
theorem gX9_lastOf_L8 {Y : YT} {X : XT} (C : CT Y X RX9 cX9_lastOf 4) (O : RO X 3 0 0) {h : AH} {r : Int32} (E : RX Y X (some .int) (some (.int r)) h 0 0) : ∀ (n : Nat) (v0 : Nat) (v2 : Int32) (v3 : Int32), GO Y X 4 r h 0 0 8 [(0, .ref v0), (2, .int v2), (3, .int v3)] [] (fX9_lastOf_L8 h n v0 v2 v3) := by
  intro n
  induction n with
  | zero => intros; exact go_none _ _ _
  | succ n ih =>
    intro v0 v2 v3
    rw [fX9_lastOf_L8]
    refine go_iload_n (pc := 8) C 2 dX9_lastOf_8 rfl ?_
    refine go_bipush (pc := 9) C dX9_lastOf_9 kb_24 ?_
    refine go_icmp_ge (pc := 11) C 39 dX9_lastOf_11 (by decide) (fun _ => ?_) (fun _ => ?_)
    · refine go_iload_n (pc := 39) C 1 dX9_lastOf_39 rfl ?_
      exact go_iret (w := (wI h)) (pc := 40) C E v2 v2 dX9_lastOf_40 rfl
    · refine go_aload_n (pc := 14) C 0 dX9_lastOf_14 rfl ?_
      refine go_aload_n (pc := 15) C 0 dX9_lastOf_15 rfl ?_
      refine go_iload_n (pc := 16) C 1 dX9_lastOf_16 rfl ?_
      refine go_bind (fun q1 hq1 => ?_)
      refine go_callV (rest := [.ref v0]) (st' := [.int q1, .ref v0]) (c' := 0) (s' := 0) (pc := 17) C O miX9_87 mvX9_shadowOf [.int v2] rfl (mX9_shadowOf hq1).1 (mX9_shadowOf hq1).2 dX9_lastOf_17 ⟨by decide, by decide, by decide, by decide⟩ rfl (Nat.le_of_ble_eq_true rfl) rfl ⟨rfl, rfl⟩ ?_
      refine go_bind (fun q2 hq2 => ?_)
      refine go_callV (rest := []) (st' := [.int (b2i q2)]) (c' := 0) (s' := 0) (pc := 20) C O miX9_55 mvX9_hasObject [.int q1] rfl (mX9_hasObject hq2).1 (mX9_hasObject hq2).2 dX9_lastOf_20 ⟨by decide, by decide, by decide, by decide⟩ rfl (Nat.le_of_ble_eq_true rfl) rfl ⟨rfl, rfl⟩ ?_
      refine go_ifZ_eq (pc := 23) C 39 dX9_lastOf_23 (by decide) (fun _ => ?_) (fun _ => ?_)
      · refine go_aload_n (pc := 26) C 0 dX9_lastOf_26 rfl ?_
        refine go_gR (pc := 27) C fdX9_21 dX9_lastOf_27 (fun x3 => ?_)
        refine go_iload_n (pc := 30) C 1 dX9_lastOf_30 rfl ?_
        refine go_iald (pc := 31) C dX9_lastOf_31 (fun x4 => ?_)
        refine go_istore_n (ls' := [(2, .int x4), (0, .ref v0), (3, .int v3)]) (pc := 32) C dX9_lastOf_32 (by decide) rfl ?_
        refine go_iincL (pc := 33) C 2 dX9_lastOf_33 rfl ki_1 (by decide) (fun x5 => [(3, .int x5), (2, .int x4), (0, .ref v0)]) (fun _ => rfl) (fun x5 => ?_)
        refine go_goto (pc := 36) C 8 dX9_lastOf_36 (by decide) ?_
        refine go_sub (ls' := [(0, .ref v0), (2, .int x4), (3, .int x5)]) [2, 1, 0] rfl ?_
        exact ih v0 x4 x5
      · refine go_iload_n (pc := 39) C 1 dX9_lastOf_39 rfl ?_
        exact go_iret (w := (wI h)) (pc := 40) C E v2 v2 dX9_lastOf_40 rfl
set_option maxHeartbeats 4000000 in
theorem mX9_lastOf {h : AH} {a0 : Nat} {a1 : Int32} {r : Int32} (hr : fX9_lastOf h a0 a1 = some r) : hasC h 9 a0 = true ∧ MC yX9_lastOf cX9_lastOf 4 (some .int) 3 0 0 [.ref a0, .int a1] h (some (.int r)) h := by
  unfold fX9_lastOf at hr
  obtain ⟨hc, hr⟩ := if_some hr
  refine ⟨hc, mc_of (l0 := [(0, .ref a0), (1, .int a1)]) rfl pn_X9 (Nat.le_of_ble_eq_true rfl) (fun Y X C E O hnm => go_run hr ?_)⟩
  have C : CT Y X RX9 cX9_lastOf 4 := C
  refine go_aload_n (pc := 0) C 0 dX9_lastOf_0 rfl ?_
  refine go_iload_n (pc := 1) C 1 dX9_lastOf_1 rfl ?_
  refine go_bind (fun q6 hq6 => ?_)
  refine go_callV (rest := []) (st' := [.int q6]) (c' := 0) (s' := 0) (pc := 2) C O miX9_84 mvX9_topOf [.int a1] rfl (mX9_topOf hq6).1 (mX9_topOf hq6).2 dX9_lastOf_2 ⟨by decide, by decide, by decide, by decide⟩ rfl (Nat.le_of_ble_eq_true rfl) rfl ⟨rfl, rfl⟩ ?_
  refine go_istore_n (ls' := [(2, .int q6), (0, .ref a0), (1, .int a1)]) (pc := 5) C dX9_lastOf_5 (by decide) rfl ?_
  refine go_iconst (pc := 6) C dX9_lastOf_6 ki_0 ?_
  refine go_istore_n (ls' := [(3, .int 0), (2, .int q6), (0, .ref a0), (1, .int a1)]) (pc := 7) C dX9_lastOf_7 (by decide) rfl ?_
  refine go_sub (ls' := [(0, .ref a0), (2, .int q6), (3, .int 0)]) [2, 1, 0] rfl ?_
  refine gX9_lastOf_L8 C O E FU a0 q6 0
theorem dX9_holderTotal_0 : decode cX9_holderTotal 0 = .ok (.iconst 0, 1) := by decide +kernel
theorem dX9_holderTotal_1 : decode cX9_holderTotal 1 = .ok (.istore_n 2, 1) := by decide +kernel
theorem dX9_holderTotal_2 : decode cX9_holderTotal 2 = .ok (.iconst 0, 1) := by decide +kernel
theorem dX9_holderTotal_3 : decode cX9_holderTotal 3 = .ok (.istore_n 3, 1) := by decide +kernel
theorem dX9_holderTotal_4 : decode cX9_holderTotal 4 = .ok (.iload_n 3, 1) := by decide +kernel
theorem dX9_holderTotal_5 : decode cX9_holderTotal 5 = .ok (.bipush 6, 2) := by decide +kernel
theorem dX9_holderTotal_7 : decode cX9_holderTotal 7 = .ok (.if_icmp .ge 27, 3) := by decide +kernel
theorem dX9_holderTotal_10 : decode cX9_holderTotal 10 = .ok (.iload_n 2, 1) := by decide +kernel
theorem dX9_holderTotal_11 : decode cX9_holderTotal 11 = .ok (.aload_n 0, 1) := by decide +kernel
theorem dX9_holderTotal_12 : decode cX9_holderTotal 12 = .ok (.getfield 9, 3) := by decide +kernel
theorem dX9_holderTotal_15 : decode cX9_holderTotal 15 = .ok (.iload_n 3, 1) := by decide +kernel
theorem dX9_holderTotal_16 : decode cX9_holderTotal 16 = .ok (.iaload, 1) := by decide +kernel
theorem dX9_holderTotal_17 : decode cX9_holderTotal 17 = .ok (.iload_n 1, 1) := by decide +kernel
theorem dX9_holderTotal_18 : decode cX9_holderTotal 18 = .ok (.if_icmp .ne 7, 3) := by decide +kernel
theorem dX9_holderTotal_21 : decode cX9_holderTotal 21 = .ok (.iconst 1, 1) := by decide +kernel
theorem dX9_holderTotal_22 : decode cX9_holderTotal 22 = .ok (.goto 4, 3) := by decide +kernel
theorem dX9_holderTotal_25 : decode cX9_holderTotal 25 = .ok (.iconst 0, 1) := by decide +kernel
theorem dX9_holderTotal_26 : decode cX9_holderTotal 26 = .ok (.iadd, 1) := by decide +kernel
theorem dX9_holderTotal_27 : decode cX9_holderTotal 27 = .ok (.istore_n 2, 1) := by decide +kernel
theorem dX9_holderTotal_28 : decode cX9_holderTotal 28 = .ok (.iinc 3 1, 3) := by decide +kernel
theorem dX9_holderTotal_31 : decode cX9_holderTotal 31 = .ok (.goto (-27), 3) := by decide +kernel
theorem dX9_holderTotal_34 : decode cX9_holderTotal 34 = .ok (.iconst 0, 1) := by decide +kernel
theorem dX9_holderTotal_35 : decode cX9_holderTotal 35 = .ok (.istore_n 3, 1) := by decide +kernel
theorem dX9_holderTotal_36 : decode cX9_holderTotal 36 = .ok (.iload_n 3, 1) := by decide +kernel
theorem dX9_holderTotal_37 : decode cX9_holderTotal 37 = .ok (.bipush 24, 2) := by decide +kernel
theorem dX9_holderTotal_39 : decode cX9_holderTotal 39 = .ok (.if_icmp .ge 27, 3) := by decide +kernel
theorem dX9_holderTotal_42 : decode cX9_holderTotal 42 = .ok (.iload_n 2, 1) := by decide +kernel
theorem dX9_holderTotal_43 : decode cX9_holderTotal 43 = .ok (.aload_n 0, 1) := by decide +kernel
theorem dX9_holderTotal_44 : decode cX9_holderTotal 44 = .ok (.getfield 21, 3) := by decide +kernel
theorem dX9_holderTotal_47 : decode cX9_holderTotal 47 = .ok (.iload_n 3, 1) := by decide +kernel
theorem dX9_holderTotal_48 : decode cX9_holderTotal 48 = .ok (.iaload, 1) := by decide +kernel
theorem dX9_holderTotal_49 : decode cX9_holderTotal 49 = .ok (.iload_n 1, 1) := by decide +kernel
theorem dX9_holderTotal_50 : decode cX9_holderTotal 50 = .ok (.if_icmp .ne 7, 3) := by decide +kernel
theorem dX9_holderTotal_53 : decode cX9_holderTotal 53 = .ok (.iconst 1, 1) := by decide +kernel
theorem dX9_holderTotal_54 : decode cX9_holderTotal 54 = .ok (.goto 4, 3) := by decide +kernel
theorem dX9_holderTotal_57 : decode cX9_holderTotal 57 = .ok (.iconst 0, 1) := by decide +kernel
theorem dX9_holderTotal_58 : decode cX9_holderTotal 58 = .ok (.iadd, 1) := by decide +kernel
theorem dX9_holderTotal_59 : decode cX9_holderTotal 59 = .ok (.istore_n 2, 1) := by decide +kernel
theorem dX9_holderTotal_60 : decode cX9_holderTotal 60 = .ok (.iinc 3 1, 3) := by decide +kernel
theorem dX9_holderTotal_63 : decode cX9_holderTotal 63 = .ok (.goto (-27), 3) := by decide +kernel
theorem dX9_holderTotal_66 : decode cX9_holderTotal 66 = .ok (.iload_n 2, 1) := by decide +kernel
theorem dX9_holderTotal_67 : decode cX9_holderTotal 67 = .ok (.ireturn, 1) := by decide +kernel
def fX9_holderTotal_J26 (h : AH) (k4 : Nat → Int32 → Int32 → Int32 → Option (Int32)) (v0 : Nat) (v1 : Int32) (v3 : Int32) (s0 : Int32) (s1 : Int32) : Option (Int32) :=
    letF (s1 + s0 : Int32) fun x1 =>
    letF (v3 + 1 : Int32) fun x2 =>
    k4 v0 v1 x1 x2
def fX9_holderTotal_L4 (h : AH) (k34 : Nat → Int32 → Int32 → Option (Int32)) : Nat → Nat → Int32 → Int32 → Int32 → Option (Int32)
  | 0, _, _, _, _ => none
  | n + 1, v0, v1, v2, v3 =>
    if 6 ≤ v3 then (
      k34 v0 v1 v2
    ) else (
      (gR h 9 v0 4).bind fun x3 =>
      (aI h 0 x3 v3).bind fun x4 =>
      if x4 = v1 then (
        fX9_holderTotal_J26 h (fX9_holderTotal_L4 h k34 n) v0 v1 v3 1 v2
      ) else (
        fX9_holderTotal_J26 h (fX9_holderTotal_L4 h k34 n) v0 v1 v3 0 v2
      )
    )
def fX9_holderTotal_J58 (h : AH) (k36 : Nat → Int32 → Int32 → Int32 → Option (Int32)) (v0 : Nat) (v1 : Int32) (v3 : Int32) (s0 : Int32) (s1 : Int32) : Option (Int32) :=
    letF (s1 + s0 : Int32) fun x5 =>
    letF (v3 + 1 : Int32) fun x6 =>
    k36 v0 v1 x5 x6
def fX9_holderTotal_L36 (h : AH) : Nat → Nat → Int32 → Int32 → Int32 → Option (Int32)
  | 0, _, _, _, _ => none
  | n + 1, v0, v1, v2, v3 =>
    if 24 ≤ v3 then (
      some v2
    ) else (
      (gR h 9 v0 7).bind fun x7 =>
      (aI h 0 x7 v3).bind fun x8 =>
      if x8 = v1 then (
        fX9_holderTotal_J58 h (fX9_holderTotal_L36 h n) v0 v1 v3 1 v2
      ) else (
        fX9_holderTotal_J58 h (fX9_holderTotal_L36 h n) v0 v1 v3 0 v2
      )
    )
def fX9_holderTotal (h : AH) (a0 : Nat) (a1 : Int32) : Option (Int32) :=
  if hasC h 9 a0 = true then (
    fX9_holderTotal_L4 h
      (fun x9 x10 x11 =>
        fX9_holderTotal_L36 h FU x9 x10 x11 0)
      FU a0 a1 0 0
  ) else none
set_option maxHeartbeats 4000000 in
theorem gX9_holderTotal_J26 {Y : YT} {X : XT} (C : CT Y X RX9 cX9_holderTotal 4) (O : RO X 1 0 0) {h : AH} {r : Int32} (E : RX Y X (some .int) (some (.int r)) h 0 0) {k4 : Nat → Int32 → Int32 → Int32 → Option (Int32)} (hk4 : ∀ (v0 : Nat) (v1 : Int32) (v2 : Int32) (v3 : Int32), GO Y X 4 r h 0 0 4 [(0, .ref v0), (1, .int v1), (2, .int v2), (3, .int v3)] [] (k4 v0 v1 v2 v3)) : ∀ (v0 : Nat) (v1 : Int32) (v3 : Int32) (s0 : Int32) (s1 : Int32), GO Y X 4 r h 0 0 26 [(0, .ref v0), (1, .int v1), (3, .int v3)] [.int s0, .int s1] (fX9_holderTotal_J26 h k4 v0 v1 v3 s0 s1) := by
  intro v0 v1 v3 s0 s1
  unfold fX9_holderTotal_J26
  refine go_iadd (pc := 26) C dX9_holderTotal_26 ?_
  refine go_istore_nL (pc := 27) C dX9_holderTotal_27 (by decide) (fun x1 => [(2, .int x1), (0, .ref v0), (1, .int v1), (3, .int v3)]) (fun _ => rfl) (fun x1 => ?_)
  refine go_iincL (pc := 28) C 3 dX9_holderTotal_28 rfl ki_1 (by decide) (fun x2 => [(3, .int x2), (2, .int x1), (0, .ref v0), (1, .int v1)]) (fun _ => rfl) (fun x2 => ?_)
  refine go_goto (pc := 31) C 4 dX9_holderTotal_31 (by decide) ?_
  refine go_sub (ls' := [(0, .ref v0), (1, .int v1), (2, .int x1), (3, .int x2)]) [2, 3, 1, 0] rfl ?_
  exact hk4 v0 v1 x1 x2
set_option maxHeartbeats 4000000 in
theorem gX9_holderTotal_L4 {Y : YT} {X : XT} (C : CT Y X RX9 cX9_holderTotal 4) (O : RO X 1 0 0) {h : AH} {r : Int32} (E : RX Y X (some .int) (some (.int r)) h 0 0) {k34 : Nat → Int32 → Int32 → Option (Int32)} (hk34 : ∀ (v0 : Nat) (v1 : Int32) (v2 : Int32), GO Y X 4 r h 0 0 34 [(0, .ref v0), (1, .int v1), (2, .int v2)] [] (k34 v0 v1 v2)) : ∀ (n : Nat) (v0 : Nat) (v1 : Int32) (v2 : Int32) (v3 : Int32), GO Y X 4 r h 0 0 4 [(0, .ref v0), (1, .int v1), (2, .int v2), (3, .int v3)] [] (fX9_holderTotal_L4 h k34 n v0 v1 v2 v3) := by
  intro n
  induction n with
  | zero => intros; exact go_none _ _ _
  | succ n ih =>
    intro v0 v1 v2 v3
    rw [fX9_holderTotal_L4]
    refine go_iload_n (pc := 4) C 3 dX9_holderTotal_4 rfl ?_
    refine go_bipush (pc := 5) C dX9_holderTotal_5 kb_6 ?_
    refine go_icmp_ge (pc := 7) C 34 dX9_holderTotal_7 (by decide) (fun _ => ?_) (fun _ => ?_)
    · refine go_sub (ls' := [(0, .ref v0), (1, .int v1), (2, .int v2)]) [0, 1, 2] rfl ?_
      exact hk34 v0 v1 v2
    · refine go_iload_n (pc := 10) C 2 dX9_holderTotal_10 rfl ?_
      refine go_aload_n (pc := 11) C 0 dX9_holderTotal_11 rfl ?_
      refine go_gR (pc := 12) C fdX9_9 dX9_holderTotal_12 (fun x3 => ?_)
      refine go_iload_n (pc := 15) C 3 dX9_holderTotal_15 rfl ?_
      refine go_iald (pc := 16) C dX9_holderTotal_16 (fun x4 => ?_)
      refine go_iload_n (pc := 17) C 1 dX9_holderTotal_17 rfl ?_
      refine go_icmp_ne (pc := 18) C 25 dX9_holderTotal_18 (by decide) (fun _ => ?_) (fun _ => ?_)
      · refine go_iconst (pc := 21) C dX9_holderTotal_21 ki_1 ?_
        refine go_goto (pc := 22) C 26 dX9_holderTotal_22 (by decide) ?_
        refine go_sub (ls' := [(0, .ref v0), (1, .int v1), (3, .int v3)]) [0, 1, 3] rfl ?_
        refine gX9_holderTotal_J26 C O E (ih) v0 v1 v3 1 v2
      · refine go_iconst (pc := 25) C dX9_holderTotal_25 ki_0 ?_
        refine go_sub (ls' := [(0, .ref v0), (1, .int v1), (3, .int v3)]) [0, 1, 3] rfl ?_
        refine gX9_holderTotal_J26 C O E (ih) v0 v1 v3 0 v2
set_option maxHeartbeats 4000000 in
theorem gX9_holderTotal_J58 {Y : YT} {X : XT} (C : CT Y X RX9 cX9_holderTotal 4) (O : RO X 1 0 0) {h : AH} {r : Int32} (E : RX Y X (some .int) (some (.int r)) h 0 0) {k36 : Nat → Int32 → Int32 → Int32 → Option (Int32)} (hk36 : ∀ (v0 : Nat) (v1 : Int32) (v2 : Int32) (v3 : Int32), GO Y X 4 r h 0 0 36 [(0, .ref v0), (1, .int v1), (2, .int v2), (3, .int v3)] [] (k36 v0 v1 v2 v3)) : ∀ (v0 : Nat) (v1 : Int32) (v3 : Int32) (s0 : Int32) (s1 : Int32), GO Y X 4 r h 0 0 58 [(0, .ref v0), (1, .int v1), (3, .int v3)] [.int s0, .int s1] (fX9_holderTotal_J58 h k36 v0 v1 v3 s0 s1) := by
  intro v0 v1 v3 s0 s1
  unfold fX9_holderTotal_J58
  refine go_iadd (pc := 58) C dX9_holderTotal_58 ?_
  refine go_istore_nL (pc := 59) C dX9_holderTotal_59 (by decide) (fun x5 => [(2, .int x5), (0, .ref v0), (1, .int v1), (3, .int v3)]) (fun _ => rfl) (fun x5 => ?_)
  refine go_iincL (pc := 60) C 3 dX9_holderTotal_60 rfl ki_1 (by decide) (fun x6 => [(3, .int x6), (2, .int x5), (0, .ref v0), (1, .int v1)]) (fun _ => rfl) (fun x6 => ?_)
  refine go_goto (pc := 63) C 36 dX9_holderTotal_63 (by decide) ?_
  refine go_sub (ls' := [(0, .ref v0), (1, .int v1), (2, .int x5), (3, .int x6)]) [2, 3, 1, 0] rfl ?_
  exact hk36 v0 v1 x5 x6
set_option maxHeartbeats 4000000 in
theorem gX9_holderTotal_L36 {Y : YT} {X : XT} (C : CT Y X RX9 cX9_holderTotal 4) (O : RO X 1 0 0) {h : AH} {r : Int32} (E : RX Y X (some .int) (some (.int r)) h 0 0) : ∀ (n : Nat) (v0 : Nat) (v1 : Int32) (v2 : Int32) (v3 : Int32), GO Y X 4 r h 0 0 36 [(0, .ref v0), (1, .int v1), (2, .int v2), (3, .int v3)] [] (fX9_holderTotal_L36 h n v0 v1 v2 v3) := by
  intro n
  induction n with
  | zero => intros; exact go_none _ _ _
  | succ n ih =>
    intro v0 v1 v2 v3
    rw [fX9_holderTotal_L36]
    refine go_iload_n (pc := 36) C 3 dX9_holderTotal_36 rfl ?_
    refine go_bipush (pc := 37) C dX9_holderTotal_37 kb_24 ?_
    refine go_icmp_ge (pc := 39) C 66 dX9_holderTotal_39 (by decide) (fun _ => ?_) (fun _ => ?_)
    · refine go_iload_n (pc := 66) C 2 dX9_holderTotal_66 rfl ?_
      exact go_iret (w := (wI h)) (pc := 67) C E v2 v2 dX9_holderTotal_67 rfl
    · refine go_iload_n (pc := 42) C 2 dX9_holderTotal_42 rfl ?_
      refine go_aload_n (pc := 43) C 0 dX9_holderTotal_43 rfl ?_
      refine go_gR (pc := 44) C fdX9_21 dX9_holderTotal_44 (fun x7 => ?_)
      refine go_iload_n (pc := 47) C 3 dX9_holderTotal_47 rfl ?_
      refine go_iald (pc := 48) C dX9_holderTotal_48 (fun x8 => ?_)
      refine go_iload_n (pc := 49) C 1 dX9_holderTotal_49 rfl ?_
      refine go_icmp_ne (pc := 50) C 57 dX9_holderTotal_50 (by decide) (fun _ => ?_) (fun _ => ?_)
      · refine go_iconst (pc := 53) C dX9_holderTotal_53 ki_1 ?_
        refine go_goto (pc := 54) C 58 dX9_holderTotal_54 (by decide) ?_
        refine go_sub (ls' := [(0, .ref v0), (1, .int v1), (3, .int v3)]) [0, 1, 3] rfl ?_
        refine gX9_holderTotal_J58 C O E (ih) v0 v1 v3 1 v2
      · refine go_iconst (pc := 57) C dX9_holderTotal_57 ki_0 ?_
        refine go_sub (ls' := [(0, .ref v0), (1, .int v1), (3, .int v3)]) [0, 1, 3] rfl ?_
        refine gX9_holderTotal_J58 C O E (ih) v0 v1 v3 0 v2
set_option maxHeartbeats 4000000 in
theorem mX9_holderTotal {h : AH} {a0 : Nat} {a1 : Int32} {r : Int32} (hr : fX9_holderTotal h a0 a1 = some r) : hasC h 9 a0 = true ∧ MC yX9_holderTotal cX9_holderTotal 4 (some .int) 1 0 0 [.ref a0, .int a1] h (some (.int r)) h := by
  unfold fX9_holderTotal at hr
  obtain ⟨hc, hr⟩ := if_some hr
  refine ⟨hc, mc_of (l0 := [(0, .ref a0), (1, .int a1)]) rfl pn_X9 (Nat.le_of_ble_eq_true rfl) (fun Y X C E O hnm => go_run hr ?_)⟩
  have C : CT Y X RX9 cX9_holderTotal 4 := C
  refine go_iconst (pc := 0) C dX9_holderTotal_0 ki_0 ?_
  refine go_istore_n (ls' := [(2, .int 0), (0, .ref a0), (1, .int a1)]) (pc := 1) C dX9_holderTotal_1 (by decide) rfl ?_
  refine go_iconst (pc := 2) C dX9_holderTotal_2 ki_0 ?_
  refine go_istore_n (ls' := [(3, .int 0), (2, .int 0), (0, .ref a0), (1, .int a1)]) (pc := 3) C dX9_holderTotal_3 (by decide) rfl ?_
  refine go_sub (ls' := [(0, .ref a0), (1, .int a1), (2, .int 0), (3, .int 0)]) [2, 3, 1, 0] rfl ?_
  refine gX9_holderTotal_L4 C O E (fun x9 x10 x11 => ?_) FU a0 a1 0 0
  · refine go_iconst (pc := 34) C dX9_holderTotal_34 ki_0 ?_
    refine go_istore_n (ls' := [(3, .int 0), (0, .ref x9), (1, .int x10), (2, .int x11)]) (pc := 35) C dX9_holderTotal_35 (by decide) rfl ?_
    refine go_sub (ls' := [(0, .ref x9), (1, .int x10), (2, .int x11), (3, .int 0)]) [1, 2, 3, 0] rfl ?_
    refine gX9_holderTotal_L36 C O E FU x9 x10 x11 0
theorem dX9_spacesAbove_0 : decode cX9_spacesAbove 0 = .ok (.iconst 0, 1) := by decide +kernel
theorem dX9_spacesAbove_1 : decode cX9_spacesAbove 1 = .ok (.istore_n 2, 1) := by decide +kernel
theorem dX9_spacesAbove_2 : decode cX9_spacesAbove 2 = .ok (.iconst 0, 1) := by decide +kernel
theorem dX9_spacesAbove_3 : decode cX9_spacesAbove 3 = .ok (.istore_n 3, 1) := by decide +kernel
theorem dX9_spacesAbove_4 : decode cX9_spacesAbove 4 = .ok (.iload_n 3, 1) := by decide +kernel
theorem dX9_spacesAbove_5 : decode cX9_spacesAbove 5 = .ok (.bipush 6, 2) := by decide +kernel
theorem dX9_spacesAbove_7 : decode cX9_spacesAbove 7 = .ok (.if_icmp .ge 37, 3) := by decide +kernel
theorem dX9_spacesAbove_10 : decode cX9_spacesAbove 10 = .ok (.aload_n 0, 1) := by decide +kernel
theorem dX9_spacesAbove_11 : decode cX9_spacesAbove 11 = .ok (.iload_n 3, 1) := by decide +kernel
theorem dX9_spacesAbove_12 : decode cX9_spacesAbove 12 = .ok (.invokevirtual 78, 3) := by decide +kernel
theorem dX9_spacesAbove_15 : decode cX9_spacesAbove 15 = .ok (.ifCond .eq 23, 3) := by decide +kernel
theorem dX9_spacesAbove_18 : decode cX9_spacesAbove 18 = .ok (.aload_n 0, 1) := by decide +kernel
theorem dX9_spacesAbove_19 : decode cX9_spacesAbove 19 = .ok (.iload_n 3, 1) := by decide +kernel
theorem dX9_spacesAbove_20 : decode cX9_spacesAbove 20 = .ok (.iload_n 1, 1) := by decide +kernel
theorem dX9_spacesAbove_21 : decode cX9_spacesAbove 21 = .ok (.invokevirtual 90, 3) := by decide +kernel
theorem dX9_spacesAbove_24 : decode cX9_spacesAbove 24 = .ok (.aload_n 0, 1) := by decide +kernel
theorem dX9_spacesAbove_25 : decode cX9_spacesAbove 25 = .ok (.iload_n 3, 1) := by decide +kernel
theorem dX9_spacesAbove_26 : decode cX9_spacesAbove 26 = .ok (.invokevirtual 94, 3) := by decide +kernel
theorem dX9_spacesAbove_29 : decode cX9_spacesAbove 29 = .ok (.if_icmp .ge 9, 3) := by decide +kernel
theorem dX9_spacesAbove_32 : decode cX9_spacesAbove 32 = .ok (.iload_n 2, 1) := by decide +kernel
theorem dX9_spacesAbove_33 : decode cX9_spacesAbove 33 = .ok (.iconst 1, 1) := by decide +kernel
theorem dX9_spacesAbove_34 : decode cX9_spacesAbove 34 = .ok (.iload_n 3, 1) := by decide +kernel
theorem dX9_spacesAbove_35 : decode cX9_spacesAbove 35 = .ok (.ishl, 1) := by decide +kernel
theorem dX9_spacesAbove_36 : decode cX9_spacesAbove 36 = .ok (.ior, 1) := by decide +kernel
theorem dX9_spacesAbove_37 : decode cX9_spacesAbove 37 = .ok (.istore_n 2, 1) := by decide +kernel
theorem dX9_spacesAbove_38 : decode cX9_spacesAbove 38 = .ok (.iinc 3 1, 3) := by decide +kernel
theorem dX9_spacesAbove_41 : decode cX9_spacesAbove 41 = .ok (.goto (-37), 3) := by decide +kernel
theorem dX9_spacesAbove_44 : decode cX9_spacesAbove 44 = .ok (.iload_n 2, 1) := by decide +kernel
theorem dX9_spacesAbove_45 : decode cX9_spacesAbove 45 = .ok (.ireturn, 1) := by decide +kernel
def fX9_spacesAbove_L4 (h : AH) : Nat → Nat → Int32 → Int32 → Int32 → Option (Int32)
  | 0, _, _, _, _ => none
  | n + 1, v0, v1, v2, v3 =>
    if 6 ≤ v3 then (
      some v2
    ) else (
      (fX9_hasSpace h v0 v3).bind fun q1 =>
      if q1 = true then (
        (fX9_placeOf h v0 v3 v1).bind fun q2 =>
        (fX9_chainLength h v0 v3).bind fun q3 =>
        if q3 ≤ q2 then (
          letF (v3 + 1 : Int32) fun x4 =>
          fX9_spacesAbove_L4 h n v0 v1 v2 x4
        ) else (
          letF (v2 ||| (1 <<< (v3 &&& 31)) : Int32) fun x5 =>
          letF (v3 + 1 : Int32) fun x6 =>
          fX9_spacesAbove_L4 h n v0 v1 x5 x6
        )
      ) else (
        letF (v3 + 1 : Int32) fun x7 =>
        fX9_spacesAbove_L4 h n v0 v1 v2 x7
      )
    )
def fX9_spacesAbove (h : AH) (a0 : Nat) (a1 : Int32) : Option (Int32) :=
  if hasC h 9 a0 = true then (
    fX9_spacesAbove_L4 h FU a0 a1 0 0
  ) else none
set_option maxHeartbeats 4000000 in
theorem gX9_spacesAbove_L4 {Y : YT} {X : XT} (C : CT Y X RX9 cX9_spacesAbove 4) (O : RO X 4 0 0) {h : AH} {r : Int32} (E : RX Y X (some .int) (some (.int r)) h 0 0) : ∀ (n : Nat) (v0 : Nat) (v1 : Int32) (v2 : Int32) (v3 : Int32), GO Y X 4 r h 0 0 4 [(0, .ref v0), (1, .int v1), (2, .int v2), (3, .int v3)] [] (fX9_spacesAbove_L4 h n v0 v1 v2 v3) := by
  intro n
  induction n with
  | zero => intros; exact go_none _ _ _
  | succ n ih =>
    intro v0 v1 v2 v3
    rw [fX9_spacesAbove_L4]
    refine go_iload_n (pc := 4) C 3 dX9_spacesAbove_4 rfl ?_
    refine go_bipush (pc := 5) C dX9_spacesAbove_5 kb_6 ?_
    refine go_icmp_ge (pc := 7) C 44 dX9_spacesAbove_7 (by decide) (fun _ => ?_) (fun _ => ?_)
    · refine go_iload_n (pc := 44) C 2 dX9_spacesAbove_44 rfl ?_
      exact go_iret (w := (wI h)) (pc := 45) C E v2 v2 dX9_spacesAbove_45 rfl
    · refine go_aload_n (pc := 10) C 0 dX9_spacesAbove_10 rfl ?_
      refine go_iload_n (pc := 11) C 3 dX9_spacesAbove_11 rfl ?_
      refine go_bind (fun q1 hq1 => ?_)
      refine go_callV (rest := []) (st' := [.int (b2i q1)]) (c' := 0) (s' := 0) (pc := 12) C O miX9_78 mvX9_hasSpace [.int v3] rfl (mX9_hasSpace hq1).1 (mX9_hasSpace hq1).2 dX9_spacesAbove_12 ⟨by decide, by decide, by decide, by decide⟩ rfl (Nat.le_of_ble_eq_true rfl) rfl ⟨rfl, rfl⟩ ?_
      refine go_ifZ_eq (pc := 15) C 38 dX9_spacesAbove_15 (by decide) (fun _ => ?_) (fun _ => ?_)
      · refine go_aload_n (pc := 18) C 0 dX9_spacesAbove_18 rfl ?_
        refine go_iload_n (pc := 19) C 3 dX9_spacesAbove_19 rfl ?_
        refine go_iload_n (pc := 20) C 1 dX9_spacesAbove_20 rfl ?_
        refine go_bind (fun q2 hq2 => ?_)
        refine go_callV (rest := []) (st' := [.int q2]) (c' := 0) (s' := 0) (pc := 21) C O miX9_90 mvX9_placeOf [.int v3, .int v1] rfl (mX9_placeOf hq2).1 (mX9_placeOf hq2).2 dX9_spacesAbove_21 ⟨by decide, by decide, by decide, by decide⟩ rfl (Nat.le_of_ble_eq_true rfl) rfl ⟨rfl, rfl⟩ ?_
        refine go_aload_n (pc := 24) C 0 dX9_spacesAbove_24 rfl ?_
        refine go_iload_n (pc := 25) C 3 dX9_spacesAbove_25 rfl ?_
        refine go_bind (fun q3 hq3 => ?_)
        refine go_callV (rest := [.int q2]) (st' := [.int q3, .int q2]) (c' := 0) (s' := 0) (pc := 26) C O miX9_94 mvX9_chainLength [.int v3] rfl (mX9_chainLength hq3).1 (mX9_chainLength hq3).2 dX9_spacesAbove_26 ⟨by decide, by decide, by decide, by decide⟩ rfl (Nat.le_of_ble_eq_true rfl) rfl ⟨rfl, rfl⟩ ?_
        refine go_icmp_ge (pc := 29) C 38 dX9_spacesAbove_29 (by decide) (fun _ => ?_) (fun _ => ?_)
        · refine go_iincL (pc := 38) C 3 dX9_spacesAbove_38 rfl ki_1 (by decide) (fun x4 => [(3, .int x4), (0, .ref v0), (1, .int v1), (2, .int v2)]) (fun _ => rfl) (fun x4 => ?_)
          refine go_goto (pc := 41) C 4 dX9_spacesAbove_41 (by decide) ?_
          refine go_sub (ls' := [(0, .ref v0), (1, .int v1), (2, .int v2), (3, .int x4)]) [1, 2, 3, 0] rfl ?_
          exact ih v0 v1 v2 x4
        · refine go_iload_n (pc := 32) C 2 dX9_spacesAbove_32 rfl ?_
          refine go_iconst (pc := 33) C dX9_spacesAbove_33 ki_1 ?_
          refine go_iload_n (pc := 34) C 3 dX9_spacesAbove_34 rfl ?_
          refine go_ishl (pc := 35) C dX9_spacesAbove_35 ?_
          refine go_ior (pc := 36) C dX9_spacesAbove_36 ?_
          refine go_istore_nL (pc := 37) C dX9_spacesAbove_37 (by decide) (fun x5 => [(2, .int x5), (0, .ref v0), (1, .int v1), (3, .int v3)]) (fun _ => rfl) (fun x5 => ?_)
          refine go_iincL (pc := 38) C 3 dX9_spacesAbove_38 rfl ki_1 (by decide) (fun x6 => [(3, .int x6), (2, .int x5), (0, .ref v0), (1, .int v1)]) (fun _ => rfl) (fun x6 => ?_)
          refine go_goto (pc := 41) C 4 dX9_spacesAbove_41 (by decide) ?_
          refine go_sub (ls' := [(0, .ref v0), (1, .int v1), (2, .int x5), (3, .int x6)]) [2, 3, 1, 0] rfl ?_
          exact ih v0 v1 x5 x6
      · refine go_iincL (pc := 38) C 3 dX9_spacesAbove_38 rfl ki_1 (by decide) (fun x7 => [(3, .int x7), (0, .ref v0), (1, .int v1), (2, .int v2)]) (fun _ => rfl) (fun x7 => ?_)
        refine go_goto (pc := 41) C 4 dX9_spacesAbove_41 (by decide) ?_
        refine go_sub (ls' := [(0, .ref v0), (1, .int v1), (2, .int v2), (3, .int x7)]) [1, 2, 3, 0] rfl ?_
        exact ih v0 v1 v2 x7
set_option maxHeartbeats 4000000 in
theorem mX9_spacesAbove {h : AH} {a0 : Nat} {a1 : Int32} {r : Int32} (hr : fX9_spacesAbove h a0 a1 = some r) : hasC h 9 a0 = true ∧ MC yX9_spacesAbove cX9_spacesAbove 4 (some .int) 4 0 0 [.ref a0, .int a1] h (some (.int r)) h := by
  unfold fX9_spacesAbove at hr
  obtain ⟨hc, hr⟩ := if_some hr
  refine ⟨hc, mc_of (l0 := [(0, .ref a0), (1, .int a1)]) rfl pn_X9 (Nat.le_of_ble_eq_true rfl) (fun Y X C E O hnm => go_run hr ?_)⟩
  have C : CT Y X RX9 cX9_spacesAbove 4 := C
  refine go_iconst (pc := 0) C dX9_spacesAbove_0 ki_0 ?_
  refine go_istore_n (ls' := [(2, .int 0), (0, .ref a0), (1, .int a1)]) (pc := 1) C dX9_spacesAbove_1 (by decide) rfl ?_
  refine go_iconst (pc := 2) C dX9_spacesAbove_2 ki_0 ?_
  refine go_istore_n (ls' := [(3, .int 0), (2, .int 0), (0, .ref a0), (1, .int a1)]) (pc := 3) C dX9_spacesAbove_3 (by decide) rfl ?_
  refine go_sub (ls' := [(0, .ref a0), (1, .int a1), (2, .int 0), (3, .int 0)]) [2, 3, 1, 0] rfl ?_
  refine gX9_spacesAbove_L4 C O E FU a0 a1 0 0
theorem dX9_isSeen_0 : decode cX9_isSeen 0 = .ok (.iconst 0, 1) := by decide +kernel
theorem dX9_isSeen_1 : decode cX9_isSeen 1 = .ok (.istore_n 3, 1) := by decide +kernel
theorem dX9_isSeen_2 : decode cX9_isSeen 2 = .ok (.iload_n 3, 1) := by decide +kernel
theorem dX9_isSeen_3 : decode cX9_isSeen 3 = .ok (.bipush 6, 2) := by decide +kernel
theorem dX9_isSeen_5 : decode cX9_isSeen 5 = .ok (.if_icmp .ge 21, 3) := by decide +kernel
theorem dX9_isSeen_8 : decode cX9_isSeen 8 = .ok (.aload_n 0, 1) := by decide +kernel
theorem dX9_isSeen_9 : decode cX9_isSeen 9 = .ok (.iload_n 3, 1) := by decide +kernel
theorem dX9_isSeen_10 : decode cX9_isSeen 10 = .ok (.iload_n 2, 1) := by decide +kernel
theorem dX9_isSeen_11 : decode cX9_isSeen 11 = .ok (.invokevirtual 97, 3) := by decide +kernel
theorem dX9_isSeen_14 : decode cX9_isSeen 14 = .ok (.iload_n 1, 1) := by decide +kernel
theorem dX9_isSeen_15 : decode cX9_isSeen 15 = .ok (.if_icmp .ne 5, 3) := by decide +kernel
theorem dX9_isSeen_18 : decode cX9_isSeen 18 = .ok (.iconst 1, 1) := by decide +kernel
theorem dX9_isSeen_19 : decode cX9_isSeen 19 = .ok (.ireturn, 1) := by decide +kernel
theorem dX9_isSeen_20 : decode cX9_isSeen 20 = .ok (.iinc 3 1, 3) := by decide +kernel
theorem dX9_isSeen_23 : decode cX9_isSeen 23 = .ok (.goto (-21), 3) := by decide +kernel
theorem dX9_isSeen_26 : decode cX9_isSeen 26 = .ok (.iconst 0, 1) := by decide +kernel
theorem dX9_isSeen_27 : decode cX9_isSeen 27 = .ok (.ireturn, 1) := by decide +kernel
def fX9_isSeen_L2 (h : AH) : Nat → Nat → Int32 → Int32 → Int32 → Option (Bool)
  | 0, _, _, _, _ => none
  | n + 1, v0, v1, v2, v3 =>
    if 6 ≤ v3 then (
      some false
    ) else (
      (fX9_firstHolder h v0 v3 v2).bind fun q1 =>
      if q1 = v1 then (
        some true
      ) else (
        letF (v3 + 1 : Int32) fun x2 =>
        fX9_isSeen_L2 h n v0 v1 v2 x2
      )
    )
def fX9_isSeen (h : AH) (a0 : Nat) (a1 : Int32) (a2 : Int32) : Option (Bool) :=
  if hasC h 9 a0 = true then (
    fX9_isSeen_L2 h FU a0 a1 a2 0
  ) else none
set_option maxHeartbeats 4000000 in
theorem gX9_isSeen_L2 {Y : YT} {X : XT} (C : CT Y X RX9 cX9_isSeen 4) (O : RO X 4 0 0) {h : AH} {r : Bool} (E : RX Y X (some .boolean) (some (.int (b2i r))) h 0 0) : ∀ (n : Nat) (v0 : Nat) (v1 : Int32) (v2 : Int32) (v3 : Int32), GO Y X 4 r h 0 0 2 [(0, .ref v0), (1, .int v1), (2, .int v2), (3, .int v3)] [] (fX9_isSeen_L2 h n v0 v1 v2 v3) := by
  intro n
  induction n with
  | zero => intros; exact go_none _ _ _
  | succ n ih =>
    intro v0 v1 v2 v3
    rw [fX9_isSeen_L2]
    refine go_iload_n (pc := 2) C 3 dX9_isSeen_2 rfl ?_
    refine go_bipush (pc := 3) C dX9_isSeen_3 kb_6 ?_
    refine go_icmp_ge (pc := 5) C 26 dX9_isSeen_5 (by decide) (fun _ => ?_) (fun _ => ?_)
    · refine go_iconst (pc := 26) C dX9_isSeen_26 ki_0 ?_
      exact go_bret (w := (wZ h)) (pc := 27) C E false 0 false rfl dX9_isSeen_27 rfl
    · refine go_aload_n (pc := 8) C 0 dX9_isSeen_8 rfl ?_
      refine go_iload_n (pc := 9) C 3 dX9_isSeen_9 rfl ?_
      refine go_iload_n (pc := 10) C 2 dX9_isSeen_10 rfl ?_
      refine go_bind (fun q1 hq1 => ?_)
      refine go_callV (rest := []) (st' := [.int q1]) (c' := 0) (s' := 0) (pc := 11) C O miX9_97 mvX9_firstHolder [.int v3, .int v2] rfl (mX9_firstHolder hq1).1 (mX9_firstHolder hq1).2 dX9_isSeen_11 ⟨by decide, by decide, by decide, by decide⟩ rfl (Nat.le_of_ble_eq_true rfl) rfl ⟨rfl, rfl⟩ ?_
      refine go_iload_n (pc := 14) C 1 dX9_isSeen_14 rfl ?_
      refine go_icmp_ne (pc := 15) C 20 dX9_isSeen_15 (by decide) (fun _ => ?_) (fun _ => ?_)
      · refine go_iconst (pc := 18) C dX9_isSeen_18 ki_1 ?_
        exact go_bret (w := (wZ h)) (pc := 19) C E true 1 true rfl dX9_isSeen_19 rfl
      · refine go_iincL (pc := 20) C 3 dX9_isSeen_20 rfl ki_1 (by decide) (fun x2 => [(3, .int x2), (0, .ref v0), (1, .int v1), (2, .int v2)]) (fun _ => rfl) (fun x2 => ?_)
        refine go_goto (pc := 23) C 2 dX9_isSeen_23 (by decide) ?_
        refine go_sub (ls' := [(0, .ref v0), (1, .int v1), (2, .int v2), (3, .int x2)]) [1, 2, 3, 0] rfl ?_
        exact ih v0 v1 v2 x2
set_option maxHeartbeats 4000000 in
theorem mX9_isSeen {h : AH} {a0 : Nat} {a1 : Int32} {a2 : Int32} {r : Bool} (hr : fX9_isSeen h a0 a1 a2 = some r) : hasC h 9 a0 = true ∧ MC yX9_isSeen cX9_isSeen 4 (some .boolean) 4 0 0 [.ref a0, .int a1, .int a2] h (some (.int (b2i r))) h := by
  unfold fX9_isSeen at hr
  obtain ⟨hc, hr⟩ := if_some hr
  refine ⟨hc, mc_of (l0 := [(0, .ref a0), (1, .int a1), (2, .int a2)]) rfl pn_X9 (Nat.le_of_ble_eq_true rfl) (fun Y X C E O hnm => go_run hr ?_)⟩
  have C : CT Y X RX9 cX9_isSeen 4 := C
  refine go_iconst (pc := 0) C dX9_isSeen_0 ki_0 ?_
  refine go_istore_n (ls' := [(3, .int 0), (0, .ref a0), (1, .int a1), (2, .int a2)]) (pc := 1) C dX9_isSeen_1 (by decide) rfl ?_
  refine go_sub (ls' := [(0, .ref a0), (1, .int a1), (2, .int a2), (3, .int 0)]) [1, 2, 3, 0] rfl ?_
  refine gX9_isSeen_L2 C O E FU a0 a1 a2 0
theorem dX9_eagerTotal_0 : decode cX9_eagerTotal 0 = .ok (.iconst 0, 1) := by decide +kernel
theorem dX9_eagerTotal_1 : decode cX9_eagerTotal 1 = .ok (.istore_n 1, 1) := by decide +kernel
theorem dX9_eagerTotal_2 : decode cX9_eagerTotal 2 = .ok (.iconst 0, 1) := by decide +kernel
theorem dX9_eagerTotal_3 : decode cX9_eagerTotal 3 = .ok (.istore_n 2, 1) := by decide +kernel
theorem dX9_eagerTotal_4 : decode cX9_eagerTotal 4 = .ok (.iload_n 2, 1) := by decide +kernel
theorem dX9_eagerTotal_5 : decode cX9_eagerTotal 5 = .ok (.bipush 6, 2) := by decide +kernel
theorem dX9_eagerTotal_7 : decode cX9_eagerTotal 7 = .ok (.if_icmp .ge 42, 3) := by decide +kernel
theorem dX9_eagerTotal_10 : decode cX9_eagerTotal 10 = .ok (.iconst 0, 1) := by decide +kernel
theorem dX9_eagerTotal_11 : decode cX9_eagerTotal 11 = .ok (.istore_n 3, 1) := by decide +kernel
theorem dX9_eagerTotal_12 : decode cX9_eagerTotal 12 = .ok (.iload_n 3, 1) := by decide +kernel
theorem dX9_eagerTotal_13 : decode cX9_eagerTotal 13 = .ok (.bipush 8, 2) := by decide +kernel
theorem dX9_eagerTotal_15 : decode cX9_eagerTotal 15 = .ok (.if_icmp .ge 28, 3) := by decide +kernel
theorem dX9_eagerTotal_18 : decode cX9_eagerTotal 18 = .ok (.iload_n 1, 1) := by decide +kernel
theorem dX9_eagerTotal_19 : decode cX9_eagerTotal 19 = .ok (.aload_n 0, 1) := by decide +kernel
theorem dX9_eagerTotal_20 : decode cX9_eagerTotal 20 = .ok (.iload_n 2, 1) := by decide +kernel
theorem dX9_eagerTotal_21 : decode cX9_eagerTotal 21 = .ok (.iload_n 3, 1) := by decide +kernel
theorem dX9_eagerTotal_22 : decode cX9_eagerTotal 22 = .ok (.invokevirtual 97, 3) := by decide +kernel
theorem dX9_eagerTotal_25 : decode cX9_eagerTotal 25 = .ok (.bipush 24, 2) := by decide +kernel
theorem dX9_eagerTotal_27 : decode cX9_eagerTotal 27 = .ok (.if_icmp .ne 7, 3) := by decide +kernel
theorem dX9_eagerTotal_30 : decode cX9_eagerTotal 30 = .ok (.iconst 0, 1) := by decide +kernel
theorem dX9_eagerTotal_31 : decode cX9_eagerTotal 31 = .ok (.goto 4, 3) := by decide +kernel
theorem dX9_eagerTotal_34 : decode cX9_eagerTotal 34 = .ok (.iconst 1, 1) := by decide +kernel
theorem dX9_eagerTotal_35 : decode cX9_eagerTotal 35 = .ok (.iadd, 1) := by decide +kernel
theorem dX9_eagerTotal_36 : decode cX9_eagerTotal 36 = .ok (.istore_n 1, 1) := by decide +kernel
theorem dX9_eagerTotal_37 : decode cX9_eagerTotal 37 = .ok (.iinc 3 1, 3) := by decide +kernel
theorem dX9_eagerTotal_40 : decode cX9_eagerTotal 40 = .ok (.goto (-28), 3) := by decide +kernel
theorem dX9_eagerTotal_43 : decode cX9_eagerTotal 43 = .ok (.iinc 2 1, 3) := by decide +kernel
theorem dX9_eagerTotal_46 : decode cX9_eagerTotal 46 = .ok (.goto (-42), 3) := by decide +kernel
theorem dX9_eagerTotal_49 : decode cX9_eagerTotal 49 = .ok (.iload_n 1, 1) := by decide +kernel
theorem dX9_eagerTotal_50 : decode cX9_eagerTotal 50 = .ok (.ireturn, 1) := by decide +kernel
def fX9_eagerTotal_J35 (h : AH) (k12 : Nat → Int32 → Int32 → Int32 → Option (Int32)) (v0 : Nat) (v2 : Int32) (v3 : Int32) (s0 : Int32) (s1 : Int32) : Option (Int32) :=
    letF (s1 + s0 : Int32) fun x1 =>
    letF (v3 + 1 : Int32) fun x2 =>
    k12 v0 x1 v2 x2
def fX9_eagerTotal_L12 (h : AH) (k43 : Nat → Int32 → Int32 → Option (Int32)) : Nat → Nat → Int32 → Int32 → Int32 → Option (Int32)
  | 0, _, _, _, _ => none
  | n + 1, v0, v1, v2, v3 =>
    if 8 ≤ v3 then (
      k43 v0 v1 v2
    ) else (
      (fX9_firstHolder h v0 v2 v3).bind fun q3 =>
      if q3 = 24 then (
        fX9_eagerTotal_J35 h (fX9_eagerTotal_L12 h k43 n) v0 v2 v3 0 v1
      ) else (
        fX9_eagerTotal_J35 h (fX9_eagerTotal_L12 h k43 n) v0 v2 v3 1 v1
      )
    )
def fX9_eagerTotal_L4 (h : AH) : Nat → Nat → Int32 → Int32 → Option (Int32)
  | 0, _, _, _ => none
  | n + 1, v0, v1, v2 =>
    if 6 ≤ v2 then (
      some v1
    ) else (
      fX9_eagerTotal_L12 h
        (fun x4 x5 x6 =>
          letF (x6 + 1 : Int32) fun x7 =>
          fX9_eagerTotal_L4 h n x4 x5 x7)
        FU v0 v1 v2 0
    )
def fX9_eagerTotal (h : AH) (a0 : Nat) : Option (Int32) :=
  if hasC h 9 a0 = true then (
    fX9_eagerTotal_L4 h FU a0 0 0
  ) else none
set_option maxHeartbeats 4000000 in
theorem gX9_eagerTotal_J35 {Y : YT} {X : XT} (C : CT Y X RX9 cX9_eagerTotal 4) (O : RO X 4 0 0) {h : AH} {r : Int32} (E : RX Y X (some .int) (some (.int r)) h 0 0) {k12 : Nat → Int32 → Int32 → Int32 → Option (Int32)} (hk12 : ∀ (v0 : Nat) (v1 : Int32) (v2 : Int32) (v3 : Int32), GO Y X 4 r h 0 0 12 [(0, .ref v0), (1, .int v1), (2, .int v2), (3, .int v3)] [] (k12 v0 v1 v2 v3)) : ∀ (v0 : Nat) (v2 : Int32) (v3 : Int32) (s0 : Int32) (s1 : Int32), GO Y X 4 r h 0 0 35 [(0, .ref v0), (2, .int v2), (3, .int v3)] [.int s0, .int s1] (fX9_eagerTotal_J35 h k12 v0 v2 v3 s0 s1) := by
  intro v0 v2 v3 s0 s1
  unfold fX9_eagerTotal_J35
  refine go_iadd (pc := 35) C dX9_eagerTotal_35 ?_
  refine go_istore_nL (pc := 36) C dX9_eagerTotal_36 (by decide) (fun x1 => [(1, .int x1), (0, .ref v0), (2, .int v2), (3, .int v3)]) (fun _ => rfl) (fun x1 => ?_)
  refine go_iincL (pc := 37) C 3 dX9_eagerTotal_37 rfl ki_1 (by decide) (fun x2 => [(3, .int x2), (1, .int x1), (0, .ref v0), (2, .int v2)]) (fun _ => rfl) (fun x2 => ?_)
  refine go_goto (pc := 40) C 12 dX9_eagerTotal_40 (by decide) ?_
  refine go_sub (ls' := [(0, .ref v0), (1, .int x1), (2, .int v2), (3, .int x2)]) [2, 1, 3, 0] rfl ?_
  exact hk12 v0 x1 v2 x2
set_option maxHeartbeats 4000000 in
theorem gX9_eagerTotal_L12 {Y : YT} {X : XT} (C : CT Y X RX9 cX9_eagerTotal 4) (O : RO X 4 0 0) {h : AH} {r : Int32} (E : RX Y X (some .int) (some (.int r)) h 0 0) {k43 : Nat → Int32 → Int32 → Option (Int32)} (hk43 : ∀ (v0 : Nat) (v1 : Int32) (v2 : Int32), GO Y X 4 r h 0 0 43 [(0, .ref v0), (1, .int v1), (2, .int v2)] [] (k43 v0 v1 v2)) : ∀ (n : Nat) (v0 : Nat) (v1 : Int32) (v2 : Int32) (v3 : Int32), GO Y X 4 r h 0 0 12 [(0, .ref v0), (1, .int v1), (2, .int v2), (3, .int v3)] [] (fX9_eagerTotal_L12 h k43 n v0 v1 v2 v3) := by
  intro n
  induction n with
  | zero => intros; exact go_none _ _ _
  | succ n ih =>
    intro v0 v1 v2 v3
    rw [fX9_eagerTotal_L12]
    refine go_iload_n (pc := 12) C 3 dX9_eagerTotal_12 rfl ?_
    refine go_bipush (pc := 13) C dX9_eagerTotal_13 kb_8 ?_
    refine go_icmp_ge (pc := 15) C 43 dX9_eagerTotal_15 (by decide) (fun _ => ?_) (fun _ => ?_)
    · refine go_sub (ls' := [(0, .ref v0), (1, .int v1), (2, .int v2)]) [0, 1, 2] rfl ?_
      exact hk43 v0 v1 v2
    · refine go_iload_n (pc := 18) C 1 dX9_eagerTotal_18 rfl ?_
      refine go_aload_n (pc := 19) C 0 dX9_eagerTotal_19 rfl ?_
      refine go_iload_n (pc := 20) C 2 dX9_eagerTotal_20 rfl ?_
      refine go_iload_n (pc := 21) C 3 dX9_eagerTotal_21 rfl ?_
      refine go_bind (fun q3 hq3 => ?_)
      refine go_callV (rest := [.int v1]) (st' := [.int q3, .int v1]) (c' := 0) (s' := 0) (pc := 22) C O miX9_97 mvX9_firstHolder [.int v2, .int v3] rfl (mX9_firstHolder hq3).1 (mX9_firstHolder hq3).2 dX9_eagerTotal_22 ⟨by decide, by decide, by decide, by decide⟩ rfl (Nat.le_of_ble_eq_true rfl) rfl ⟨rfl, rfl⟩ ?_
      refine go_bipush (pc := 25) C dX9_eagerTotal_25 kb_24 ?_
      refine go_icmp_ne (pc := 27) C 34 dX9_eagerTotal_27 (by decide) (fun _ => ?_) (fun _ => ?_)
      · refine go_iconst (pc := 30) C dX9_eagerTotal_30 ki_0 ?_
        refine go_goto (pc := 31) C 35 dX9_eagerTotal_31 (by decide) ?_
        refine go_sub (ls' := [(0, .ref v0), (2, .int v2), (3, .int v3)]) [0, 2, 3] rfl ?_
        refine gX9_eagerTotal_J35 C O E (ih) v0 v2 v3 0 v1
      · refine go_iconst (pc := 34) C dX9_eagerTotal_34 ki_1 ?_
        refine go_sub (ls' := [(0, .ref v0), (2, .int v2), (3, .int v3)]) [0, 2, 3] rfl ?_
        refine gX9_eagerTotal_J35 C O E (ih) v0 v2 v3 1 v1
set_option maxHeartbeats 4000000 in
theorem gX9_eagerTotal_L4 {Y : YT} {X : XT} (C : CT Y X RX9 cX9_eagerTotal 4) (O : RO X 4 0 0) {h : AH} {r : Int32} (E : RX Y X (some .int) (some (.int r)) h 0 0) : ∀ (n : Nat) (v0 : Nat) (v1 : Int32) (v2 : Int32), GO Y X 4 r h 0 0 4 [(0, .ref v0), (1, .int v1), (2, .int v2)] [] (fX9_eagerTotal_L4 h n v0 v1 v2) := by
  intro n
  induction n with
  | zero => intros; exact go_none _ _ _
  | succ n ih =>
    intro v0 v1 v2
    rw [fX9_eagerTotal_L4]
    refine go_iload_n (pc := 4) C 2 dX9_eagerTotal_4 rfl ?_
    refine go_bipush (pc := 5) C dX9_eagerTotal_5 kb_6 ?_
    refine go_icmp_ge (pc := 7) C 49 dX9_eagerTotal_7 (by decide) (fun _ => ?_) (fun _ => ?_)
    · refine go_iload_n (pc := 49) C 1 dX9_eagerTotal_49 rfl ?_
      exact go_iret (w := (wI h)) (pc := 50) C E v1 v1 dX9_eagerTotal_50 rfl
    · refine go_iconst (pc := 10) C dX9_eagerTotal_10 ki_0 ?_
      refine go_istore_n (ls' := [(3, .int 0), (0, .ref v0), (1, .int v1), (2, .int v2)]) (pc := 11) C dX9_eagerTotal_11 (by decide) rfl ?_
      refine go_sub (ls' := [(0, .ref v0), (1, .int v1), (2, .int v2), (3, .int 0)]) [1, 2, 3, 0] rfl ?_
      refine gX9_eagerTotal_L12 C O E (fun x4 x5 x6 => ?_) FU v0 v1 v2 0
      · refine go_iincL (pc := 43) C 2 dX9_eagerTotal_43 rfl ki_1 (by decide) (fun x7 => [(2, .int x7), (0, .ref x4), (1, .int x5)]) (fun _ => rfl) (fun x7 => ?_)
        refine go_goto (pc := 46) C 4 dX9_eagerTotal_46 (by decide) ?_
        refine go_sub (ls' := [(0, .ref x4), (1, .int x5), (2, .int x7)]) [1, 2, 0] rfl ?_
        exact ih x4 x5 x7
set_option maxHeartbeats 4000000 in
theorem mX9_eagerTotal {h : AH} {a0 : Nat} {r : Int32} (hr : fX9_eagerTotal h a0 = some r) : hasC h 9 a0 = true ∧ MC yX9_eagerTotal cX9_eagerTotal 4 (some .int) 4 0 0 [.ref a0] h (some (.int r)) h := by
  unfold fX9_eagerTotal at hr
  obtain ⟨hc, hr⟩ := if_some hr
  refine ⟨hc, mc_of (l0 := [(0, .ref a0)]) rfl pn_X9 (Nat.le_of_ble_eq_true rfl) (fun Y X C E O hnm => go_run hr ?_)⟩
  have C : CT Y X RX9 cX9_eagerTotal 4 := C
  refine go_iconst (pc := 0) C dX9_eagerTotal_0 ki_0 ?_
  refine go_istore_n (ls' := [(1, .int 0), (0, .ref a0)]) (pc := 1) C dX9_eagerTotal_1 (by decide) rfl ?_
  refine go_iconst (pc := 2) C dX9_eagerTotal_2 ki_0 ?_
  refine go_istore_n (ls' := [(2, .int 0), (1, .int 0), (0, .ref a0)]) (pc := 3) C dX9_eagerTotal_3 (by decide) rfl ?_
  refine go_sub (ls' := [(0, .ref a0), (1, .int 0), (2, .int 0)]) [2, 1, 0] rfl ?_
  refine gX9_eagerTotal_L4 C O E FU a0 0 0
theorem dX9_needsObject_0 : decode cX9_needsObject 0 = .ok (.aload_n 0, 1) := by decide +kernel
theorem dX9_needsObject_1 : decode cX9_needsObject 1 = .ok (.iload_n 1, 1) := by decide +kernel
theorem dX9_needsObject_2 : decode cX9_needsObject 2 = .ok (.invokevirtual 175, 3) := by decide +kernel
theorem dX9_needsObject_5 : decode cX9_needsObject 5 = .ok (.ifCond .eq 20, 3) := by decide +kernel
theorem dX9_needsObject_8 : decode cX9_needsObject 8 = .ok (.aload_n 0, 1) := by decide +kernel
theorem dX9_needsObject_9 : decode cX9_needsObject 9 = .ok (.aload_n 0, 1) := by decide +kernel
theorem dX9_needsObject_10 : decode cX9_needsObject 10 = .ok (.iload_n 1, 1) := by decide +kernel
theorem dX9_needsObject_11 : decode cX9_needsObject 11 = .ok (.invokevirtual 84, 3) := by decide +kernel
theorem dX9_needsObject_14 : decode cX9_needsObject 14 = .ok (.invokevirtual 178, 3) := by decide +kernel
theorem dX9_needsObject_17 : decode cX9_needsObject 17 = .ok (.iconst 1, 1) := by decide +kernel
theorem dX9_needsObject_18 : decode cX9_needsObject 18 = .ok (.if_icmp .le 7, 3) := by decide +kernel
theorem dX9_needsObject_21 : decode cX9_needsObject 21 = .ok (.iconst 1, 1) := by decide +kernel
theorem dX9_needsObject_22 : decode cX9_needsObject 22 = .ok (.goto 4, 3) := by decide +kernel
theorem dX9_needsObject_25 : decode cX9_needsObject 25 = .ok (.iconst 0, 1) := by decide +kernel
theorem dX9_needsObject_26 : decode cX9_needsObject 26 = .ok (.ireturn, 1) := by decide +kernel
def fX9_needsObject (h : AH) (a0 : Nat) (a1 : Int32) : Option (Bool) :=
  if hasC h 9 a0 = true then (
    (fX9_isSharing h a0 a1).bind fun q1 =>
    if q1 = true then (
      (fX9_topOf h a0 a1).bind fun q2 =>
      (fX9_holderTotal h a0 q2).bind fun q3 =>
      if q3 ≤ 1 then (
        some false
      ) else (
        some true
      )
    ) else (
      some false
    )
  ) else none
set_option maxHeartbeats 4000000 in
theorem mX9_needsObject {h : AH} {a0 : Nat} {a1 : Int32} {r : Bool} (hr : fX9_needsObject h a0 a1 = some r) : hasC h 9 a0 = true ∧ MC yX9_needsObject cX9_needsObject 2 (some .boolean) 3 0 0 [.ref a0, .int a1] h (some (.int (b2i r))) h := by
  unfold fX9_needsObject at hr
  obtain ⟨hc, hr⟩ := if_some hr
  refine ⟨hc, mc_of (l0 := [(0, .ref a0), (1, .int a1)]) rfl pn_X9 (Nat.le_of_ble_eq_true rfl) (fun Y X C E O hnm => go_run hr ?_)⟩
  have C : CT Y X RX9 cX9_needsObject 2 := C
  refine go_aload_n (pc := 0) C 0 dX9_needsObject_0 rfl ?_
  refine go_iload_n (pc := 1) C 1 dX9_needsObject_1 rfl ?_
  refine go_bind (fun q1 hq1 => ?_)
  refine go_callV (rest := []) (st' := [.int (b2i q1)]) (c' := 0) (s' := 0) (pc := 2) C O miX9_175 mvX9_isSharing [.int a1] rfl (mX9_isSharing hq1).1 (mX9_isSharing hq1).2 dX9_needsObject_2 ⟨by decide, by decide, by decide, by decide⟩ rfl (Nat.le_of_ble_eq_true rfl) rfl ⟨rfl, rfl⟩ ?_
  refine go_ifZ_eq (pc := 5) C 25 dX9_needsObject_5 (by decide) (fun _ => ?_) (fun _ => ?_)
  · refine go_aload_n (pc := 8) C 0 dX9_needsObject_8 rfl ?_
    refine go_aload_n (pc := 9) C 0 dX9_needsObject_9 rfl ?_
    refine go_iload_n (pc := 10) C 1 dX9_needsObject_10 rfl ?_
    refine go_bind (fun q2 hq2 => ?_)
    refine go_callV (rest := [.ref a0]) (st' := [.int q2, .ref a0]) (c' := 0) (s' := 0) (pc := 11) C O miX9_84 mvX9_topOf [.int a1] rfl (mX9_topOf hq2).1 (mX9_topOf hq2).2 dX9_needsObject_11 ⟨by decide, by decide, by decide, by decide⟩ rfl (Nat.le_of_ble_eq_true rfl) rfl ⟨rfl, rfl⟩ ?_
    refine go_bind (fun q3 hq3 => ?_)
    refine go_callV (rest := []) (st' := [.int q3]) (c' := 0) (s' := 0) (pc := 14) C O miX9_178 mvX9_holderTotal [.int q2] rfl (mX9_holderTotal hq3).1 (mX9_holderTotal hq3).2 dX9_needsObject_14 ⟨by decide, by decide, by decide, by decide⟩ rfl (Nat.le_of_ble_eq_true rfl) rfl ⟨rfl, rfl⟩ ?_
    refine go_iconst (pc := 17) C dX9_needsObject_17 ki_1 ?_
    refine go_icmp_le (pc := 18) C 25 dX9_needsObject_18 (by decide) (fun _ => ?_) (fun _ => ?_)
    · refine go_iconst (pc := 25) C dX9_needsObject_25 ki_0 ?_
      exact go_bret (w := (wZ h)) (pc := 26) C E false 0 false rfl dX9_needsObject_26 rfl
    · refine go_iconst (pc := 21) C dX9_needsObject_21 ki_1 ?_
      refine go_goto (pc := 22) C 26 dX9_needsObject_22 (by decide) ?_
      exact go_bret (w := (wZ h)) (pc := 26) C E true 1 true rfl dX9_needsObject_26 rfl
  · refine go_iconst (pc := 25) C dX9_needsObject_25 ki_0 ?_
    exact go_bret (w := (wZ h)) (pc := 26) C E false 0 false rfl dX9_needsObject_26 rfl
theorem dX9_ownPages_0 : decode cX9_ownPages 0 = .ok (.aload_n 0, 1) := by decide +kernel
theorem dX9_ownPages_1 : decode cX9_ownPages 1 = .ok (.iload_n 1, 1) := by decide +kernel
theorem dX9_ownPages_2 : decode cX9_ownPages 2 = .ok (.invokevirtual 100, 3) := by decide +kernel
theorem dX9_ownPages_5 : decode cX9_ownPages 5 = .ok (.ifCond .eq 7, 3) := by decide +kernel
theorem dX9_ownPages_8 : decode cX9_ownPages 8 = .ok (.iconst 0, 1) := by decide +kernel
theorem dX9_ownPages_9 : decode cX9_ownPages 9 = .ok (.goto 12, 3) := by decide +kernel
theorem dX9_ownPages_12 : decode cX9_ownPages 12 = .ok (.aload_n 0, 1) := by decide +kernel
theorem dX9_ownPages_13 : decode cX9_ownPages 13 = .ok (.aload_n 0, 1) := by decide +kernel
theorem dX9_ownPages_14 : decode cX9_ownPages 14 = .ok (.iload_n 1, 1) := by decide +kernel
theorem dX9_ownPages_15 : decode cX9_ownPages 15 = .ok (.invokevirtual 84, 3) := by decide +kernel
theorem dX9_ownPages_18 : decode cX9_ownPages 18 = .ok (.invokevirtual 103, 3) := by decide +kernel
theorem dX9_ownPages_21 : decode cX9_ownPages 21 = .ok (.ireturn, 1) := by decide +kernel
def fX9_ownPages (h : AH) (a0 : Nat) (a1 : Int32) : Option (Int32) :=
  if hasC h 9 a0 = true then (
    (fX9_needsObject h a0 a1).bind fun q1 =>
    if q1 = true then (
      some 0
    ) else (
      (fX9_topOf h a0 a1).bind fun q2 =>
      (fX9_heldOf h a0 q2).bind fun q3 =>
      some q3
    )
  ) else none
set_option maxHeartbeats 4000000 in
theorem mX9_ownPages {h : AH} {a0 : Nat} {a1 : Int32} {r : Int32} (hr : fX9_ownPages h a0 a1 = some r) : hasC h 9 a0 = true ∧ MC yX9_ownPages cX9_ownPages 2 (some .int) 4 0 0 [.ref a0, .int a1] h (some (.int r)) h := by
  unfold fX9_ownPages at hr
  obtain ⟨hc, hr⟩ := if_some hr
  refine ⟨hc, mc_of (l0 := [(0, .ref a0), (1, .int a1)]) rfl pn_X9 (Nat.le_of_ble_eq_true rfl) (fun Y X C E O hnm => go_run hr ?_)⟩
  have C : CT Y X RX9 cX9_ownPages 2 := C
  refine go_aload_n (pc := 0) C 0 dX9_ownPages_0 rfl ?_
  refine go_iload_n (pc := 1) C 1 dX9_ownPages_1 rfl ?_
  refine go_bind (fun q1 hq1 => ?_)
  refine go_callV (rest := []) (st' := [.int (b2i q1)]) (c' := 0) (s' := 0) (pc := 2) C O miX9_100 mvX9_needsObject [.int a1] rfl (mX9_needsObject hq1).1 (mX9_needsObject hq1).2 dX9_ownPages_2 ⟨by decide, by decide, by decide, by decide⟩ rfl (Nat.le_of_ble_eq_true rfl) rfl ⟨rfl, rfl⟩ ?_
  refine go_ifZ_eq (pc := 5) C 12 dX9_ownPages_5 (by decide) (fun _ => ?_) (fun _ => ?_)
  · refine go_iconst (pc := 8) C dX9_ownPages_8 ki_0 ?_
    refine go_goto (pc := 9) C 21 dX9_ownPages_9 (by decide) ?_
    exact go_iret (w := (wI h)) (pc := 21) C E 0 0 dX9_ownPages_21 rfl
  · refine go_aload_n (pc := 12) C 0 dX9_ownPages_12 rfl ?_
    refine go_aload_n (pc := 13) C 0 dX9_ownPages_13 rfl ?_
    refine go_iload_n (pc := 14) C 1 dX9_ownPages_14 rfl ?_
    refine go_bind (fun q2 hq2 => ?_)
    refine go_callV (rest := [.ref a0]) (st' := [.int q2, .ref a0]) (c' := 0) (s' := 0) (pc := 15) C O miX9_84 mvX9_topOf [.int a1] rfl (mX9_topOf hq2).1 (mX9_topOf hq2).2 dX9_ownPages_15 ⟨by decide, by decide, by decide, by decide⟩ rfl (Nat.le_of_ble_eq_true rfl) rfl ⟨rfl, rfl⟩ ?_
    refine go_bind (fun q3 hq3 => ?_)
    refine go_callV (rest := []) (st' := [.int q3]) (c' := 0) (s' := 0) (pc := 18) C O miX9_103 mvX9_heldOf [.int q2] rfl (mX9_heldOf hq3).1 (mX9_heldOf hq3).2 dX9_ownPages_18 ⟨by decide, by decide, by decide, by decide⟩ rfl (Nat.le_of_ble_eq_true rfl) rfl ⟨rfl, rfl⟩ ?_
    exact go_iret (w := (wI h)) (pc := 21) C E q3 q3 dX9_ownPages_21 rfl
theorem dX9_isCopy_0 : decode cX9_isCopy 0 = .ok (.iconst 0, 1) := by decide +kernel
theorem dX9_isCopy_1 : decode cX9_isCopy 1 = .ok (.istore_n 2, 1) := by decide +kernel
theorem dX9_isCopy_2 : decode cX9_isCopy 2 = .ok (.iload_n 2, 1) := by decide +kernel
theorem dX9_isCopy_3 : decode cX9_isCopy 3 = .ok (.bipush 24, 2) := by decide +kernel
theorem dX9_isCopy_5 : decode cX9_isCopy 5 = .ok (.if_icmp .ge 21, 3) := by decide +kernel
theorem dX9_isCopy_8 : decode cX9_isCopy 8 = .ok (.aload_n 0, 1) := by decide +kernel
theorem dX9_isCopy_9 : decode cX9_isCopy 9 = .ok (.getfield 24, 3) := by decide +kernel
theorem dX9_isCopy_12 : decode cX9_isCopy 12 = .ok (.iload_n 2, 1) := by decide +kernel
theorem dX9_isCopy_13 : decode cX9_isCopy 13 = .ok (.iaload, 1) := by decide +kernel
theorem dX9_isCopy_14 : decode cX9_isCopy 14 = .ok (.iload_n 1, 1) := by decide +kernel
theorem dX9_isCopy_15 : decode cX9_isCopy 15 = .ok (.if_icmp .ne 5, 3) := by decide +kernel
theorem dX9_isCopy_18 : decode cX9_isCopy 18 = .ok (.iconst 1, 1) := by decide +kernel
theorem dX9_isCopy_19 : decode cX9_isCopy 19 = .ok (.ireturn, 1) := by decide +kernel
theorem dX9_isCopy_20 : decode cX9_isCopy 20 = .ok (.iinc 2 1, 3) := by decide +kernel
theorem dX9_isCopy_23 : decode cX9_isCopy 23 = .ok (.goto (-21), 3) := by decide +kernel
theorem dX9_isCopy_26 : decode cX9_isCopy 26 = .ok (.iconst 0, 1) := by decide +kernel
theorem dX9_isCopy_27 : decode cX9_isCopy 27 = .ok (.ireturn, 1) := by decide +kernel
def fX9_isCopy_L2 (h : AH) : Nat → Nat → Int32 → Int32 → Option (Bool)
  | 0, _, _, _ => none
  | n + 1, v0, v1, v2 =>
    if 24 ≤ v2 then (
      some false
    ) else (
      (gR h 9 v0 8).bind fun x1 =>
      (aI h 0 x1 v2).bind fun x2 =>
      if x2 = v1 then (
        some true
      ) else (
        letF (v2 + 1 : Int32) fun x3 =>
        fX9_isCopy_L2 h n v0 v1 x3
      )
    )
def fX9_isCopy (h : AH) (a0 : Nat) (a1 : Int32) : Option (Bool) :=
  if hasC h 9 a0 = true then (
    fX9_isCopy_L2 h FU a0 a1 0
  ) else none
set_option maxHeartbeats 4000000 in
theorem gX9_isCopy_L2 {Y : YT} {X : XT} (C : CT Y X RX9 cX9_isCopy 3) (O : RO X 1 0 0) {h : AH} {r : Bool} (E : RX Y X (some .boolean) (some (.int (b2i r))) h 0 0) : ∀ (n : Nat) (v0 : Nat) (v1 : Int32) (v2 : Int32), GO Y X 3 r h 0 0 2 [(0, .ref v0), (1, .int v1), (2, .int v2)] [] (fX9_isCopy_L2 h n v0 v1 v2) := by
  intro n
  induction n with
  | zero => intros; exact go_none _ _ _
  | succ n ih =>
    intro v0 v1 v2
    rw [fX9_isCopy_L2]
    refine go_iload_n (pc := 2) C 2 dX9_isCopy_2 rfl ?_
    refine go_bipush (pc := 3) C dX9_isCopy_3 kb_24 ?_
    refine go_icmp_ge (pc := 5) C 26 dX9_isCopy_5 (by decide) (fun _ => ?_) (fun _ => ?_)
    · refine go_iconst (pc := 26) C dX9_isCopy_26 ki_0 ?_
      exact go_bret (w := (wZ h)) (pc := 27) C E false 0 false rfl dX9_isCopy_27 rfl
    · refine go_aload_n (pc := 8) C 0 dX9_isCopy_8 rfl ?_
      refine go_gR (pc := 9) C fdX9_24 dX9_isCopy_9 (fun x1 => ?_)
      refine go_iload_n (pc := 12) C 2 dX9_isCopy_12 rfl ?_
      refine go_iald (pc := 13) C dX9_isCopy_13 (fun x2 => ?_)
      refine go_iload_n (pc := 14) C 1 dX9_isCopy_14 rfl ?_
      refine go_icmp_ne (pc := 15) C 20 dX9_isCopy_15 (by decide) (fun _ => ?_) (fun _ => ?_)
      · refine go_iconst (pc := 18) C dX9_isCopy_18 ki_1 ?_
        exact go_bret (w := (wZ h)) (pc := 19) C E true 1 true rfl dX9_isCopy_19 rfl
      · refine go_iincL (pc := 20) C 2 dX9_isCopy_20 rfl ki_1 (by decide) (fun x3 => [(2, .int x3), (0, .ref v0), (1, .int v1)]) (fun _ => rfl) (fun x3 => ?_)
        refine go_goto (pc := 23) C 2 dX9_isCopy_23 (by decide) ?_
        refine go_sub (ls' := [(0, .ref v0), (1, .int v1), (2, .int x3)]) [1, 2, 0] rfl ?_
        exact ih v0 v1 x3
set_option maxHeartbeats 4000000 in
theorem mX9_isCopy {h : AH} {a0 : Nat} {a1 : Int32} {r : Bool} (hr : fX9_isCopy h a0 a1 = some r) : hasC h 9 a0 = true ∧ MC yX9_isCopy cX9_isCopy 3 (some .boolean) 1 0 0 [.ref a0, .int a1] h (some (.int (b2i r))) h := by
  unfold fX9_isCopy at hr
  obtain ⟨hc, hr⟩ := if_some hr
  refine ⟨hc, mc_of (l0 := [(0, .ref a0), (1, .int a1)]) rfl pn_X9 (Nat.le_of_ble_eq_true rfl) (fun Y X C E O hnm => go_run hr ?_)⟩
  have C : CT Y X RX9 cX9_isCopy 3 := C
  refine go_iconst (pc := 0) C dX9_isCopy_0 ki_0 ?_
  refine go_istore_n (ls' := [(2, .int 0), (0, .ref a0), (1, .int a1)]) (pc := 1) C dX9_isCopy_1 (by decide) rfl ?_
  refine go_sub (ls' := [(0, .ref a0), (1, .int a1), (2, .int 0)]) [1, 2, 0] rfl ?_
  refine gX9_isCopy_L2 C O E FU a0 a1 0
theorem dX9_leastMissing_0 : decode cX9_leastMissing 0 = .ok (.iload_n 1, 1) := by decide +kernel
theorem dX9_leastMissing_1 : decode cX9_leastMissing 1 = .ok (.iload_n 0, 1) := by decide +kernel
theorem dX9_leastMissing_2 : decode cX9_leastMissing 2 = .ok (.iconst (-1), 1) := by decide +kernel
theorem dX9_leastMissing_3 : decode cX9_leastMissing 3 = .ok (.ixor, 1) := by decide +kernel
theorem dX9_leastMissing_4 : decode cX9_leastMissing 4 = .ok (.invokestatic 106, 3) := by decide +kernel
theorem dX9_leastMissing_7 : decode cX9_leastMissing 7 = .ok (.invokestatic 109, 3) := by decide +kernel
theorem dX9_leastMissing_10 : decode cX9_leastMissing 10 = .ok (.ireturn, 1) := by decide +kernel
def fX9_leastMissing (h : AH) (a0 : Int32) (a1 : Int32) : Option (Int32) :=
  (fJ6_numberOfTrailingZeros_0f7a4 h (a0 ^^^ ((-1)))).bind fun q1 =>
  some (jmin a1 q1)
set_option maxHeartbeats 4000000 in
theorem mX9_leastMissing {h : AH} {a0 : Int32} {a1 : Int32} {r : Int32} (hr : fX9_leastMissing h a0 a1 = some r) : MC yX9_leastMissing cX9_leastMissing 2 (some .int) 2 0 0 [.int a0, .int a1] h (some (.int r)) h := by
  unfold fX9_leastMissing at hr
  refine mc_of (l0 := [(0, .int a0), (1, .int a1)]) rfl pn_X9 (Nat.le_of_ble_eq_true rfl) (fun Y X C E O hnm => go_run hr ?_)
  have C : CT Y X RX9 cX9_leastMissing 2 := C
  refine go_iload_n (pc := 0) C 1 dX9_leastMissing_0 rfl ?_
  refine go_iload_n (pc := 1) C 0 dX9_leastMissing_1 rfl ?_
  refine go_iconst (pc := 2) C dX9_leastMissing_2 ki_m1 ?_
  refine go_ixor (pc := 3) C dX9_leastMissing_3 ?_
  refine go_bind (fun q1 hq1 => ?_)
  refine go_callS (rest := [.int a1]) (st' := [.int q1, .int a1]) (c' := 0) (s' := 0) (pc := 4) C O miX9_106 w_437 [.int (a0 ^^^ ((-1)))] rfl (mJ6_numberOfTrailingZeros_0f7a4 hq1) dX9_leastMissing_4 ⟨by decide, by decide, by decide, by decide⟩ rfl (Nat.le_of_ble_eq_true rfl) rfl ⟨rfl, rfl⟩ ?_
  refine go_mmin (pc := 7) C O w_440 w_441 w_102 w_442 ⟨by decide, by decide, by decide⟩ (Nat.le_of_ble_eq_true rfl) dX9_leastMissing_7 ?_
  exact go_iret (w := (wI h)) (pc := 10) C E (jmin a1 q1) (jmin a1 q1) dX9_leastMissing_10 rfl
theorem dX9_comeObject_0 : decode cX9_comeObject 0 = .ok (.aload_n 0, 1) := by decide +kernel
theorem dX9_comeObject_1 : decode cX9_comeObject 1 = .ok (.getfield 43, 3) := by decide +kernel
theorem dX9_comeObject_4 : decode cX9_comeObject 4 = .ok (.bipush 24, 2) := by decide +kernel
theorem dX9_comeObject_6 : decode cX9_comeObject 6 = .ok (.invokestatic 114, 3) := by decide +kernel
theorem dX9_comeObject_9 : decode cX9_comeObject 9 = .ok (.istore_n 3, 1) := by decide +kernel
theorem dX9_comeObject_10 : decode cX9_comeObject 10 = .ok (.iload_n 3, 1) := by decide +kernel
theorem dX9_comeObject_11 : decode cX9_comeObject 11 = .ok (.bipush 24, 2) := by decide +kernel
theorem dX9_comeObject_13 : decode cX9_comeObject 13 = .ok (.if_icmp .lt 6, 3) := by decide +kernel
theorem dX9_comeObject_16 : decode cX9_comeObject 16 = .ok (.bipush 24, 2) := by decide +kernel
theorem dX9_comeObject_18 : decode cX9_comeObject 18 = .ok (.ireturn, 1) := by decide +kernel
theorem dX9_comeObject_19 : decode cX9_comeObject 19 = .ok (.aload_n 0, 1) := by decide +kernel
theorem dX9_comeObject_20 : decode cX9_comeObject 20 = .ok (.dup, 1) := by decide +kernel
theorem dX9_comeObject_21 : decode cX9_comeObject 21 = .ok (.getfield 43, 3) := by decide +kernel
theorem dX9_comeObject_24 : decode cX9_comeObject 24 = .ok (.iconst 1, 1) := by decide +kernel
theorem dX9_comeObject_25 : decode cX9_comeObject 25 = .ok (.iload_n 3, 1) := by decide +kernel
theorem dX9_comeObject_26 : decode cX9_comeObject 26 = .ok (.ishl, 1) := by decide +kernel
theorem dX9_comeObject_27 : decode cX9_comeObject 27 = .ok (.ior, 1) := by decide +kernel
theorem dX9_comeObject_28 : decode cX9_comeObject 28 = .ok (.putfield 43, 3) := by decide +kernel
theorem dX9_comeObject_31 : decode cX9_comeObject 31 = .ok (.aload_n 0, 1) := by decide +kernel
theorem dX9_comeObject_32 : decode cX9_comeObject 32 = .ok (.getfield 27, 3) := by decide +kernel
theorem dX9_comeObject_35 : decode cX9_comeObject 35 = .ok (.iload_n 3, 1) := by decide +kernel
theorem dX9_comeObject_36 : decode cX9_comeObject 36 = .ok (.iload_n 1, 1) := by decide +kernel
theorem dX9_comeObject_37 : decode cX9_comeObject 37 = .ok (.iastore, 1) := by decide +kernel
theorem dX9_comeObject_38 : decode cX9_comeObject 38 = .ok (.aload_n 0, 1) := by decide +kernel
theorem dX9_comeObject_39 : decode cX9_comeObject 39 = .ok (.getfield 30, 3) := by decide +kernel
theorem dX9_comeObject_42 : decode cX9_comeObject 42 = .ok (.iload_n 3, 1) := by decide +kernel
theorem dX9_comeObject_43 : decode cX9_comeObject 43 = .ok (.iload_n 2, 1) := by decide +kernel
theorem dX9_comeObject_44 : decode cX9_comeObject 44 = .ok (.iastore, 1) := by decide +kernel
theorem dX9_comeObject_45 : decode cX9_comeObject 45 = .ok (.iload_n 3, 1) := by decide +kernel
theorem dX9_comeObject_46 : decode cX9_comeObject 46 = .ok (.ireturn, 1) := by decide +kernel
def fX9_comeObject (h : AH) (a0 : Nat) (a1 : Int32) (a2 : Int32) : Option (Int32 × AH) :=
  if hasC h 9 a0 = true then (
    (gI h 9 a0 2).bind fun x1 =>
    (fX9_leastMissing h x1 24).bind fun q2 =>
    if q2 < 24 then (
      (gI h 9 a0 2).bind fun x3 =>
      (pF h 9 a0 2 (.int (x3 ||| (1 <<< (q2 &&& 31))))).bind fun h4 =>
      (gR h4 9 a0 9).bind fun x5 =>
      (sI h4 0 x5 q2 a1).bind fun h6 =>
      (gR h6 9 a0 10).bind fun x7 =>
      (sI h6 0 x7 q2 a2).bind fun h8 =>
      some ((q2, h8))
    ) else (
      some ((24, h))
    )
  ) else none
set_option maxHeartbeats 4000000 in
theorem mX9_comeObject {h : AH} {a0 : Nat} {a1 : Int32} {a2 : Int32} {r : Int32 × AH} (hr : fX9_comeObject h a0 a1 a2 = some r) : hasC h 9 a0 = true ∧ MC yX9_comeObject cX9_comeObject 4 (some .int) 3 0 0 [.ref a0, .int a1, .int a2] h (some (.int r.1)) r.2 := by
  unfold fX9_comeObject at hr
  obtain ⟨hc, hr⟩ := if_some hr
  refine ⟨hc, mc_of (l0 := [(0, .ref a0), (1, .int a1), (2, .int a2)]) rfl pn_X9 (Nat.le_of_ble_eq_true rfl) (fun Y X C E O hnm => go_run hr ?_)⟩
  have C : CT Y X RX9 cX9_comeObject 4 := C
  refine go_aload_n (pc := 0) C 0 dX9_comeObject_0 rfl ?_
  refine go_gI (pc := 1) C fdX9_43 dX9_comeObject_1 (fun x1 => ?_)
  refine go_bipush (pc := 4) C dX9_comeObject_4 kb_24 ?_
  refine go_bind (fun q2 hq2 => ?_)
  refine go_callS (rest := []) (st' := [.int q2]) (c' := 0) (s' := 0) (pc := 6) C O miX9_114 w_434 [.int x1, .int 24] rfl (mX9_leastMissing hq2) dX9_comeObject_6 ⟨by decide, by decide, by decide, by decide⟩ rfl (Nat.le_of_ble_eq_true rfl) rfl ⟨rfl, rfl⟩ ?_
  refine go_istore_n (ls' := [(3, .int q2), (0, .ref a0), (1, .int a1), (2, .int a2)]) (pc := 9) C dX9_comeObject_9 (by decide) rfl ?_
  refine go_iload_n (pc := 10) C 0 dX9_comeObject_10 rfl ?_
  refine go_bipush (pc := 11) C dX9_comeObject_11 kb_24 ?_
  refine go_icmp_lt (pc := 13) C 19 dX9_comeObject_13 (by decide) (fun _ => ?_) (fun _ => ?_)
  · refine go_aload_n (pc := 19) C 1 dX9_comeObject_19 rfl ?_
    refine go_dup (pc := 20) C dX9_comeObject_20 rfl ?_
    refine go_gI (pc := 21) C fdX9_43 dX9_comeObject_21 (fun x3 => ?_)
    refine go_iconst (pc := 24) C dX9_comeObject_24 ki_1 ?_
    refine go_iload_n (pc := 25) C 0 dX9_comeObject_25 rfl ?_
    refine go_ishl (pc := 26) C dX9_comeObject_26 ?_
    refine go_ior (pc := 27) C dX9_comeObject_27 ?_
    refine go_pI (pc := 28) C fpX9_43 dX9_comeObject_28 (fun h4 => ?_)
    refine go_aload_n (pc := 31) C 1 dX9_comeObject_31 rfl ?_
    refine go_gR (pc := 32) C fdX9_27 dX9_comeObject_32 (fun x5 => ?_)
    refine go_iload_n (pc := 35) C 0 dX9_comeObject_35 rfl ?_
    refine go_iload_n (pc := 36) C 2 dX9_comeObject_36 rfl ?_
    refine go_iast (pc := 37) C dX9_comeObject_37 (fun h6 => ?_)
    refine go_aload_n (pc := 38) C 1 dX9_comeObject_38 rfl ?_
    refine go_gR (pc := 39) C fdX9_30 dX9_comeObject_39 (fun x7 => ?_)
    refine go_iload_n (pc := 42) C 0 dX9_comeObject_42 rfl ?_
    refine go_iload_n (pc := 43) C 3 dX9_comeObject_43 rfl ?_
    refine go_iast (pc := 44) C dX9_comeObject_44 (fun h8 => ?_)
    refine go_iload_n (pc := 45) C 0 dX9_comeObject_45 rfl ?_
    exact go_iret (w := wIh) (pc := 46) C E ((q2, h8)) q2 dX9_comeObject_46 rfl
  · refine go_bipush (pc := 16) C dX9_comeObject_16 kb_24 ?_
    exact go_iret (w := wIh) (pc := 18) C E ((24, h)) 24 dX9_comeObject_18 rfl
theorem dX9_comeSpace_0 : decode cX9_comeSpace 0 = .ok (.aload_n 0, 1) := by decide +kernel
theorem dX9_comeSpace_1 : decode cX9_comeSpace 1 = .ok (.getfield 36, 3) := by decide +kernel
theorem dX9_comeSpace_4 : decode cX9_comeSpace 4 = .ok (.bipush 6, 2) := by decide +kernel
theorem dX9_comeSpace_6 : decode cX9_comeSpace 6 = .ok (.invokestatic 114, 3) := by decide +kernel
theorem dX9_comeSpace_9 : decode cX9_comeSpace 9 = .ok (.istore_n 2, 1) := by decide +kernel
theorem dX9_comeSpace_10 : decode cX9_comeSpace 10 = .ok (.iload_n 2, 1) := by decide +kernel
theorem dX9_comeSpace_11 : decode cX9_comeSpace 11 = .ok (.bipush 6, 2) := by decide +kernel
theorem dX9_comeSpace_13 : decode cX9_comeSpace 13 = .ok (.if_icmp .ge 11, 3) := by decide +kernel
theorem dX9_comeSpace_16 : decode cX9_comeSpace 16 = .ok (.aload_n 0, 1) := by decide +kernel
theorem dX9_comeSpace_17 : decode cX9_comeSpace 17 = .ok (.iload_n 1, 1) := by decide +kernel
theorem dX9_comeSpace_18 : decode cX9_comeSpace 18 = .ok (.invokevirtual 55, 3) := by decide +kernel
theorem dX9_comeSpace_21 : decode cX9_comeSpace 21 = .ok (.ifCond .ne 5, 3) := by decide +kernel
theorem dX9_comeSpace_24 : decode cX9_comeSpace 24 = .ok (.iconst (-1), 1) := by decide +kernel
theorem dX9_comeSpace_25 : decode cX9_comeSpace 25 = .ok (.ireturn, 1) := by decide +kernel
theorem dX9_comeSpace_26 : decode cX9_comeSpace 26 = .ok (.aload_n 0, 1) := by decide +kernel
theorem dX9_comeSpace_27 : decode cX9_comeSpace 27 = .ok (.dup, 1) := by decide +kernel
theorem dX9_comeSpace_28 : decode cX9_comeSpace 28 = .ok (.getfield 36, 3) := by decide +kernel
theorem dX9_comeSpace_31 : decode cX9_comeSpace 31 = .ok (.iconst 1, 1) := by decide +kernel
theorem dX9_comeSpace_32 : decode cX9_comeSpace 32 = .ok (.iload_n 2, 1) := by decide +kernel
theorem dX9_comeSpace_33 : decode cX9_comeSpace 33 = .ok (.ishl, 1) := by decide +kernel
theorem dX9_comeSpace_34 : decode cX9_comeSpace 34 = .ok (.ior, 1) := by decide +kernel
theorem dX9_comeSpace_35 : decode cX9_comeSpace 35 = .ok (.putfield 36, 3) := by decide +kernel
theorem dX9_comeSpace_38 : decode cX9_comeSpace 38 = .ok (.aload_n 0, 1) := by decide +kernel
theorem dX9_comeSpace_39 : decode cX9_comeSpace 39 = .ok (.getfield 9, 3) := by decide +kernel
theorem dX9_comeSpace_42 : decode cX9_comeSpace 42 = .ok (.iload_n 2, 1) := by decide +kernel
theorem dX9_comeSpace_43 : decode cX9_comeSpace 43 = .ok (.iload_n 1, 1) := by decide +kernel
theorem dX9_comeSpace_44 : decode cX9_comeSpace 44 = .ok (.iastore, 1) := by decide +kernel
theorem dX9_comeSpace_45 : decode cX9_comeSpace 45 = .ok (.iload_n 2, 1) := by decide +kernel
theorem dX9_comeSpace_46 : decode cX9_comeSpace 46 = .ok (.ireturn, 1) := by decide +kernel
def fX9_comeSpace (h : AH) (a0 : Nat) (a1 : Int32) : Option (Int32 × AH) :=
  if hasC h 9 a0 = true then (
    (gI h 9 a0 0).bind fun x1 =>
    (fX9_leastMissing h x1 6).bind fun q2 =>
    if 6 ≤ q2 then (
      some (((-1), h))
    ) else (
      (fX9_hasObject h a0 a1).bind fun q3 =>
      if q3 = true then (
        (gI h 9 a0 0).bind fun x4 =>
        (pF h 9 a0 0 (.int (x4 ||| (1 <<< (q2 &&& 31))))).bind fun h5 =>
        (gR h5 9 a0 4).bind fun x6 =>
        (sI h5 0 x6 q2 a1).bind fun h7 =>
        some ((q2, h7))
      ) else (
        some (((-1), h))
      )
    )
  ) else none
set_option maxHeartbeats 4000000 in
theorem mX9_comeSpace {h : AH} {a0 : Nat} {a1 : Int32} {r : Int32 × AH} (hr : fX9_comeSpace h a0 a1 = some r) : hasC h 9 a0 = true ∧ MC yX9_comeSpace cX9_comeSpace 3 (some .int) 3 0 0 [.ref a0, .int a1] h (some (.int r.1)) r.2 := by
  unfold fX9_comeSpace at hr
  obtain ⟨hc, hr⟩ := if_some hr
  refine ⟨hc, mc_of (l0 := [(0, .ref a0), (1, .int a1)]) rfl pn_X9 (Nat.le_of_ble_eq_true rfl) (fun Y X C E O hnm => go_run hr ?_)⟩
  have C : CT Y X RX9 cX9_comeSpace 3 := C
  refine go_aload_n (pc := 0) C 0 dX9_comeSpace_0 rfl ?_
  refine go_gI (pc := 1) C fdX9_36 dX9_comeSpace_1 (fun x1 => ?_)
  refine go_bipush (pc := 4) C dX9_comeSpace_4 kb_6 ?_
  refine go_bind (fun q2 hq2 => ?_)
  refine go_callS (rest := []) (st' := [.int q2]) (c' := 0) (s' := 0) (pc := 6) C O miX9_114 w_434 [.int x1, .int 6] rfl (mX9_leastMissing hq2) dX9_comeSpace_6 ⟨by decide, by decide, by decide, by decide⟩ rfl (Nat.le_of_ble_eq_true rfl) rfl ⟨rfl, rfl⟩ ?_
  refine go_istore_n (ls' := [(2, .int q2), (0, .ref a0), (1, .int a1)]) (pc := 9) C dX9_comeSpace_9 (by decide) rfl ?_
  refine go_iload_n (pc := 10) C 0 dX9_comeSpace_10 rfl ?_
  refine go_bipush (pc := 11) C dX9_comeSpace_11 kb_6 ?_
  refine go_icmp_ge (pc := 13) C 24 dX9_comeSpace_13 (by decide) (fun _ => ?_) (fun _ => ?_)
  · refine go_iconst (pc := 24) C dX9_comeSpace_24 ki_m1 ?_
    exact go_iret (w := wIh) (pc := 25) C E (((-1), h)) ((-1)) dX9_comeSpace_25 rfl
  · refine go_aload_n (pc := 16) C 1 dX9_comeSpace_16 rfl ?_
    refine go_iload_n (pc := 17) C 2 dX9_comeSpace_17 rfl ?_
    refine go_bind (fun q3 hq3 => ?_)
    refine go_callV (rest := []) (st' := [.int (b2i q3)]) (c' := 0) (s' := 0) (pc := 18) C O miX9_55 mvX9_hasObject [.int a1] rfl (mX9_hasObject hq3).1 (mX9_hasObject hq3).2 dX9_comeSpace_18 ⟨by decide, by decide, by decide, by decide⟩ rfl (Nat.le_of_ble_eq_true rfl) rfl ⟨rfl, rfl⟩ ?_
    refine go_ifZ_ne (pc := 21) C 26 dX9_comeSpace_21 (by decide) (fun _ => ?_) (fun _ => ?_)
    · refine go_aload_n (pc := 26) C 1 dX9_comeSpace_26 rfl ?_
      refine go_dup (pc := 27) C dX9_comeSpace_27 rfl ?_
      refine go_gI (pc := 28) C fdX9_36 dX9_comeSpace_28 (fun x4 => ?_)
      refine go_iconst (pc := 31) C dX9_comeSpace_31 ki_1 ?_
      refine go_iload_n (pc := 32) C 0 dX9_comeSpace_32 rfl ?_
      refine go_ishl (pc := 33) C dX9_comeSpace_33 ?_
      refine go_ior (pc := 34) C dX9_comeSpace_34 ?_
      refine go_pI (pc := 35) C fpX9_36 dX9_comeSpace_35 (fun h5 => ?_)
      refine go_aload_n (pc := 38) C 1 dX9_comeSpace_38 rfl ?_
      refine go_gR (pc := 39) C fdX9_9 dX9_comeSpace_39 (fun x6 => ?_)
      refine go_iload_n (pc := 42) C 0 dX9_comeSpace_42 rfl ?_
      refine go_iload_n (pc := 43) C 2 dX9_comeSpace_43 rfl ?_
      refine go_iast (pc := 44) C dX9_comeSpace_44 (fun h7 => ?_)
      refine go_iload_n (pc := 45) C 0 dX9_comeSpace_45 rfl ?_
      exact go_iret (w := wIh) (pc := 46) C E ((q2, h7)) q2 dX9_comeSpace_46 rfl
    · refine go_iconst (pc := 24) C dX9_comeSpace_24 ki_m1 ?_
      exact go_iret (w := wIh) (pc := 25) C E (((-1), h)) ((-1)) dX9_comeSpace_25 rfl
theorem dX9_hold_0 : decode cX9_hold 0 = .ok (.aload_n 0, 1) := by decide +kernel
theorem dX9_hold_1 : decode cX9_hold 1 = .ok (.iload_n 1, 1) := by decide +kernel
theorem dX9_hold_2 : decode cX9_hold 2 = .ok (.invokevirtual 55, 3) := by decide +kernel
theorem dX9_hold_5 : decode cX9_hold 5 = .ok (.ifCond .eq 34, 3) := by decide +kernel
theorem dX9_hold_8 : decode cX9_hold 8 = .ok (.iload_n 2, 1) := by decide +kernel
theorem dX9_hold_9 : decode cX9_hold 9 = .ok (.invokestatic 59, 3) := by decide +kernel
theorem dX9_hold_12 : decode cX9_hold 12 = .ok (.ifCond .eq 27, 3) := by decide +kernel
theorem dX9_hold_15 : decode cX9_hold 15 = .ok (.aload_n 0, 1) := by decide +kernel
theorem dX9_hold_16 : decode cX9_hold 16 = .ok (.getfield 15, 3) := by decide +kernel
theorem dX9_hold_19 : decode cX9_hold 19 = .ok (.iload_n 1, 1) := by decide +kernel
theorem dX9_hold_20 : decode cX9_hold 20 = .ok (.dup2, 1) := by decide +kernel
theorem dX9_hold_21 : decode cX9_hold 21 = .ok (.iaload, 1) := by decide +kernel
theorem dX9_hold_22 : decode cX9_hold 22 = .ok (.iconst 1, 1) := by decide +kernel
theorem dX9_hold_23 : decode cX9_hold 23 = .ok (.iload_n 2, 1) := by decide +kernel
theorem dX9_hold_24 : decode cX9_hold 24 = .ok (.ishl, 1) := by decide +kernel
theorem dX9_hold_25 : decode cX9_hold 25 = .ok (.ior, 1) := by decide +kernel
theorem dX9_hold_26 : decode cX9_hold 26 = .ok (.iastore, 1) := by decide +kernel
theorem dX9_hold_27 : decode cX9_hold 27 = .ok (.aload_n 0, 1) := by decide +kernel
theorem dX9_hold_28 : decode cX9_hold 28 = .ok (.getfield 33, 3) := by decide +kernel
theorem dX9_hold_31 : decode cX9_hold 31 = .ok (.iload_n 1, 1) := by decide +kernel
theorem dX9_hold_32 : decode cX9_hold 32 = .ok (.bipush 8, 2) := by decide +kernel
theorem dX9_hold_34 : decode cX9_hold 34 = .ok (.imul, 1) := by decide +kernel
theorem dX9_hold_35 : decode cX9_hold 35 = .ok (.iload_n 2, 1) := by decide +kernel
theorem dX9_hold_36 : decode cX9_hold 36 = .ok (.iadd, 1) := by decide +kernel
theorem dX9_hold_37 : decode cX9_hold 37 = .ok (.iload_n 3, 1) := by decide +kernel
theorem dX9_hold_38 : decode cX9_hold 38 = .ok (.iastore, 1) := by decide +kernel
theorem dX9_hold_39 : decode cX9_hold 39 = .ok (.return_, 1) := by decide +kernel
def fX9_hold (h : AH) (a0 : Nat) (a1 : Int32) (a2 : Int32) (a3 : Int32) : Option (AH) :=
  if hasC h 9 a0 = true then (
    (fX9_hasObject h a0 a1).bind fun q1 =>
    if q1 = true then (
      (fX10_isPage h a2).bind fun q2 =>
      if q2 = true then (
        (gR h 9 a0 5).bind fun x3 =>
        (aI h 0 x3 a1).bind fun x4 =>
        (sI h 0 x3 a1 (x4 ||| (1 <<< (a2 &&& 31)))).bind fun h5 =>
        (gR h5 9 a0 11).bind fun x6 =>
        (sI h5 0 x6 ((a1 * 8) + a2) a3).bind fun h7 =>
        some h7
      ) else (
        some h
      )
    ) else (
      some h
    )
  ) else none
set_option maxHeartbeats 4000000 in
theorem mX9_hold {h : AH} {a0 : Nat} {a1 : Int32} {a2 : Int32} {a3 : Int32} {r : AH} (hr : fX9_hold h a0 a1 a2 a3 = some r) : hasC h 9 a0 = true ∧ MC yX9_hold cX9_hold 4 none 2 0 0 [.ref a0, .int a1, .int a2, .int a3] h none r := by
  unfold fX9_hold at hr
  obtain ⟨hc, hr⟩ := if_some hr
  refine ⟨hc, mc_of (l0 := [(0, .ref a0), (1, .int a1), (2, .int a2), (3, .int a3)]) rfl pn_X9 (Nat.le_of_ble_eq_true rfl) (fun Y X C E O hnm => go_run hr ?_)⟩
  have C : CT Y X RX9 cX9_hold 4 := C
  refine go_aload_n (pc := 0) C 0 dX9_hold_0 rfl ?_
  refine go_iload_n (pc := 1) C 1 dX9_hold_1 rfl ?_
  refine go_bind (fun q1 hq1 => ?_)
  refine go_callV (rest := []) (st' := [.int (b2i q1)]) (c' := 0) (s' := 0) (pc := 2) C O miX9_55 mvX9_hasObject [.int a1] rfl (mX9_hasObject hq1).1 (mX9_hasObject hq1).2 dX9_hold_2 ⟨by decide, by decide, by decide, by decide⟩ rfl (Nat.le_of_ble_eq_true rfl) rfl ⟨rfl, rfl⟩ ?_
  refine go_ifZ_eq (pc := 5) C 39 dX9_hold_5 (by decide) (fun _ => ?_) (fun _ => ?_)
  · refine go_iload_n (pc := 8) C 2 dX9_hold_8 rfl ?_
    refine go_bind (fun q2 hq2 => ?_)
    refine go_callSN (rest := []) (st' := [.int (b2i q2)]) (c' := 0) (s' := 0) (pc := 9) C O miX9_59 w_456 [.int a2] rfl (mX10_isPage hq2) dX9_hold_9 ⟨by decide, by decide, by decide, by decide⟩ rfl (Nat.le_of_ble_eq_true rfl) rfl ⟨rfl, rfl⟩ ?_
    refine go_ifZ_eq (pc := 12) C 39 dX9_hold_12 (by decide) (fun _ => ?_) (fun _ => ?_)
    · refine go_aload_n (pc := 15) C 0 dX9_hold_15 rfl ?_
      refine go_gR (pc := 16) C fdX9_15 dX9_hold_16 (fun x3 => ?_)
      refine go_iload_n (pc := 19) C 1 dX9_hold_19 rfl ?_
      refine go_dup2 (pc := 20) C dX9_hold_20 rfl rfl ?_
      refine go_iald (pc := 21) C dX9_hold_21 (fun x4 => ?_)
      refine go_iconst (pc := 22) C dX9_hold_22 ki_1 ?_
      refine go_iload_n (pc := 23) C 2 dX9_hold_23 rfl ?_
      refine go_ishl (pc := 24) C dX9_hold_24 ?_
      refine go_ior (pc := 25) C dX9_hold_25 ?_
      refine go_iast (pc := 26) C dX9_hold_26 (fun h5 => ?_)
      refine go_aload_n (pc := 27) C 0 dX9_hold_27 rfl ?_
      refine go_gR (pc := 28) C fdX9_33 dX9_hold_28 (fun x6 => ?_)
      refine go_iload_n (pc := 31) C 1 dX9_hold_31 rfl ?_
      refine go_bipush (pc := 32) C dX9_hold_32 kb_8 ?_
      refine go_imul (pc := 34) C dX9_hold_34 ?_
      refine go_iload_n (pc := 35) C 2 dX9_hold_35 rfl ?_
      refine go_iadd (pc := 36) C dX9_hold_36 ?_
      refine go_iload_n (pc := 37) C 3 dX9_hold_37 rfl ?_
      refine go_iast (pc := 38) C dX9_hold_38 (fun h7 => ?_)
      exact go_vret (w := wV) (pc := 39) C E h7 dX9_hold_39 rfl
    · exact go_vret (w := wV) (pc := 39) C E h dX9_hold_39 rfl
  · exact go_vret (w := wV) (pc := 39) C E h dX9_hold_39 rfl
theorem dX9_setDigit_0 : decode cX9_setDigit 0 = .ok (.aload_n 0, 1) := by decide +kernel
theorem dX9_setDigit_1 : decode cX9_setDigit 1 = .ok (.iload_n 1, 1) := by decide +kernel
theorem dX9_setDigit_2 : decode cX9_setDigit 2 = .ok (.invokevirtual 55, 3) := by decide +kernel
theorem dX9_setDigit_5 : decode cX9_setDigit 5 = .ok (.ifCond .eq 10, 3) := by decide +kernel
theorem dX9_setDigit_8 : decode cX9_setDigit 8 = .ok (.aload_n 0, 1) := by decide +kernel
theorem dX9_setDigit_9 : decode cX9_setDigit 9 = .ok (.getfield 30, 3) := by decide +kernel
theorem dX9_setDigit_12 : decode cX9_setDigit 12 = .ok (.iload_n 1, 1) := by decide +kernel
theorem dX9_setDigit_13 : decode cX9_setDigit 13 = .ok (.iload_n 2, 1) := by decide +kernel
theorem dX9_setDigit_14 : decode cX9_setDigit 14 = .ok (.iastore, 1) := by decide +kernel
theorem dX9_setDigit_15 : decode cX9_setDigit 15 = .ok (.return_, 1) := by decide +kernel
def fX9_setDigit (h : AH) (a0 : Nat) (a1 : Int32) (a2 : Int32) : Option (AH) :=
  if hasC h 9 a0 = true then (
    (fX9_hasObject h a0 a1).bind fun q1 =>
    if q1 = true then (
      (gR h 9 a0 10).bind fun x2 =>
      (sI h 0 x2 a1 a2).bind fun h3 =>
      some h3
    ) else (
      some h
    )
  ) else none
set_option maxHeartbeats 4000000 in
theorem mX9_setDigit {h : AH} {a0 : Nat} {a1 : Int32} {a2 : Int32} {r : AH} (hr : fX9_setDigit h a0 a1 a2 = some r) : hasC h 9 a0 = true ∧ MC yX9_setDigit cX9_setDigit 3 none 2 0 0 [.ref a0, .int a1, .int a2] h none r := by
  unfold fX9_setDigit at hr
  obtain ⟨hc, hr⟩ := if_some hr
  refine ⟨hc, mc_of (l0 := [(0, .ref a0), (1, .int a1), (2, .int a2)]) rfl pn_X9 (Nat.le_of_ble_eq_true rfl) (fun Y X C E O hnm => go_run hr ?_)⟩
  have C : CT Y X RX9 cX9_setDigit 3 := C
  refine go_aload_n (pc := 0) C 0 dX9_setDigit_0 rfl ?_
  refine go_iload_n (pc := 1) C 1 dX9_setDigit_1 rfl ?_
  refine go_bind (fun q1 hq1 => ?_)
  refine go_callV (rest := []) (st' := [.int (b2i q1)]) (c' := 0) (s' := 0) (pc := 2) C O miX9_55 mvX9_hasObject [.int a1] rfl (mX9_hasObject hq1).1 (mX9_hasObject hq1).2 dX9_setDigit_2 ⟨by decide, by decide, by decide, by decide⟩ rfl (Nat.le_of_ble_eq_true rfl) rfl ⟨rfl, rfl⟩ ?_
  refine go_ifZ_eq (pc := 5) C 15 dX9_setDigit_5 (by decide) (fun _ => ?_) (fun _ => ?_)
  · refine go_aload_n (pc := 8) C 0 dX9_setDigit_8 rfl ?_
    refine go_gR (pc := 9) C fdX9_30 dX9_setDigit_9 (fun x2 => ?_)
    refine go_iload_n (pc := 12) C 1 dX9_setDigit_12 rfl ?_
    refine go_iload_n (pc := 13) C 2 dX9_setDigit_13 rfl ?_
    refine go_iast (pc := 14) C dX9_setDigit_14 (fun h3 => ?_)
    exact go_vret (w := wV) (pc := 15) C E h3 dX9_setDigit_15 rfl
  · exact go_vret (w := wV) (pc := 15) C E h dX9_setDigit_15 rfl
theorem dX9_peekPage_0 : decode cX9_peekPage 0 = .ok (.aload_n 0, 1) := by decide +kernel
theorem dX9_peekPage_1 : decode cX9_peekPage 1 = .ok (.iload_n 1, 1) := by decide +kernel
theorem dX9_peekPage_2 : decode cX9_peekPage 2 = .ok (.invokevirtual 78, 3) := by decide +kernel
theorem dX9_peekPage_5 : decode cX9_peekPage 5 = .ok (.ifCond .eq 10, 3) := by decide +kernel
theorem dX9_peekPage_8 : decode cX9_peekPage 8 = .ok (.iload_n 2, 1) := by decide +kernel
theorem dX9_peekPage_9 : decode cX9_peekPage 9 = .ok (.invokestatic 59, 3) := by decide +kernel
theorem dX9_peekPage_12 : decode cX9_peekPage 12 = .ok (.ifCond .ne 5, 3) := by decide +kernel
theorem dX9_peekPage_15 : decode cX9_peekPage 15 = .ok (.iconst (-1), 1) := by decide +kernel
theorem dX9_peekPage_16 : decode cX9_peekPage 16 = .ok (.ireturn, 1) := by decide +kernel
theorem dX9_peekPage_17 : decode cX9_peekPage 17 = .ok (.aload_n 0, 1) := by decide +kernel
theorem dX9_peekPage_18 : decode cX9_peekPage 18 = .ok (.iload_n 1, 1) := by decide +kernel
theorem dX9_peekPage_19 : decode cX9_peekPage 19 = .ok (.iload_n 2, 1) := by decide +kernel
theorem dX9_peekPage_20 : decode cX9_peekPage 20 = .ok (.invokevirtual 97, 3) := by decide +kernel
theorem dX9_peekPage_23 : decode cX9_peekPage 23 = .ok (.istore_n 3, 1) := by decide +kernel
theorem dX9_peekPage_24 : decode cX9_peekPage 24 = .ok (.iload_n 3, 1) := by decide +kernel
theorem dX9_peekPage_25 : decode cX9_peekPage 25 = .ok (.bipush 24, 2) := by decide +kernel
theorem dX9_peekPage_27 : decode cX9_peekPage 27 = .ok (.if_icmp .eq 10, 3) := by decide +kernel
theorem dX9_peekPage_30 : decode cX9_peekPage 30 = .ok (.aload_n 0, 1) := by decide +kernel
theorem dX9_peekPage_31 : decode cX9_peekPage 31 = .ok (.iload_n 3, 1) := by decide +kernel
theorem dX9_peekPage_32 : decode cX9_peekPage 32 = .ok (.iload_n 2, 1) := by decide +kernel
theorem dX9_peekPage_33 : decode cX9_peekPage 33 = .ok (.invokevirtual 117, 3) := by decide +kernel
theorem dX9_peekPage_36 : decode cX9_peekPage 36 = .ok (.ireturn, 1) := by decide +kernel
theorem dX9_peekPage_37 : decode cX9_peekPage 37 = .ok (.aload_n 0, 1) := by decide +kernel
theorem dX9_peekPage_38 : decode cX9_peekPage 38 = .ok (.iload_n 1, 1) := by decide +kernel
theorem dX9_peekPage_39 : decode cX9_peekPage 39 = .ok (.invokevirtual 120, 3) := by decide +kernel
theorem dX9_peekPage_42 : decode cX9_peekPage 42 = .ok (.istore 4, 2) := by decide +kernel
theorem dX9_peekPage_44 : decode cX9_peekPage 44 = .ok (.aload_n 0, 1) := by decide +kernel
theorem dX9_peekPage_45 : decode cX9_peekPage 45 = .ok (.iload 4, 2) := by decide +kernel
theorem dX9_peekPage_47 : decode cX9_peekPage 47 = .ok (.invokevirtual 123, 3) := by decide +kernel
theorem dX9_peekPage_50 : decode cX9_peekPage 50 = .ok (.tableswitch 44 1 3 #[26, 38, 41], 26) := by decide +kernel
theorem dX9_peekPage_76 : decode cX9_peekPage 76 = .ok (.bipush 10, 2) := by decide +kernel
theorem dX9_peekPage_78 : decode cX9_peekPage 78 = .ok (.aload_n 0, 1) := by decide +kernel
theorem dX9_peekPage_79 : decode cX9_peekPage 79 = .ok (.iload 4, 2) := by decide +kernel
theorem dX9_peekPage_81 : decode cX9_peekPage 81 = .ok (.invokevirtual 126, 3) := by decide +kernel
theorem dX9_peekPage_84 : decode cX9_peekPage 84 = .ok (.imul, 1) := by decide +kernel
theorem dX9_peekPage_85 : decode cX9_peekPage 85 = .ok (.iload_n 2, 1) := by decide +kernel
theorem dX9_peekPage_86 : decode cX9_peekPage 86 = .ok (.iadd, 1) := by decide +kernel
theorem dX9_peekPage_87 : decode cX9_peekPage 87 = .ok (.ireturn, 1) := by decide +kernel
theorem dX9_peekPage_88 : decode cX9_peekPage 88 = .ok (.bipush (-3), 2) := by decide +kernel
theorem dX9_peekPage_90 : decode cX9_peekPage 90 = .ok (.ireturn, 1) := by decide +kernel
theorem dX9_peekPage_91 : decode cX9_peekPage 91 = .ok (.bipush (-4), 2) := by decide +kernel
theorem dX9_peekPage_93 : decode cX9_peekPage 93 = .ok (.ireturn, 1) := by decide +kernel
theorem dX9_peekPage_94 : decode cX9_peekPage 94 = .ok (.iconst 0, 1) := by decide +kernel
theorem dX9_peekPage_95 : decode cX9_peekPage 95 = .ok (.ireturn, 1) := by decide +kernel
def fX9_peekPage (h : AH) (a0 : Nat) (a1 : Int32) (a2 : Int32) : Option (Int32) :=
  if hasC h 9 a0 = true then (
    (fX9_hasSpace h a0 a1).bind fun q1 =>
    if q1 = true then (
      (fX10_isPage h a2).bind fun q2 =>
      if q2 = true then (
        (fX9_firstHolder h a0 a1 a2).bind fun q3 =>
        if q3 = 24 then (
          (fX9_lastOf h a0 a1).bind fun q4 =>
          (fX9_pagerOf h a0 q4).bind fun q5 =>
          if q5 = 1 then (
            (fX9_digitOf h a0 q4).bind fun q7 =>
            some ((10 * q7) + a2)
          ) else (
            if q5 = 2 then (
              some ((-3))
            ) else (
              if q5 = 3 then (
                some ((-4))
              ) else (
                some 0)))
        ) else (
          (fX9_valueOf h a0 q3 a2).bind fun q10 =>
          some q10
        )
      ) else (
        some ((-1))
      )
    ) else (
      some ((-1))
    )
  ) else none
set_option maxHeartbeats 4000000 in
theorem mX9_peekPage {h : AH} {a0 : Nat} {a1 : Int32} {a2 : Int32} {r : Int32} (hr : fX9_peekPage h a0 a1 a2 = some r) : hasC h 9 a0 = true ∧ MC yX9_peekPage cX9_peekPage 5 (some .int) 4 0 0 [.ref a0, .int a1, .int a2] h (some (.int r)) h := by
  unfold fX9_peekPage at hr
  obtain ⟨hc, hr⟩ := if_some hr
  refine ⟨hc, mc_of (l0 := [(0, .ref a0), (1, .int a1), (2, .int a2)]) rfl pn_X9 (Nat.le_of_ble_eq_true rfl) (fun Y X C E O hnm => go_run hr ?_)⟩
  have C : CT Y X RX9 cX9_peekPage 5 := C
  refine go_aload_n (pc := 0) C 0 dX9_peekPage_0 rfl ?_
  refine go_iload_n (pc := 1) C 1 dX9_peekPage_1 rfl ?_
  refine go_bind (fun q1 hq1 => ?_)
  refine go_callV (rest := []) (st' := [.int (b2i q1)]) (c' := 0) (s' := 0) (pc := 2) C O miX9_78 mvX9_hasSpace [.int a1] rfl (mX9_hasSpace hq1).1 (mX9_hasSpace hq1).2 dX9_peekPage_2 ⟨by decide, by decide, by decide, by decide⟩ rfl (Nat.le_of_ble_eq_true rfl) rfl ⟨rfl, rfl⟩ ?_
  refine go_ifZ_eq (pc := 5) C 15 dX9_peekPage_5 (by decide) (fun _ => ?_) (fun _ => ?_)
  · refine go_iload_n (pc := 8) C 2 dX9_peekPage_8 rfl ?_
    refine go_bind (fun q2 hq2 => ?_)
    refine go_callSN (rest := []) (st' := [.int (b2i q2)]) (c' := 0) (s' := 0) (pc := 9) C O miX9_59 w_456 [.int a2] rfl (mX10_isPage hq2) dX9_peekPage_9 ⟨by decide, by decide, by decide, by decide⟩ rfl (Nat.le_of_ble_eq_true rfl) rfl ⟨rfl, rfl⟩ ?_
    refine go_ifZ_ne (pc := 12) C 17 dX9_peekPage_12 (by decide) (fun _ => ?_) (fun _ => ?_)
    · refine go_aload_n (pc := 17) C 0 dX9_peekPage_17 rfl ?_
      refine go_iload_n (pc := 18) C 1 dX9_peekPage_18 rfl ?_
      refine go_iload_n (pc := 19) C 2 dX9_peekPage_19 rfl ?_
      refine go_bind (fun q3 hq3 => ?_)
      refine go_callV (rest := []) (st' := [.int q3]) (c' := 0) (s' := 0) (pc := 20) C O miX9_97 mvX9_firstHolder [.int a1, .int a2] rfl (mX9_firstHolder hq3).1 (mX9_firstHolder hq3).2 dX9_peekPage_20 ⟨by decide, by decide, by decide, by decide⟩ rfl (Nat.le_of_ble_eq_true rfl) rfl ⟨rfl, rfl⟩ ?_
      refine go_istore_n (ls' := [(3, .int q3), (0, .ref a0), (1, .int a1), (2, .int a2)]) (pc := 23) C dX9_peekPage_23 (by decide) rfl ?_
      refine go_iload_n (pc := 24) C 0 dX9_peekPage_24 rfl ?_
      refine go_bipush (pc := 25) C dX9_peekPage_25 kb_24 ?_
      refine go_icmp_eq (pc := 27) C 37 dX9_peekPage_27 (by decide) (fun _ => ?_) (fun _ => ?_)
      · refine go_aload_n (pc := 37) C 1 dX9_peekPage_37 rfl ?_
        refine go_iload_n (pc := 38) C 2 dX9_peekPage_38 rfl ?_
        refine go_bind (fun q4 hq4 => ?_)
        refine go_callV (rest := []) (st' := [.int q4]) (c' := 0) (s' := 0) (pc := 39) C O miX9_120 mvX9_lastOf [.int a1] rfl (mX9_lastOf hq4).1 (mX9_lastOf hq4).2 dX9_peekPage_39 ⟨by decide, by decide, by decide, by decide⟩ rfl (Nat.le_of_ble_eq_true rfl) rfl ⟨rfl, rfl⟩ ?_
        refine go_istore (ls' := [(4, .int q4), (3, .int q3), (0, .ref a0), (1, .int a1), (2, .int a2)]) (pc := 42) C dX9_peekPage_42 (by decide) rfl ?_
        refine go_aload_n (pc := 44) C 2 dX9_peekPage_44 rfl ?_
        refine go_iload (pc := 45) C 0 dX9_peekPage_45 rfl ?_
        refine go_bind (fun q5 hq5 => ?_)
        refine go_callV (rest := []) (st' := [.int q5]) (c' := 0) (s' := 0) (pc := 47) C O miX9_123 mvX9_pagerOf [.int q4] rfl (mX9_pagerOf hq5).1 (mX9_pagerOf hq5).2 dX9_peekPage_47 ⟨by decide, by decide, by decide, by decide⟩ rfl (Nat.le_of_ble_eq_true rfl) rfl ⟨rfl, rfl⟩ ?_
        refine go_ite (fun hc6 => ?_) (fun hc6 => ?_)
        · refine go_tsw (pc := 50) C 76 1 hc6 dX9_peekPage_50 (by decide) (by decide) rfl (by decide) ?_
          refine go_bipush (pc := 76) C dX9_peekPage_76 kb_10 ?_
          refine go_aload_n (pc := 78) C 2 dX9_peekPage_78 rfl ?_
          refine go_iload (pc := 79) C 0 dX9_peekPage_79 rfl ?_
          refine go_bind (fun q7 hq7 => ?_)
          refine go_callV (rest := [.int 10]) (st' := [.int q7, .int 10]) (c' := 0) (s' := 0) (pc := 81) C O miX9_126 mvX9_digitOf [.int q4] rfl (mX9_digitOf hq7).1 (mX9_digitOf hq7).2 dX9_peekPage_81 ⟨by decide, by decide, by decide, by decide⟩ rfl (Nat.le_of_ble_eq_true rfl) rfl ⟨rfl, rfl⟩ ?_
          refine go_imul (pc := 84) C dX9_peekPage_84 ?_
          refine go_iload_n (pc := 85) C 4 dX9_peekPage_85 rfl ?_
          refine go_iadd (pc := 86) C dX9_peekPage_86 ?_
          exact go_iret (w := (wI h)) (pc := 87) C E ((10 * q7) + a2) ((10 * q7) + a2) dX9_peekPage_87 rfl
        · refine go_ite (fun hc8 => ?_) (fun hc8 => ?_)
          · refine go_tsw (pc := 50) C 88 2 hc8 dX9_peekPage_50 (by decide) (by decide) rfl (by decide) ?_
            refine go_bipush (pc := 88) C dX9_peekPage_88 kb_m3 ?_
            exact go_iret (w := (wI h)) (pc := 90) C E ((-3)) ((-3)) dX9_peekPage_90 rfl
          · refine go_ite (fun hc9 => ?_) (fun hc9 => ?_)
            · refine go_tsw (pc := 50) C 91 3 hc9 dX9_peekPage_50 (by decide) (by decide) rfl (by decide) ?_
              refine go_bipush (pc := 91) C dX9_peekPage_91 kb_m4 ?_
              exact go_iret (w := (wI h)) (pc := 93) C E ((-4)) ((-4)) dX9_peekPage_93 rfl
            · refine go_tsw_else (pc := 50) C 94 [1, 2, 3] dX9_peekPage_50 (fun v hv => by simp only [List.mem_cons, List.not_mem_nil, or_false] at hv; rcases hv with rfl | rfl | rfl <;> first | exact i32_ne hc6 (by decide) | exact i32_ne hc8 (by decide) | exact i32_ne hc9 (by decide)) (by decide) (by decide) (by decide) ?_
              refine go_iconst (pc := 94) C dX9_peekPage_94 ki_0 ?_
              exact go_iret (w := (wI h)) (pc := 95) C E 0 0 dX9_peekPage_95 rfl
      · refine go_aload_n (pc := 30) C 1 dX9_peekPage_30 rfl ?_
        refine go_iload_n (pc := 31) C 0 dX9_peekPage_31 rfl ?_
        refine go_iload_n (pc := 32) C 3 dX9_peekPage_32 rfl ?_
        refine go_bind (fun q10 hq10 => ?_)
        refine go_callV (rest := []) (st' := [.int q10]) (c' := 0) (s' := 0) (pc := 33) C O miX9_117 mvX9_valueOf [.int q3, .int a2] rfl (mX9_valueOf hq10).1 (mX9_valueOf hq10).2 dX9_peekPage_33 ⟨by decide, by decide, by decide, by decide⟩ rfl (Nat.le_of_ble_eq_true rfl) rfl ⟨rfl, rfl⟩ ?_
        exact go_iret (w := (wI h)) (pc := 36) C E q10 q10 dX9_peekPage_36 rfl
    · refine go_iconst (pc := 15) C dX9_peekPage_15 ki_m1 ?_
      exact go_iret (w := (wI h)) (pc := 16) C E ((-1)) ((-1)) dX9_peekPage_16 rfl
  · refine go_iconst (pc := 15) C dX9_peekPage_15 ki_m1 ?_
    exact go_iret (w := (wI h)) (pc := 16) C E ((-1)) ((-1)) dX9_peekPage_16 rfl
theorem dX9_awaitIfLate_0 : decode cX9_awaitIfLate 0 = .ok (.aload_n 0, 1) := by decide +kernel
theorem dX9_awaitIfLate_1 : decode cX9_awaitIfLate 1 = .ok (.iload_n 2, 1) := by decide +kernel
theorem dX9_awaitIfLate_2 : decode cX9_awaitIfLate 2 = .ok (.invokevirtual 120, 3) := by decide +kernel
theorem dX9_awaitIfLate_5 : decode cX9_awaitIfLate 5 = .ok (.istore 4, 2) := by decide +kernel
theorem dX9_awaitIfLate_7 : decode cX9_awaitIfLate 7 = .ok (.iload_n 1, 1) := by decide +kernel
theorem dX9_awaitIfLate_8 : decode cX9_awaitIfLate 8 = .ok (.bipush (-3), 2) := by decide +kernel
theorem dX9_awaitIfLate_10 : decode cX9_awaitIfLate 10 = .ok (.if_icmp .ne 32, 3) := by decide +kernel
theorem dX9_awaitIfLate_13 : decode cX9_awaitIfLate 13 = .ok (.aload_n 0, 1) := by decide +kernel
theorem dX9_awaitIfLate_14 : decode cX9_awaitIfLate 14 = .ok (.iload 4, 2) := by decide +kernel
theorem dX9_awaitIfLate_16 : decode cX9_awaitIfLate 16 = .ok (.invokevirtual 55, 3) := by decide +kernel
theorem dX9_awaitIfLate_19 : decode cX9_awaitIfLate 19 = .ok (.ifCond .eq 23, 3) := by decide +kernel
theorem dX9_awaitIfLate_22 : decode cX9_awaitIfLate 22 = .ok (.iload_n 3, 1) := by decide +kernel
theorem dX9_awaitIfLate_23 : decode cX9_awaitIfLate 23 = .ok (.invokestatic 59, 3) := by decide +kernel
theorem dX9_awaitIfLate_26 : decode cX9_awaitIfLate 26 = .ok (.ifCond .eq 16, 3) := by decide +kernel
theorem dX9_awaitIfLate_29 : decode cX9_awaitIfLate 29 = .ok (.aload_n 0, 1) := by decide +kernel
theorem dX9_awaitIfLate_30 : decode cX9_awaitIfLate 30 = .ok (.getfield 18, 3) := by decide +kernel
theorem dX9_awaitIfLate_33 : decode cX9_awaitIfLate 33 = .ok (.iload 4, 2) := by decide +kernel
theorem dX9_awaitIfLate_35 : decode cX9_awaitIfLate 35 = .ok (.dup2, 1) := by decide +kernel
theorem dX9_awaitIfLate_36 : decode cX9_awaitIfLate 36 = .ok (.iaload, 1) := by decide +kernel
theorem dX9_awaitIfLate_37 : decode cX9_awaitIfLate 37 = .ok (.iconst 1, 1) := by decide +kernel
theorem dX9_awaitIfLate_38 : decode cX9_awaitIfLate 38 = .ok (.iload_n 3, 1) := by decide +kernel
theorem dX9_awaitIfLate_39 : decode cX9_awaitIfLate 39 = .ok (.ishl, 1) := by decide +kernel
theorem dX9_awaitIfLate_40 : decode cX9_awaitIfLate 40 = .ok (.ior, 1) := by decide +kernel
theorem dX9_awaitIfLate_41 : decode cX9_awaitIfLate 41 = .ok (.iastore, 1) := by decide +kernel
theorem dX9_awaitIfLate_42 : decode cX9_awaitIfLate 42 = .ok (.return_, 1) := by decide +kernel
def fX9_awaitIfLate (h : AH) (a0 : Nat) (a1 : Int32) (a2 : Int32) (a3 : Int32) : Option (AH) :=
  if hasC h 9 a0 = true then (
    (fX9_lastOf h a0 a2).bind fun q1 =>
    if a1 = ((-3)) then (
      (fX9_hasObject h a0 q1).bind fun q2 =>
      if q2 = true then (
        (fX10_isPage h a3).bind fun q3 =>
        if q3 = true then (
          (gR h 9 a0 6).bind fun x4 =>
          (aI h 0 x4 q1).bind fun x5 =>
          (sI h 0 x4 q1 (x5 ||| (1 <<< (a3 &&& 31)))).bind fun h6 =>
          some h6
        ) else (
          some h
        )
      ) else (
        some h
      )
    ) else (
      some h
    )
  ) else none
set_option maxHeartbeats 4000000 in
theorem mX9_awaitIfLate {h : AH} {a0 : Nat} {a1 : Int32} {a2 : Int32} {a3 : Int32} {r : AH} (hr : fX9_awaitIfLate h a0 a1 a2 a3 = some r) : hasC h 9 a0 = true ∧ MC yX9_awaitIfLate cX9_awaitIfLate 5 none 4 0 0 [.ref a0, .int a1, .int a2, .int a3] h none r := by
  unfold fX9_awaitIfLate at hr
  obtain ⟨hc, hr⟩ := if_some hr
  refine ⟨hc, mc_of (l0 := [(0, .ref a0), (1, .int a1), (2, .int a2), (3, .int a3)]) rfl pn_X9 (Nat.le_of_ble_eq_true rfl) (fun Y X C E O hnm => go_run hr ?_)⟩
  have C : CT Y X RX9 cX9_awaitIfLate 5 := C
  refine go_aload_n (pc := 0) C 0 dX9_awaitIfLate_0 rfl ?_
  refine go_iload_n (pc := 1) C 2 dX9_awaitIfLate_1 rfl ?_
  refine go_bind (fun q1 hq1 => ?_)
  refine go_callV (rest := []) (st' := [.int q1]) (c' := 0) (s' := 0) (pc := 2) C O miX9_120 mvX9_lastOf [.int a2] rfl (mX9_lastOf hq1).1 (mX9_lastOf hq1).2 dX9_awaitIfLate_2 ⟨by decide, by decide, by decide, by decide⟩ rfl (Nat.le_of_ble_eq_true rfl) rfl ⟨rfl, rfl⟩ ?_
  refine go_istore (ls' := [(4, .int q1), (0, .ref a0), (1, .int a1), (2, .int a2), (3, .int a3)]) (pc := 5) C dX9_awaitIfLate_5 (by decide) rfl ?_
  refine go_iload_n (pc := 7) C 2 dX9_awaitIfLate_7 rfl ?_
  refine go_bipush (pc := 8) C dX9_awaitIfLate_8 kb_m3 ?_
  refine go_icmp_ne (pc := 10) C 42 dX9_awaitIfLate_10 (by decide) (fun _ => ?_) (fun _ => ?_)
  · refine go_aload_n (pc := 13) C 1 dX9_awaitIfLate_13 rfl ?_
    refine go_iload (pc := 14) C 0 dX9_awaitIfLate_14 rfl ?_
    refine go_bind (fun q2 hq2 => ?_)
    refine go_callV (rest := []) (st' := [.int (b2i q2)]) (c' := 0) (s' := 0) (pc := 16) C O miX9_55 mvX9_hasObject [.int q1] rfl (mX9_hasObject hq2).1 (mX9_hasObject hq2).2 dX9_awaitIfLate_16 ⟨by decide, by decide, by decide, by decide⟩ rfl (Nat.le_of_ble_eq_true rfl) rfl ⟨rfl, rfl⟩ ?_
    refine go_ifZ_eq (pc := 19) C 42 dX9_awaitIfLate_19 (by decide) (fun _ => ?_) (fun _ => ?_)
    · refine go_iload_n (pc := 22) C 4 dX9_awaitIfLate_22 rfl ?_
      refine go_bind (fun q3 hq3 => ?_)
      refine go_callSN (rest := []) (st' := [.int (b2i q3)]) (c' := 0) (s' := 0) (pc := 23) C O miX9_59 w_456 [.int a3] rfl (mX10_isPage hq3) dX9_awaitIfLate_23 ⟨by decide, by decide, by decide, by decide⟩ rfl (Nat.le_of_ble_eq_true rfl) rfl ⟨rfl, rfl⟩ ?_
      refine go_ifZ_eq (pc := 26) C 42 dX9_awaitIfLate_26 (by decide) (fun _ => ?_) (fun _ => ?_)
      · refine go_aload_n (pc := 29) C 1 dX9_awaitIfLate_29 rfl ?_
        refine go_gR (pc := 30) C fdX9_18 dX9_awaitIfLate_30 (fun x4 => ?_)
        refine go_iload (pc := 33) C 0 dX9_awaitIfLate_33 rfl ?_
        refine go_dup2 (pc := 35) C dX9_awaitIfLate_35 rfl rfl ?_
        refine go_iald (pc := 36) C dX9_awaitIfLate_36 (fun x5 => ?_)
        refine go_iconst (pc := 37) C dX9_awaitIfLate_37 ki_1 ?_
        refine go_iload_n (pc := 38) C 4 dX9_awaitIfLate_38 rfl ?_
        refine go_ishl (pc := 39) C dX9_awaitIfLate_39 ?_
        refine go_ior (pc := 40) C dX9_awaitIfLate_40 ?_
        refine go_iast (pc := 41) C dX9_awaitIfLate_41 (fun h6 => ?_)
        exact go_vret (w := wV) (pc := 42) C E h6 dX9_awaitIfLate_42 rfl
      · exact go_vret (w := wV) (pc := 42) C E h dX9_awaitIfLate_42 rfl
    · exact go_vret (w := wV) (pc := 42) C E h dX9_awaitIfLate_42 rfl
  · exact go_vret (w := wV) (pc := 42) C E h dX9_awaitIfLate_42 rfl
theorem dX9_isPagedIn_0 : decode cX9_isPagedIn 0 = .ok (.aload_n 0, 1) := by decide +kernel
theorem dX9_isPagedIn_1 : decode cX9_isPagedIn 1 = .ok (.iload_n 1, 1) := by decide +kernel
theorem dX9_isPagedIn_2 : decode cX9_isPagedIn 2 = .ok (.iload_n 2, 1) := by decide +kernel
theorem dX9_isPagedIn_3 : decode cX9_isPagedIn 3 = .ok (.invokevirtual 97, 3) := by decide +kernel
theorem dX9_isPagedIn_6 : decode cX9_isPagedIn 6 = .ok (.bipush 24, 2) := by decide +kernel
theorem dX9_isPagedIn_8 : decode cX9_isPagedIn 8 = .ok (.if_icmp .ne 20, 3) := by decide +kernel
theorem dX9_isPagedIn_11 : decode cX9_isPagedIn 11 = .ok (.aload_n 0, 1) := by decide +kernel
theorem dX9_isPagedIn_12 : decode cX9_isPagedIn 12 = .ok (.aload_n 0, 1) := by decide +kernel
theorem dX9_isPagedIn_13 : decode cX9_isPagedIn 13 = .ok (.iload_n 1, 1) := by decide +kernel
theorem dX9_isPagedIn_14 : decode cX9_isPagedIn 14 = .ok (.invokevirtual 120, 3) := by decide +kernel
theorem dX9_isPagedIn_17 : decode cX9_isPagedIn 17 = .ok (.invokevirtual 123, 3) := by decide +kernel
theorem dX9_isPagedIn_20 : decode cX9_isPagedIn 20 = .ok (.iconst 1, 1) := by decide +kernel
theorem dX9_isPagedIn_21 : decode cX9_isPagedIn 21 = .ok (.if_icmp .ne 7, 3) := by decide +kernel
theorem dX9_isPagedIn_24 : decode cX9_isPagedIn 24 = .ok (.iconst 1, 1) := by decide +kernel
theorem dX9_isPagedIn_25 : decode cX9_isPagedIn 25 = .ok (.goto 4, 3) := by decide +kernel
theorem dX9_isPagedIn_28 : decode cX9_isPagedIn 28 = .ok (.iconst 0, 1) := by decide +kernel
theorem dX9_isPagedIn_29 : decode cX9_isPagedIn 29 = .ok (.ireturn, 1) := by decide +kernel
def fX9_isPagedIn (h : AH) (a0 : Nat) (a1 : Int32) (a2 : Int32) : Option (Bool) :=
  if hasC h 9 a0 = true then (
    (fX9_firstHolder h a0 a1 a2).bind fun q1 =>
    if q1 = 24 then (
      (fX9_lastOf h a0 a1).bind fun q2 =>
      (fX9_pagerOf h a0 q2).bind fun q3 =>
      if q3 = 1 then (
        some true
      ) else (
        some false
      )
    ) else (
      some false
    )
  ) else none
set_option maxHeartbeats 4000000 in
theorem mX9_isPagedIn {h : AH} {a0 : Nat} {a1 : Int32} {a2 : Int32} {r : Bool} (hr : fX9_isPagedIn h a0 a1 a2 = some r) : hasC h 9 a0 = true ∧ MC yX9_isPagedIn cX9_isPagedIn 3 (some .boolean) 4 0 0 [.ref a0, .int a1, .int a2] h (some (.int (b2i r))) h := by
  unfold fX9_isPagedIn at hr
  obtain ⟨hc, hr⟩ := if_some hr
  refine ⟨hc, mc_of (l0 := [(0, .ref a0), (1, .int a1), (2, .int a2)]) rfl pn_X9 (Nat.le_of_ble_eq_true rfl) (fun Y X C E O hnm => go_run hr ?_)⟩
  have C : CT Y X RX9 cX9_isPagedIn 3 := C
  refine go_aload_n (pc := 0) C 0 dX9_isPagedIn_0 rfl ?_
  refine go_iload_n (pc := 1) C 1 dX9_isPagedIn_1 rfl ?_
  refine go_iload_n (pc := 2) C 2 dX9_isPagedIn_2 rfl ?_
  refine go_bind (fun q1 hq1 => ?_)
  refine go_callV (rest := []) (st' := [.int q1]) (c' := 0) (s' := 0) (pc := 3) C O miX9_97 mvX9_firstHolder [.int a1, .int a2] rfl (mX9_firstHolder hq1).1 (mX9_firstHolder hq1).2 dX9_isPagedIn_3 ⟨by decide, by decide, by decide, by decide⟩ rfl (Nat.le_of_ble_eq_true rfl) rfl ⟨rfl, rfl⟩ ?_
  refine go_bipush (pc := 6) C dX9_isPagedIn_6 kb_24 ?_
  refine go_icmp_ne (pc := 8) C 28 dX9_isPagedIn_8 (by decide) (fun _ => ?_) (fun _ => ?_)
  · refine go_aload_n (pc := 11) C 0 dX9_isPagedIn_11 rfl ?_
    refine go_aload_n (pc := 12) C 0 dX9_isPagedIn_12 rfl ?_
    refine go_iload_n (pc := 13) C 1 dX9_isPagedIn_13 rfl ?_
    refine go_bind (fun q2 hq2 => ?_)
    refine go_callV (rest := [.ref a0]) (st' := [.int q2, .ref a0]) (c' := 0) (s' := 0) (pc := 14) C O miX9_120 mvX9_lastOf [.int a1] rfl (mX9_lastOf hq2).1 (mX9_lastOf hq2).2 dX9_isPagedIn_14 ⟨by decide, by decide, by decide, by decide⟩ rfl (Nat.le_of_ble_eq_true rfl) rfl ⟨rfl, rfl⟩ ?_
    refine go_bind (fun q3 hq3 => ?_)
    refine go_callV (rest := []) (st' := [.int q3]) (c' := 0) (s' := 0) (pc := 17) C O miX9_123 mvX9_pagerOf [.int q2] rfl (mX9_pagerOf hq3).1 (mX9_pagerOf hq3).2 dX9_isPagedIn_17 ⟨by decide, by decide, by decide, by decide⟩ rfl (Nat.le_of_ble_eq_true rfl) rfl ⟨rfl, rfl⟩ ?_
    refine go_iconst (pc := 20) C dX9_isPagedIn_20 ki_1 ?_
    refine go_icmp_ne (pc := 21) C 28 dX9_isPagedIn_21 (by decide) (fun _ => ?_) (fun _ => ?_)
    · refine go_iconst (pc := 24) C dX9_isPagedIn_24 ki_1 ?_
      refine go_goto (pc := 25) C 29 dX9_isPagedIn_25 (by decide) ?_
      exact go_bret (w := (wZ h)) (pc := 29) C E true 1 true rfl dX9_isPagedIn_29 rfl
    · refine go_iconst (pc := 28) C dX9_isPagedIn_28 ki_0 ?_
      exact go_bret (w := (wZ h)) (pc := 29) C E false 0 false rfl dX9_isPagedIn_29 rfl
  · refine go_iconst (pc := 28) C dX9_isPagedIn_28 ki_0 ?_
    exact go_bret (w := (wZ h)) (pc := 29) C E false 0 false rfl dX9_isPagedIn_29 rfl
theorem dX9_readPage_0 : decode cX9_readPage 0 = .ok (.aload_n 0, 1) := by decide +kernel
theorem dX9_readPage_1 : decode cX9_readPage 1 = .ok (.iload_n 1, 1) := by decide +kernel
theorem dX9_readPage_2 : decode cX9_readPage 2 = .ok (.iload_n 2, 1) := by decide +kernel
theorem dX9_readPage_3 : decode cX9_readPage 3 = .ok (.invokevirtual 129, 3) := by decide +kernel
theorem dX9_readPage_6 : decode cX9_readPage 6 = .ok (.istore_n 3, 1) := by decide +kernel
theorem dX9_readPage_7 : decode cX9_readPage 7 = .ok (.iload_n 3, 1) := by decide +kernel
theorem dX9_readPage_8 : decode cX9_readPage 8 = .ok (.ifCond .ge 12, 3) := by decide +kernel
theorem dX9_readPage_11 : decode cX9_readPage 11 = .ok (.aload_n 0, 1) := by decide +kernel
theorem dX9_readPage_12 : decode cX9_readPage 12 = .ok (.iload_n 3, 1) := by decide +kernel
theorem dX9_readPage_13 : decode cX9_readPage 13 = .ok (.iload_n 1, 1) := by decide +kernel
theorem dX9_readPage_14 : decode cX9_readPage 14 = .ok (.iload_n 2, 1) := by decide +kernel
theorem dX9_readPage_15 : decode cX9_readPage 15 = .ok (.invokevirtual 132, 3) := by decide +kernel
theorem dX9_readPage_18 : decode cX9_readPage 18 = .ok (.iload_n 3, 1) := by decide +kernel
theorem dX9_readPage_19 : decode cX9_readPage 19 = .ok (.ireturn, 1) := by decide +kernel
theorem dX9_readPage_20 : decode cX9_readPage 20 = .ok (.aload_n 0, 1) := by decide +kernel
theorem dX9_readPage_21 : decode cX9_readPage 21 = .ok (.iload_n 1, 1) := by decide +kernel
theorem dX9_readPage_22 : decode cX9_readPage 22 = .ok (.iload_n 2, 1) := by decide +kernel
theorem dX9_readPage_23 : decode cX9_readPage 23 = .ok (.invokevirtual 136, 3) := by decide +kernel
theorem dX9_readPage_26 : decode cX9_readPage 26 = .ok (.ifCond .eq 26, 3) := by decide +kernel
theorem dX9_readPage_29 : decode cX9_readPage 29 = .ok (.aload_n 0, 1) := by decide +kernel
theorem dX9_readPage_30 : decode cX9_readPage 30 = .ok (.invokevirtual 139, 3) := by decide +kernel
theorem dX9_readPage_33 : decode cX9_readPage 33 = .ok (.bipush 64, 2) := by decide +kernel
theorem dX9_readPage_35 : decode cX9_readPage 35 = .ok (.if_icmp .lt 6, 3) := by decide +kernel
theorem dX9_readPage_38 : decode cX9_readPage 38 = .ok (.bipush (-5), 2) := by decide +kernel
theorem dX9_readPage_40 : decode cX9_readPage 40 = .ok (.ireturn, 1) := by decide +kernel
theorem dX9_readPage_41 : decode cX9_readPage 41 = .ok (.aload_n 0, 1) := by decide +kernel
theorem dX9_readPage_42 : decode cX9_readPage 42 = .ok (.aload_n 0, 1) := by decide +kernel
theorem dX9_readPage_43 : decode cX9_readPage 43 = .ok (.iload_n 1, 1) := by decide +kernel
theorem dX9_readPage_44 : decode cX9_readPage 44 = .ok (.invokevirtual 120, 3) := by decide +kernel
theorem dX9_readPage_47 : decode cX9_readPage 47 = .ok (.iload_n 2, 1) := by decide +kernel
theorem dX9_readPage_48 : decode cX9_readPage 48 = .ok (.iload_n 3, 1) := by decide +kernel
theorem dX9_readPage_49 : decode cX9_readPage 49 = .ok (.invokevirtual 143, 3) := by decide +kernel
theorem dX9_readPage_52 : decode cX9_readPage 52 = .ok (.iload_n 3, 1) := by decide +kernel
theorem dX9_readPage_53 : decode cX9_readPage 53 = .ok (.ireturn, 1) := by decide +kernel
def fX9_readPage (h : AH) (a0 : Nat) (a1 : Int32) (a2 : Int32) : Option (Int32 × AH) :=
  if hasC h 9 a0 = true then (
    (fX9_peekPage h a0 a1 a2).bind fun q1 =>
    if 0 ≤ q1 then (
      (fX9_isPagedIn h a0 a1 a2).bind fun q2 =>
      if q2 = true then (
        (fX9_frameTotal h a0).bind fun q3 =>
        if q3 < 64 then (
          (fX9_lastOf h a0 a1).bind fun q4 =>
          (fX9_hold h a0 q4 a2 q1).bind fun q5 =>
          some ((q1, q5))
        ) else (
          some (((-5), h))
        )
      ) else (
        some ((q1, h))
      )
    ) else (
      (fX9_awaitIfLate h a0 q1 a1 a2).bind fun q6 =>
      some ((q1, q6))
    )
  ) else none
set_option maxHeartbeats 4000000 in
theorem mX9_readPage {h : AH} {a0 : Nat} {a1 : Int32} {a2 : Int32} {r : Int32 × AH} (hr : fX9_readPage h a0 a1 a2 = some r) : hasC h 9 a0 = true ∧ MC yX9_readPage cX9_readPage 4 (some .int) 5 0 0 [.ref a0, .int a1, .int a2] h (some (.int r.1)) r.2 := by
  unfold fX9_readPage at hr
  obtain ⟨hc, hr⟩ := if_some hr
  refine ⟨hc, mc_of (l0 := [(0, .ref a0), (1, .int a1), (2, .int a2)]) rfl pn_X9 (Nat.le_of_ble_eq_true rfl) (fun Y X C E O hnm => go_run hr ?_)⟩
  have C : CT Y X RX9 cX9_readPage 4 := C
  refine go_aload_n (pc := 0) C 0 dX9_readPage_0 rfl ?_
  refine go_iload_n (pc := 1) C 1 dX9_readPage_1 rfl ?_
  refine go_iload_n (pc := 2) C 2 dX9_readPage_2 rfl ?_
  refine go_bind (fun q1 hq1 => ?_)
  refine go_callV (rest := []) (st' := [.int q1]) (c' := 0) (s' := 0) (pc := 3) C O miX9_129 mvX9_peekPage [.int a1, .int a2] rfl (mX9_peekPage hq1).1 (mX9_peekPage hq1).2 dX9_readPage_3 ⟨by decide, by decide, by decide, by decide⟩ rfl (Nat.le_of_ble_eq_true rfl) rfl ⟨rfl, rfl⟩ ?_
  refine go_istore_n (ls' := [(3, .int q1), (0, .ref a0), (1, .int a1), (2, .int a2)]) (pc := 6) C dX9_readPage_6 (by decide) rfl ?_
  refine go_iload_n (pc := 7) C 0 dX9_readPage_7 rfl ?_
  refine go_if_ge (pc := 8) C 20 dX9_readPage_8 (by decide) (fun _ => ?_) (fun _ => ?_)
  · refine go_aload_n (pc := 20) C 1 dX9_readPage_20 rfl ?_
    refine go_iload_n (pc := 21) C 2 dX9_readPage_21 rfl ?_
    refine go_iload_n (pc := 22) C 3 dX9_readPage_22 rfl ?_
    refine go_bind (fun q2 hq2 => ?_)
    refine go_callV (rest := []) (st' := [.int (b2i q2)]) (c' := 0) (s' := 0) (pc := 23) C O miX9_136 mvX9_isPagedIn [.int a1, .int a2] rfl (mX9_isPagedIn hq2).1 (mX9_isPagedIn hq2).2 dX9_readPage_23 ⟨by decide, by decide, by decide, by decide⟩ rfl (Nat.le_of_ble_eq_true rfl) rfl ⟨rfl, rfl⟩ ?_
    refine go_ifZ_eq (pc := 26) C 52 dX9_readPage_26 (by decide) (fun _ => ?_) (fun _ => ?_)
    · refine go_aload_n (pc := 29) C 1 dX9_readPage_29 rfl ?_
      refine go_bind (fun q3 hq3 => ?_)
      refine go_callV (rest := []) (st' := [.int q3]) (c' := 0) (s' := 0) (pc := 30) C O miX9_139 mvX9_frameTotal [] rfl (mX9_frameTotal hq3).1 (mX9_frameTotal hq3).2 dX9_readPage_30 ⟨by decide, by decide, by decide, by decide⟩ rfl (Nat.le_of_ble_eq_true rfl) rfl ⟨rfl, rfl⟩ ?_
      refine go_bipush (pc := 33) C dX9_readPage_33 kb_64 ?_
      refine go_icmp_lt (pc := 35) C 41 dX9_readPage_35 (by decide) (fun _ => ?_) (fun _ => ?_)
      · refine go_aload_n (pc := 41) C 1 dX9_readPage_41 rfl ?_
        refine go_aload_n (pc := 42) C 1 dX9_readPage_42 rfl ?_
        refine go_iload_n (pc := 43) C 2 dX9_readPage_43 rfl ?_
        refine go_bind (fun q4 hq4 => ?_)
        refine go_callV (rest := [.ref a0]) (st' := [.int q4, .ref a0]) (c' := 0) (s' := 0) (pc := 44) C O miX9_120 mvX9_lastOf [.int a1] rfl (mX9_lastOf hq4).1 (mX9_lastOf hq4).2 dX9_readPage_44 ⟨by decide, by decide, by decide, by decide⟩ rfl (Nat.le_of_ble_eq_true rfl) rfl ⟨rfl, rfl⟩ ?_
        refine go_iload_n (pc := 47) C 3 dX9_readPage_47 rfl ?_
        refine go_iload_n (pc := 48) C 0 dX9_readPage_48 rfl ?_
        refine go_bind (fun q5 hq5 => ?_)
        refine go_callV (rest := []) (st' := []) (c' := 0) (s' := 0) (pc := 49) C O miX9_143 mvX9_hold [.int q4, .int a2, .int q1] rfl (mX9_hold hq5).1 (mX9_hold hq5).2 dX9_readPage_49 ⟨by decide, by decide, by decide, by decide⟩ rfl (Nat.le_of_ble_eq_true rfl) rfl ⟨rfl, rfl⟩ ?_
        refine go_iload_n (pc := 52) C 0 dX9_readPage_52 rfl ?_
        exact go_iret (w := wIh) (pc := 53) C E ((q1, q5)) q1 dX9_readPage_53 rfl
      · refine go_bipush (pc := 38) C dX9_readPage_38 kb_m5 ?_
        exact go_iret (w := wIh) (pc := 40) C E (((-5), h)) ((-5)) dX9_readPage_40 rfl
    · refine go_iload_n (pc := 52) C 0 dX9_readPage_52 rfl ?_
      exact go_iret (w := wIh) (pc := 53) C E ((q1, h)) q1 dX9_readPage_53 rfl
  · refine go_aload_n (pc := 11) C 1 dX9_readPage_11 rfl ?_
    refine go_iload_n (pc := 12) C 0 dX9_readPage_12 rfl ?_
    refine go_iload_n (pc := 13) C 2 dX9_readPage_13 rfl ?_
    refine go_iload_n (pc := 14) C 3 dX9_readPage_14 rfl ?_
    refine go_bind (fun q6 hq6 => ?_)
    refine go_callV (rest := []) (st' := []) (c' := 0) (s' := 0) (pc := 15) C O miX9_132 mvX9_awaitIfLate [.int q1, .int a1, .int a2] rfl (mX9_awaitIfLate hq6).1 (mX9_awaitIfLate hq6).2 dX9_readPage_15 ⟨by decide, by decide, by decide, by decide⟩ rfl (Nat.le_of_ble_eq_true rfl) rfl ⟨rfl, rfl⟩ ?_
    refine go_iload_n (pc := 18) C 0 dX9_readPage_18 rfl ?_
    exact go_iret (w := wIh) (pc := 19) C E ((q1, q6)) q1 dX9_readPage_19 rfl
theorem dX10_isValue_0 : decode cX10_isValue 0 = .ok (.iload_n 0, 1) := by decide +kernel
theorem dX10_isValue_1 : decode cX10_isValue 1 = .ok (.ifCond .lt 13, 3) := by decide +kernel
theorem dX10_isValue_4 : decode cX10_isValue 4 = .ok (.iload_n 0, 1) := by decide +kernel
theorem dX10_isValue_5 : decode cX10_isValue 5 = .ok (.bipush 100, 2) := by decide +kernel
theorem dX10_isValue_7 : decode cX10_isValue 7 = .ok (.if_icmp .ge 7, 3) := by decide +kernel
theorem dX10_isValue_10 : decode cX10_isValue 10 = .ok (.iconst 1, 1) := by decide +kernel
theorem dX10_isValue_11 : decode cX10_isValue 11 = .ok (.goto 4, 3) := by decide +kernel
theorem dX10_isValue_14 : decode cX10_isValue 14 = .ok (.iconst 0, 1) := by decide +kernel
theorem dX10_isValue_15 : decode cX10_isValue 15 = .ok (.ireturn, 1) := by decide +kernel
def fX10_isValue (h : AH) (a0 : Int32) : Option (Bool) :=
  if a0 < 0 then (
    some false
  ) else (
    if 100 ≤ a0 then (
      some false
    ) else (
      some true
    )
  )
set_option maxHeartbeats 4000000 in
theorem mX10_isValue {h : AH} {a0 : Int32} {r : Bool} (hr : fX10_isValue h a0 = some r) : MC yX10_isValue cX10_isValue 1 (some .boolean) 1 0 0 [.int a0] h (some (.int (b2i r))) h := by
  unfold fX10_isValue at hr
  refine mc_of (l0 := [(0, .int a0)]) rfl pn_X10 (Nat.le_of_ble_eq_true rfl) (fun Y X C E O hnm => go_run hr ?_)
  have C : CT Y X RX10 cX10_isValue 1 := C
  refine go_iload_n (pc := 0) C 0 dX10_isValue_0 rfl ?_
  refine go_if_lt (pc := 1) C 14 dX10_isValue_1 (by decide) (fun _ => ?_) (fun _ => ?_)
  · refine go_iconst (pc := 14) C dX10_isValue_14 ki_0 ?_
    exact go_bret (w := (wZ h)) (pc := 15) C E false 0 false rfl dX10_isValue_15 rfl
  · refine go_iload_n (pc := 4) C 0 dX10_isValue_4 rfl ?_
    refine go_bipush (pc := 5) C dX10_isValue_5 kb_100 ?_
    refine go_icmp_ge (pc := 7) C 14 dX10_isValue_7 (by decide) (fun _ => ?_) (fun _ => ?_)
    · refine go_iconst (pc := 14) C dX10_isValue_14 ki_0 ?_
      exact go_bret (w := (wZ h)) (pc := 15) C E false 0 false rfl dX10_isValue_15 rfl
    · refine go_iconst (pc := 10) C dX10_isValue_10 ki_1 ?_
      refine go_goto (pc := 11) C 15 dX10_isValue_11 (by decide) ?_
      exact go_bret (w := (wZ h)) (pc := 15) C E true 1 true rfl dX10_isValue_15 rfl
theorem dX9_pushesToCopy_0 : decode cX9_pushesToCopy 0 = .ok (.aload_n 0, 1) := by decide +kernel
theorem dX9_pushesToCopy_1 : decode cX9_pushesToCopy 1 = .ok (.iload_n 1, 1) := by decide +kernel
theorem dX9_pushesToCopy_2 : decode cX9_pushesToCopy 2 = .ok (.invokevirtual 163, 3) := by decide +kernel
theorem dX9_pushesToCopy_5 : decode cX9_pushesToCopy 5 = .ok (.istore_n 3, 1) := by decide +kernel
theorem dX9_pushesToCopy_6 : decode cX9_pushesToCopy 6 = .ok (.aload_n 0, 1) := by decide +kernel
theorem dX9_pushesToCopy_7 : decode cX9_pushesToCopy 7 = .ok (.iload_n 3, 1) := by decide +kernel
theorem dX9_pushesToCopy_8 : decode cX9_pushesToCopy 8 = .ok (.invokevirtual 55, 3) := by decide +kernel
theorem dX9_pushesToCopy_11 : decode cX9_pushesToCopy 11 = .ok (.ifCond .eq 16, 3) := by decide +kernel
theorem dX9_pushesToCopy_14 : decode cX9_pushesToCopy 14 = .ok (.aload_n 0, 1) := by decide +kernel
theorem dX9_pushesToCopy_15 : decode cX9_pushesToCopy 15 = .ok (.iload_n 3, 1) := by decide +kernel
theorem dX9_pushesToCopy_16 : decode cX9_pushesToCopy 16 = .ok (.iload_n 2, 1) := by decide +kernel
theorem dX9_pushesToCopy_17 : decode cX9_pushesToCopy 17 = .ok (.invokevirtual 81, 3) := by decide +kernel
theorem dX9_pushesToCopy_20 : decode cX9_pushesToCopy 20 = .ok (.ifCond .ne 7, 3) := by decide +kernel
theorem dX9_pushesToCopy_23 : decode cX9_pushesToCopy 23 = .ok (.iconst 1, 1) := by decide +kernel
theorem dX9_pushesToCopy_24 : decode cX9_pushesToCopy 24 = .ok (.goto 4, 3) := by decide +kernel
theorem dX9_pushesToCopy_27 : decode cX9_pushesToCopy 27 = .ok (.iconst 0, 1) := by decide +kernel
theorem dX9_pushesToCopy_28 : decode cX9_pushesToCopy 28 = .ok (.ireturn, 1) := by decide +kernel
def fX9_pushesToCopy (h : AH) (a0 : Nat) (a1 : Int32) (a2 : Int32) : Option (Bool) :=
  if hasC h 9 a0 = true then (
    (fX9_copyOf h a0 a1).bind fun q1 =>
    (fX9_hasObject h a0 q1).bind fun q2 =>
    if q2 = true then (
      (fX9_holds h a0 q1 a2).bind fun q3 =>
      if q3 = true then (
        some false
      ) else (
        some true
      )
    ) else (
      some false
    )
  ) else none
set_option maxHeartbeats 4000000 in
theorem mX9_pushesToCopy {h : AH} {a0 : Nat} {a1 : Int32} {a2 : Int32} {r : Bool} (hr : fX9_pushesToCopy h a0 a1 a2 = some r) : hasC h 9 a0 = true ∧ MC yX9_pushesToCopy cX9_pushesToCopy 4 (some .boolean) 3 0 0 [.ref a0, .int a1, .int a2] h (some (.int (b2i r))) h := by
  unfold fX9_pushesToCopy at hr
  obtain ⟨hc, hr⟩ := if_some hr
  refine ⟨hc, mc_of (l0 := [(0, .ref a0), (1, .int a1), (2, .int a2)]) rfl pn_X9 (Nat.le_of_ble_eq_true rfl) (fun Y X C E O hnm => go_run hr ?_)⟩
  have C : CT Y X RX9 cX9_pushesToCopy 4 := C
  refine go_aload_n (pc := 0) C 0 dX9_pushesToCopy_0 rfl ?_
  refine go_iload_n (pc := 1) C 1 dX9_pushesToCopy_1 rfl ?_
  refine go_bind (fun q1 hq1 => ?_)
  refine go_callV (rest := []) (st' := [.int q1]) (c' := 0) (s' := 0) (pc := 2) C O miX9_163 mvX9_copyOf [.int a1] rfl (mX9_copyOf hq1).1 (mX9_copyOf hq1).2 dX9_pushesToCopy_2 ⟨by decide, by decide, by decide, by decide⟩ rfl (Nat.le_of_ble_eq_true rfl) rfl ⟨rfl, rfl⟩ ?_
  refine go_istore_n (ls' := [(3, .int q1), (0, .ref a0), (1, .int a1), (2, .int a2)]) (pc := 5) C dX9_pushesToCopy_5 (by decide) rfl ?_
  refine go_aload_n (pc := 6) C 1 dX9_pushesToCopy_6 rfl ?_
  refine go_iload_n (pc := 7) C 0 dX9_pushesToCopy_7 rfl ?_
  refine go_bind (fun q2 hq2 => ?_)
  refine go_callV (rest := []) (st' := [.int (b2i q2)]) (c' := 0) (s' := 0) (pc := 8) C O miX9_55 mvX9_hasObject [.int q1] rfl (mX9_hasObject hq2).1 (mX9_hasObject hq2).2 dX9_pushesToCopy_8 ⟨by decide, by decide, by decide, by decide⟩ rfl (Nat.le_of_ble_eq_true rfl) rfl ⟨rfl, rfl⟩ ?_
  refine go_ifZ_eq (pc := 11) C 27 dX9_pushesToCopy_11 (by decide) (fun _ => ?_) (fun _ => ?_)
  · refine go_aload_n (pc := 14) C 1 dX9_pushesToCopy_14 rfl ?_
    refine go_iload_n (pc := 15) C 0 dX9_pushesToCopy_15 rfl ?_
    refine go_iload_n (pc := 16) C 3 dX9_pushesToCopy_16 rfl ?_
    refine go_bind (fun q3 hq3 => ?_)
    refine go_callV (rest := []) (st' := [.int (b2i q3)]) (c' := 0) (s' := 0) (pc := 17) C O miX9_81 mvX9_holds [.int q1, .int a2] rfl (mX9_holds hq3).1 (mX9_holds hq3).2 dX9_pushesToCopy_17 ⟨by decide, by decide, by decide, by decide⟩ rfl (Nat.le_of_ble_eq_true rfl) rfl ⟨rfl, rfl⟩ ?_
    refine go_ifZ_ne (pc := 20) C 27 dX9_pushesToCopy_20 (by decide) (fun _ => ?_) (fun _ => ?_)
    · refine go_iconst (pc := 27) C dX9_pushesToCopy_27 ki_0 ?_
      exact go_bret (w := (wZ h)) (pc := 28) C E false 0 false rfl dX9_pushesToCopy_28 rfl
    · refine go_iconst (pc := 23) C dX9_pushesToCopy_23 ki_1 ?_
      refine go_goto (pc := 24) C 28 dX9_pushesToCopy_24 (by decide) ?_
      exact go_bret (w := (wZ h)) (pc := 28) C E true 1 true rfl dX9_pushesToCopy_28 rfl
  · refine go_iconst (pc := 27) C dX9_pushesToCopy_27 ki_0 ?_
    exact go_bret (w := (wZ h)) (pc := 28) C E false 0 false rfl dX9_pushesToCopy_28 rfl
theorem dX9_framesToWrite_0 : decode cX9_framesToWrite 0 = .ok (.aload_n 0, 1) := by decide +kernel
theorem dX9_framesToWrite_1 : decode cX9_framesToWrite 1 = .ok (.iload_n 1, 1) := by decide +kernel
theorem dX9_framesToWrite_2 : decode cX9_framesToWrite 2 = .ok (.invokevirtual 84, 3) := by decide +kernel
theorem dX9_framesToWrite_5 : decode cX9_framesToWrite 5 = .ok (.istore 4, 2) := by decide +kernel
theorem dX9_framesToWrite_7 : decode cX9_framesToWrite 7 = .ok (.aload_n 0, 1) := by decide +kernel
theorem dX9_framesToWrite_8 : decode cX9_framesToWrite 8 = .ok (.iload_n 1, 1) := by decide +kernel
theorem dX9_framesToWrite_9 : decode cX9_framesToWrite 9 = .ok (.iload_n 2, 1) := by decide +kernel
theorem dX9_framesToWrite_10 : decode cX9_framesToWrite 10 = .ok (.invokevirtual 136, 3) := by decide +kernel
theorem dX9_framesToWrite_13 : decode cX9_framesToWrite 13 = .ok (.istore 5, 2) := by decide +kernel
theorem dX9_framesToWrite_15 : decode cX9_framesToWrite 15 = .ok (.iload_n 3, 1) := by decide +kernel
theorem dX9_framesToWrite_16 : decode cX9_framesToWrite 16 = .ok (.ifCond .ne 28, 3) := by decide +kernel
theorem dX9_framesToWrite_19 : decode cX9_framesToWrite 19 = .ok (.aload_n 0, 1) := by decide +kernel
theorem dX9_framesToWrite_20 : decode cX9_framesToWrite 20 = .ok (.iload 4, 2) := by decide +kernel
theorem dX9_framesToWrite_22 : decode cX9_framesToWrite 22 = .ok (.iload_n 2, 1) := by decide +kernel
theorem dX9_framesToWrite_23 : decode cX9_framesToWrite 23 = .ok (.invokevirtual 81, 3) := by decide +kernel
theorem dX9_framesToWrite_26 : decode cX9_framesToWrite 26 = .ok (.ifCond .ne 22, 3) := by decide +kernel
theorem dX9_framesToWrite_29 : decode cX9_framesToWrite 29 = .ok (.iload 5, 2) := by decide +kernel
theorem dX9_framesToWrite_31 : decode cX9_framesToWrite 31 = .ok (.ifCond .eq 13, 3) := by decide +kernel
theorem dX9_framesToWrite_34 : decode cX9_framesToWrite 34 = .ok (.aload_n 0, 1) := by decide +kernel
theorem dX9_framesToWrite_35 : decode cX9_framesToWrite 35 = .ok (.iload_n 1, 1) := by decide +kernel
theorem dX9_framesToWrite_36 : decode cX9_framesToWrite 36 = .ok (.invokevirtual 120, 3) := by decide +kernel
theorem dX9_framesToWrite_39 : decode cX9_framesToWrite 39 = .ok (.iload 4, 2) := by decide +kernel
theorem dX9_framesToWrite_41 : decode cX9_framesToWrite 41 = .ok (.if_icmp .eq 7, 3) := by decide +kernel
theorem dX9_framesToWrite_44 : decode cX9_framesToWrite 44 = .ok (.iconst 1, 1) := by decide +kernel
theorem dX9_framesToWrite_45 : decode cX9_framesToWrite 45 = .ok (.goto 4, 3) := by decide +kernel
theorem dX9_framesToWrite_48 : decode cX9_framesToWrite 48 = .ok (.iconst 0, 1) := by decide +kernel
theorem dX9_framesToWrite_49 : decode cX9_framesToWrite 49 = .ok (.istore 6, 2) := by decide +kernel
theorem dX9_framesToWrite_51 : decode cX9_framesToWrite 51 = .ok (.iload_n 3, 1) := by decide +kernel
theorem dX9_framesToWrite_52 : decode cX9_framesToWrite 52 = .ok (.ifCond .ne 17, 3) := by decide +kernel
theorem dX9_framesToWrite_55 : decode cX9_framesToWrite 55 = .ok (.aload_n 0, 1) := by decide +kernel
theorem dX9_framesToWrite_56 : decode cX9_framesToWrite 56 = .ok (.iload 4, 2) := by decide +kernel
theorem dX9_framesToWrite_58 : decode cX9_framesToWrite 58 = .ok (.iload_n 2, 1) := by decide +kernel
theorem dX9_framesToWrite_59 : decode cX9_framesToWrite 59 = .ok (.invokevirtual 160, 3) := by decide +kernel
theorem dX9_framesToWrite_62 : decode cX9_framesToWrite 62 = .ok (.ifCond .eq 7, 3) := by decide +kernel
theorem dX9_framesToWrite_65 : decode cX9_framesToWrite 65 = .ok (.iconst 1, 1) := by decide +kernel
theorem dX9_framesToWrite_66 : decode cX9_framesToWrite 66 = .ok (.goto 4, 3) := by decide +kernel
theorem dX9_framesToWrite_69 : decode cX9_framesToWrite 69 = .ok (.iconst 0, 1) := by decide +kernel
theorem dX9_framesToWrite_70 : decode cX9_framesToWrite 70 = .ok (.istore 7, 2) := by decide +kernel
theorem dX9_framesToWrite_72 : decode cX9_framesToWrite 72 = .ok (.iload 5, 2) := by decide +kernel
theorem dX9_framesToWrite_74 : decode cX9_framesToWrite 74 = .ok (.ifCond .eq 7, 3) := by decide +kernel
theorem dX9_framesToWrite_77 : decode cX9_framesToWrite 77 = .ok (.iconst 1, 1) := by decide +kernel
theorem dX9_framesToWrite_78 : decode cX9_framesToWrite 78 = .ok (.goto 4, 3) := by decide +kernel
theorem dX9_framesToWrite_81 : decode cX9_framesToWrite 81 = .ok (.iconst 0, 1) := by decide +kernel
theorem dX9_framesToWrite_82 : decode cX9_framesToWrite 82 = .ok (.iload 6, 2) := by decide +kernel
theorem dX9_framesToWrite_84 : decode cX9_framesToWrite 84 = .ok (.ifCond .eq 7, 3) := by decide +kernel
theorem dX9_framesToWrite_87 : decode cX9_framesToWrite 87 = .ok (.iconst 1, 1) := by decide +kernel
theorem dX9_framesToWrite_88 : decode cX9_framesToWrite 88 = .ok (.goto 4, 3) := by decide +kernel
theorem dX9_framesToWrite_91 : decode cX9_framesToWrite 91 = .ok (.iconst 0, 1) := by decide +kernel
theorem dX9_framesToWrite_92 : decode cX9_framesToWrite 92 = .ok (.iadd, 1) := by decide +kernel
theorem dX9_framesToWrite_93 : decode cX9_framesToWrite 93 = .ok (.iload 7, 2) := by decide +kernel
theorem dX9_framesToWrite_95 : decode cX9_framesToWrite 95 = .ok (.ifCond .eq 7, 3) := by decide +kernel
theorem dX9_framesToWrite_98 : decode cX9_framesToWrite 98 = .ok (.iconst 1, 1) := by decide +kernel
theorem dX9_framesToWrite_99 : decode cX9_framesToWrite 99 = .ok (.goto 4, 3) := by decide +kernel
theorem dX9_framesToWrite_102 : decode cX9_framesToWrite 102 = .ok (.iconst 0, 1) := by decide +kernel
theorem dX9_framesToWrite_103 : decode cX9_framesToWrite 103 = .ok (.iadd, 1) := by decide +kernel
theorem dX9_framesToWrite_104 : decode cX9_framesToWrite 104 = .ok (.ireturn, 1) := by decide +kernel
def fX9_framesToWrite_J92 (h : AH) (v7 : Int32) (s0 : Int32) (s1 : Int32) : Option (Int32) :=
    if v7 = 0 then (
      some ((s1 + s0) + 0)
    ) else (
      some ((s1 + s0) + 1)
    )
def fX9_framesToWrite_J82 (h : AH) (v6 : Int32) (v7 : Int32) (s0 : Int32) : Option (Int32) :=
    if v6 = 0 then (
      fX9_framesToWrite_J92 h v7 0 s0
    ) else (
      fX9_framesToWrite_J92 h v7 1 s0
    )
def fX9_framesToWrite_J70 (h : AH) (v5 : Bool) (v6 : Int32) (s0 : Int32) : Option (Int32) :=
    if v5 = true then (
      fX9_framesToWrite_J82 h v6 s0 1
    ) else (
      fX9_framesToWrite_J82 h v6 s0 0
    )
def fX9_framesToWrite_J49 (h : AH) (v0 : Nat) (v2 : Int32) (v3 : Bool) (v4 : Int32) (v5 : Bool) (s0 : Int32) : Option (Int32) :=
    if v3 = true then (
      fX9_framesToWrite_J70 h v5 s0 0
    ) else (
      (fX9_pushesToCopy h v0 v4 v2).bind fun q1 =>
      if q1 = true then (
        fX9_framesToWrite_J70 h v5 s0 1
      ) else (
        fX9_framesToWrite_J70 h v5 s0 0
      )
    )
def fX9_framesToWrite (h : AH) (a0 : Nat) (a1 : Int32) (a2 : Int32) (a3 : Bool) : Option (Int32) :=
  if hasC h 9 a0 = true then (
    (fX9_topOf h a0 a1).bind fun q2 =>
    (fX9_isPagedIn h a0 a1 a2).bind fun q3 =>
    if a3 = true then (
      fX9_framesToWrite_J49 h a0 a2 a3 q2 q3 1
    ) else (
      (fX9_holds h a0 q2 a2).bind fun q4 =>
      if q4 = true then (
        fX9_framesToWrite_J49 h a0 a2 a3 q2 q3 0
      ) else (
        if q3 = true then (
          (fX9_lastOf h a0 a1).bind fun q5 =>
          if q5 = q2 then (
            fX9_framesToWrite_J49 h a0 a2 a3 q2 q3 0
          ) else (
            fX9_framesToWrite_J49 h a0 a2 a3 q2 q3 1
          )
        ) else (
          fX9_framesToWrite_J49 h a0 a2 a3 q2 q3 1
        )
      )
    )
  ) else none
set_option maxHeartbeats 4000000 in
theorem gX9_framesToWrite_J92 {Y : YT} {X : XT} (C : CT Y X RX9 cX9_framesToWrite 8) (O : RO X 5 0 0) {h : AH} {r : Int32} (E : RX Y X (some .int) (some (.int r)) h 0 0) : ∀ (v7 : Int32) (s0 : Int32) (s1 : Int32), GO Y X 8 r h 0 0 92 [(7, .int v7)] [.int s0, .int s1] (fX9_framesToWrite_J92 h v7 s0 s1) := by
  intro v7 s0 s1
  unfold fX9_framesToWrite_J92
  refine go_iadd (pc := 92) C dX9_framesToWrite_92 ?_
  refine go_iload (pc := 93) C 0 dX9_framesToWrite_93 rfl ?_
  refine go_if_eq (pc := 95) C 102 dX9_framesToWrite_95 (by decide) (fun _ => ?_) (fun _ => ?_)
  · refine go_iconst (pc := 102) C dX9_framesToWrite_102 ki_0 ?_
    refine go_iadd (pc := 103) C dX9_framesToWrite_103 ?_
    exact go_iret (w := (wI h)) (pc := 104) C E ((s1 + s0) + 0) ((s1 + s0) + 0) dX9_framesToWrite_104 rfl
  · refine go_iconst (pc := 98) C dX9_framesToWrite_98 ki_1 ?_
    refine go_goto (pc := 99) C 103 dX9_framesToWrite_99 (by decide) ?_
    refine go_iadd (pc := 103) C dX9_framesToWrite_103 ?_
    exact go_iret (w := (wI h)) (pc := 104) C E ((s1 + s0) + 1) ((s1 + s0) + 1) dX9_framesToWrite_104 rfl
set_option maxHeartbeats 4000000 in
theorem gX9_framesToWrite_J82 {Y : YT} {X : XT} (C : CT Y X RX9 cX9_framesToWrite 8) (O : RO X 5 0 0) {h : AH} {r : Int32} (E : RX Y X (some .int) (some (.int r)) h 0 0) : ∀ (v6 : Int32) (v7 : Int32) (s0 : Int32), GO Y X 8 r h 0 0 82 [(6, .int v6), (7, .int v7)] [.int s0] (fX9_framesToWrite_J82 h v6 v7 s0) := by
  intro v6 v7 s0
  unfold fX9_framesToWrite_J82
  refine go_iload (pc := 82) C 0 dX9_framesToWrite_82 rfl ?_
  refine go_if_eq (pc := 84) C 91 dX9_framesToWrite_84 (by decide) (fun _ => ?_) (fun _ => ?_)
  · refine go_iconst (pc := 91) C dX9_framesToWrite_91 ki_0 ?_
    refine go_sub (ls' := [(7, .int v7)]) [1] rfl ?_
    refine gX9_framesToWrite_J92 C O E v7 0 s0
  · refine go_iconst (pc := 87) C dX9_framesToWrite_87 ki_1 ?_
    refine go_goto (pc := 88) C 92 dX9_framesToWrite_88 (by decide) ?_
    refine go_sub (ls' := [(7, .int v7)]) [1] rfl ?_
    refine gX9_framesToWrite_J92 C O E v7 1 s0
set_option maxHeartbeats 4000000 in
theorem gX9_framesToWrite_J70 {Y : YT} {X : XT} (C : CT Y X RX9 cX9_framesToWrite 8) (O : RO X 5 0 0) {h : AH} {r : Int32} (E : RX Y X (some .int) (some (.int r)) h 0 0) : ∀ (v5 : Bool) (v6 : Int32) (s0 : Int32), GO Y X 8 r h 0 0 70 [(5, .int (b2i v5)), (6, .int v6)] [.int s0] (fX9_framesToWrite_J70 h v5 v6 s0) := by
  intro v5 v6 s0
  unfold fX9_framesToWrite_J70
  refine go_istore (ls' := [(7, .int s0), (5, .int (b2i v5)), (6, .int v6)]) (pc := 70) C dX9_framesToWrite_70 (by decide) rfl ?_
  refine go_iload (pc := 72) C 1 dX9_framesToWrite_72 rfl ?_
  refine go_ifZ_eq (pc := 74) C 81 dX9_framesToWrite_74 (by decide) (fun _ => ?_) (fun _ => ?_)
  · refine go_iconst (pc := 77) C dX9_framesToWrite_77 ki_1 ?_
    refine go_goto (pc := 78) C 82 dX9_framesToWrite_78 (by decide) ?_
    refine go_sub (ls' := [(6, .int v6), (7, .int s0)]) [2, 0] rfl ?_
    refine gX9_framesToWrite_J82 C O E v6 s0 1
  · refine go_iconst (pc := 81) C dX9_framesToWrite_81 ki_0 ?_
    refine go_sub (ls' := [(6, .int v6), (7, .int s0)]) [2, 0] rfl ?_
    refine gX9_framesToWrite_J82 C O E v6 s0 0
set_option maxHeartbeats 4000000 in
theorem gX9_framesToWrite_J49 {Y : YT} {X : XT} (C : CT Y X RX9 cX9_framesToWrite 8) (O : RO X 5 0 0) {h : AH} {r : Int32} (E : RX Y X (some .int) (some (.int r)) h 0 0) : ∀ (v0 : Nat) (v2 : Int32) (v3 : Bool) (v4 : Int32) (v5 : Bool) (s0 : Int32), GO Y X 8 r h 0 0 49 [(0, .ref v0), (2, .int v2), (3, .int (b2i v3)), (4, .int v4), (5, .int (b2i v5))] [.int s0] (fX9_framesToWrite_J49 h v0 v2 v3 v4 v5 s0) := by
  intro v0 v2 v3 v4 v5 s0
  unfold fX9_framesToWrite_J49
  refine go_istore (ls' := [(6, .int s0), (0, .ref v0), (2, .int v2), (3, .int (b2i v3)), (4, .int v4), (5, .int (b2i v5))]) (pc := 49) C dX9_framesToWrite_49 (by decide) rfl ?_
  refine go_iload_n (pc := 51) C 3 dX9_framesToWrite_51 rfl ?_
  refine go_ifZ_ne (pc := 52) C 69 dX9_framesToWrite_52 (by decide) (fun _ => ?_) (fun _ => ?_)
  · refine go_iconst (pc := 69) C dX9_framesToWrite_69 ki_0 ?_
    refine go_sub (ls' := [(5, .int (b2i v5)), (6, .int s0)]) [5, 0] rfl ?_
    refine gX9_framesToWrite_J70 C O E v5 s0 0
  · refine go_aload_n (pc := 55) C 1 dX9_framesToWrite_55 rfl ?_
    refine go_iload (pc := 56) C 4 dX9_framesToWrite_56 rfl ?_
    refine go_iload_n (pc := 58) C 2 dX9_framesToWrite_58 rfl ?_
    refine go_bind (fun q1 hq1 => ?_)
    refine go_callV (rest := []) (st' := [.int (b2i q1)]) (c' := 0) (s' := 0) (pc := 59) C O miX9_160 mvX9_pushesToCopy [.int v4, .int v2] rfl (mX9_pushesToCopy hq1).1 (mX9_pushesToCopy hq1).2 dX9_framesToWrite_59 ⟨by decide, by decide, by decide, by decide⟩ rfl (Nat.le_of_ble_eq_true rfl) rfl ⟨rfl, rfl⟩ ?_
    refine go_ifZ_eq (pc := 62) C 69 dX9_framesToWrite_62 (by decide) (fun _ => ?_) (fun _ => ?_)
    · refine go_iconst (pc := 65) C dX9_framesToWrite_65 ki_1 ?_
      refine go_goto (pc := 66) C 70 dX9_framesToWrite_66 (by decide) ?_
      refine go_sub (ls' := [(5, .int (b2i v5)), (6, .int s0)]) [5, 0] rfl ?_
      refine gX9_framesToWrite_J70 C O E v5 s0 1
    · refine go_iconst (pc := 69) C dX9_framesToWrite_69 ki_0 ?_
      refine go_sub (ls' := [(5, .int (b2i v5)), (6, .int s0)]) [5, 0] rfl ?_
      refine gX9_framesToWrite_J70 C O E v5 s0 0
set_option maxHeartbeats 4000000 in
theorem mX9_framesToWrite {h : AH} {a0 : Nat} {a1 : Int32} {a2 : Int32} {a3 : Bool} {r : Int32} (hr : fX9_framesToWrite h a0 a1 a2 a3 = some r) : hasC h 9 a0 = true ∧ MC yX9_framesToWrite cX9_framesToWrite 8 (some .int) 5 0 0 [.ref a0, .int a1, .int a2, .int (b2i a3)] h (some (.int r)) h := by
  unfold fX9_framesToWrite at hr
  obtain ⟨hc, hr⟩ := if_some hr
  refine ⟨hc, mc_of (l0 := [(0, .ref a0), (1, .int a1), (2, .int a2), (3, .int (b2i a3))]) rfl pn_X9 (Nat.le_of_ble_eq_true rfl) (fun Y X C E O hnm => go_run hr ?_)⟩
  have C : CT Y X RX9 cX9_framesToWrite 8 := C
  refine go_aload_n (pc := 0) C 0 dX9_framesToWrite_0 rfl ?_
  refine go_iload_n (pc := 1) C 1 dX9_framesToWrite_1 rfl ?_
  refine go_bind (fun q2 hq2 => ?_)
  refine go_callV (rest := []) (st' := [.int q2]) (c' := 0) (s' := 0) (pc := 2) C O miX9_84 mvX9_topOf [.int a1] rfl (mX9_topOf hq2).1 (mX9_topOf hq2).2 dX9_framesToWrite_2 ⟨by decide, by decide, by decide, by decide⟩ rfl (Nat.le_of_ble_eq_true rfl) rfl ⟨rfl, rfl⟩ ?_
  refine go_istore (ls' := [(4, .int q2), (0, .ref a0), (1, .int a1), (2, .int a2), (3, .int (b2i a3))]) (pc := 5) C dX9_framesToWrite_5 (by decide) rfl ?_
  refine go_aload_n (pc := 7) C 1 dX9_framesToWrite_7 rfl ?_
  refine go_iload_n (pc := 8) C 2 dX9_framesToWrite_8 rfl ?_
  refine go_iload_n (pc := 9) C 3 dX9_framesToWrite_9 rfl ?_
  refine go_bind (fun q3 hq3 => ?_)
  refine go_callV (rest := []) (st' := [.int (b2i q3)]) (c' := 0) (s' := 0) (pc := 10) C O miX9_136 mvX9_isPagedIn [.int a1, .int a2] rfl (mX9_isPagedIn hq3).1 (mX9_isPagedIn hq3).2 dX9_framesToWrite_10 ⟨by decide, by decide, by decide, by decide⟩ rfl (Nat.le_of_ble_eq_true rfl) rfl ⟨rfl, rfl⟩ ?_
  refine go_istore (ls' := [(5, .int (b2i q3)), (4, .int q2), (0, .ref a0), (1, .int a1), (2, .int a2), (3, .int (b2i a3))]) (pc := 13) C dX9_framesToWrite_13 (by decide) rfl ?_
  refine go_iload_n (pc := 15) C 5 dX9_framesToWrite_15 rfl ?_
  refine go_ifZ_ne (pc := 16) C 44 dX9_framesToWrite_16 (by decide) (fun _ => ?_) (fun _ => ?_)
  · refine go_iconst (pc := 44) C dX9_framesToWrite_44 ki_1 ?_
    refine go_goto (pc := 45) C 49 dX9_framesToWrite_45 (by decide) ?_
    refine go_sub (ls' := [(0, .ref a0), (2, .int a2), (3, .int (b2i a3)), (4, .int q2), (5, .int (b2i q3))]) [2, 4, 5, 1, 0] rfl ?_
    refine gX9_framesToWrite_J49 C O E a0 a2 a3 q2 q3 1
  · refine go_aload_n (pc := 19) C 2 dX9_framesToWrite_19 rfl ?_
    refine go_iload (pc := 20) C 1 dX9_framesToWrite_20 rfl ?_
    refine go_iload_n (pc := 22) C 4 dX9_framesToWrite_22 rfl ?_
    refine go_bind (fun q4 hq4 => ?_)
    refine go_callV (rest := []) (st' := [.int (b2i q4)]) (c' := 0) (s' := 0) (pc := 23) C O miX9_81 mvX9_holds [.int q2, .int a2] rfl (mX9_holds hq4).1 (mX9_holds hq4).2 dX9_framesToWrite_23 ⟨by decide, by decide, by decide, by decide⟩ rfl (Nat.le_of_ble_eq_true rfl) rfl ⟨rfl, rfl⟩ ?_
    refine go_ifZ_ne (pc := 26) C 48 dX9_framesToWrite_26 (by decide) (fun _ => ?_) (fun _ => ?_)
    · refine go_iconst (pc := 48) C dX9_framesToWrite_48 ki_0 ?_
      refine go_sub (ls' := [(0, .ref a0), (2, .int a2), (3, .int (b2i a3)), (4, .int q2), (5, .int (b2i q3))]) [2, 4, 5, 1, 0] rfl ?_
      refine gX9_framesToWrite_J49 C O E a0 a2 a3 q2 q3 0
    · refine go_iload (pc := 29) C 0 dX9_framesToWrite_29 rfl ?_
      refine go_ifZ_eq (pc := 31) C 44 dX9_framesToWrite_31 (by decide) (fun _ => ?_) (fun _ => ?_)
      · refine go_aload_n (pc := 34) C 2 dX9_framesToWrite_34 rfl ?_
        refine go_iload_n (pc := 35) C 3 dX9_framesToWrite_35 rfl ?_
        refine go_bind (fun q5 hq5 => ?_)
        refine go_callV (rest := []) (st' := [.int q5]) (c' := 0) (s' := 0) (pc := 36) C O miX9_120 mvX9_lastOf [.int a1] rfl (mX9_lastOf hq5).1 (mX9_lastOf hq5).2 dX9_framesToWrite_36 ⟨by decide, by decide, by decide, by decide⟩ rfl (Nat.le_of_ble_eq_true rfl) rfl ⟨rfl, rfl⟩ ?_
        refine go_iload (pc := 39) C 1 dX9_framesToWrite_39 rfl ?_
        refine go_icmp_eq (pc := 41) C 48 dX9_framesToWrite_41 (by decide) (fun _ => ?_) (fun _ => ?_)
        · refine go_iconst (pc := 48) C dX9_framesToWrite_48 ki_0 ?_
          refine go_sub (ls' := [(0, .ref a0), (2, .int a2), (3, .int (b2i a3)), (4, .int q2), (5, .int (b2i q3))]) [2, 4, 5, 1, 0] rfl ?_
          refine gX9_framesToWrite_J49 C O E a0 a2 a3 q2 q3 0
        · refine go_iconst (pc := 44) C dX9_framesToWrite_44 ki_1 ?_
          refine go_goto (pc := 45) C 49 dX9_framesToWrite_45 (by decide) ?_
          refine go_sub (ls' := [(0, .ref a0), (2, .int a2), (3, .int (b2i a3)), (4, .int q2), (5, .int (b2i q3))]) [2, 4, 5, 1, 0] rfl ?_
          refine gX9_framesToWrite_J49 C O E a0 a2 a3 q2 q3 1
      · refine go_iconst (pc := 44) C dX9_framesToWrite_44 ki_1 ?_
        refine go_goto (pc := 45) C 49 dX9_framesToWrite_45 (by decide) ?_
        refine go_sub (ls' := [(0, .ref a0), (2, .int a2), (3, .int (b2i a3)), (4, .int q2), (5, .int (b2i q3))]) [2, 4, 5, 1, 0] rfl ?_
        refine gX9_framesToWrite_J49 C O E a0 a2 a3 q2 q3 1
theorem dX9_putObjectAbove_0 : decode cX9_putObjectAbove 0 = .ok (.aload_n 0, 1) := by decide +kernel
theorem dX9_putObjectAbove_1 : decode cX9_putObjectAbove 1 = .ok (.iconst 0, 1) := by decide +kernel
theorem dX9_putObjectAbove_2 : decode cX9_putObjectAbove 2 = .ok (.iconst 0, 1) := by decide +kernel
theorem dX9_putObjectAbove_3 : decode cX9_putObjectAbove 3 = .ok (.invokevirtual 181, 3) := by decide +kernel
theorem dX9_putObjectAbove_6 : decode cX9_putObjectAbove 6 = .ok (.istore_n 2, 1) := by decide +kernel
theorem dX9_putObjectAbove_7 : decode cX9_putObjectAbove 7 = .ok (.aload_n 0, 1) := by decide +kernel
theorem dX9_putObjectAbove_8 : decode cX9_putObjectAbove 8 = .ok (.iload_n 1, 1) := by decide +kernel
theorem dX9_putObjectAbove_9 : decode cX9_putObjectAbove 9 = .ok (.invokevirtual 78, 3) := by decide +kernel
theorem dX9_putObjectAbove_12 : decode cX9_putObjectAbove 12 = .ok (.ifCond .eq 30, 3) := by decide +kernel
theorem dX9_putObjectAbove_15 : decode cX9_putObjectAbove 15 = .ok (.aload_n 0, 1) := by decide +kernel
theorem dX9_putObjectAbove_16 : decode cX9_putObjectAbove 16 = .ok (.iload_n 2, 1) := by decide +kernel
theorem dX9_putObjectAbove_17 : decode cX9_putObjectAbove 17 = .ok (.invokevirtual 55, 3) := by decide +kernel
theorem dX9_putObjectAbove_20 : decode cX9_putObjectAbove 20 = .ok (.ifCond .eq 22, 3) := by decide +kernel
theorem dX9_putObjectAbove_23 : decode cX9_putObjectAbove 23 = .ok (.aload_n 0, 1) := by decide +kernel
theorem dX9_putObjectAbove_24 : decode cX9_putObjectAbove 24 = .ok (.getfield 21, 3) := by decide +kernel
theorem dX9_putObjectAbove_27 : decode cX9_putObjectAbove 27 = .ok (.iload_n 2, 1) := by decide +kernel
theorem dX9_putObjectAbove_28 : decode cX9_putObjectAbove 28 = .ok (.aload_n 0, 1) := by decide +kernel
theorem dX9_putObjectAbove_29 : decode cX9_putObjectAbove 29 = .ok (.getfield 9, 3) := by decide +kernel
theorem dX9_putObjectAbove_32 : decode cX9_putObjectAbove 32 = .ok (.iload_n 1, 1) := by decide +kernel
theorem dX9_putObjectAbove_33 : decode cX9_putObjectAbove 33 = .ok (.iaload, 1) := by decide +kernel
theorem dX9_putObjectAbove_34 : decode cX9_putObjectAbove 34 = .ok (.iastore, 1) := by decide +kernel
theorem dX9_putObjectAbove_35 : decode cX9_putObjectAbove 35 = .ok (.aload_n 0, 1) := by decide +kernel
theorem dX9_putObjectAbove_36 : decode cX9_putObjectAbove 36 = .ok (.getfield 9, 3) := by decide +kernel
theorem dX9_putObjectAbove_39 : decode cX9_putObjectAbove 39 = .ok (.iload_n 1, 1) := by decide +kernel
theorem dX9_putObjectAbove_40 : decode cX9_putObjectAbove 40 = .ok (.iload_n 2, 1) := by decide +kernel
theorem dX9_putObjectAbove_41 : decode cX9_putObjectAbove 41 = .ok (.iastore, 1) := by decide +kernel
theorem dX9_putObjectAbove_42 : decode cX9_putObjectAbove 42 = .ok (.return_, 1) := by decide +kernel
def fX9_putObjectAbove (h : AH) (a0 : Nat) (a1 : Int32) : Option (AH) :=
  if hasC h 9 a0 = true then (
    (fX9_comeObject h a0 0 0).bind fun q1 =>
    (fX9_hasSpace q1.2 a0 a1).bind fun q2 =>
    if q2 = true then (
      (fX9_hasObject q1.2 a0 q1.1).bind fun q3 =>
      if q3 = true then (
        (gR q1.2 9 a0 7).bind fun x4 =>
        (gR q1.2 9 a0 4).bind fun x5 =>
        (aI q1.2 0 x5 a1).bind fun x6 =>
        (sI q1.2 0 x4 q1.1 x6).bind fun h7 =>
        (gR h7 9 a0 4).bind fun x8 =>
        (sI h7 0 x8 a1 q1.1).bind fun h9 =>
        some h9
      ) else (
        some q1.2
      )
    ) else (
      some q1.2
    )
  ) else none
set_option maxHeartbeats 4000000 in
theorem mX9_putObjectAbove {h : AH} {a0 : Nat} {a1 : Int32} {r : AH} (hr : fX9_putObjectAbove h a0 a1 = some r) : hasC h 9 a0 = true ∧ MC yX9_putObjectAbove cX9_putObjectAbove 3 none 4 0 0 [.ref a0, .int a1] h none r := by
  unfold fX9_putObjectAbove at hr
  obtain ⟨hc, hr⟩ := if_some hr
  refine ⟨hc, mc_of (l0 := [(0, .ref a0), (1, .int a1)]) rfl pn_X9 (Nat.le_of_ble_eq_true rfl) (fun Y X C E O hnm => go_run hr ?_)⟩
  have C : CT Y X RX9 cX9_putObjectAbove 3 := C
  refine go_aload_n (pc := 0) C 0 dX9_putObjectAbove_0 rfl ?_
  refine go_iconst (pc := 1) C dX9_putObjectAbove_1 ki_0 ?_
  refine go_iconst (pc := 2) C dX9_putObjectAbove_2 ki_0 ?_
  refine go_bind (fun q1 hq1 => ?_)
  refine go_callV (rest := []) (st' := [.int q1.1]) (c' := 0) (s' := 0) (pc := 3) C O miX9_181 mvX9_comeObject [.int 0, .int 0] rfl (mX9_comeObject hq1).1 (mX9_comeObject hq1).2 dX9_putObjectAbove_3 ⟨by decide, by decide, by decide, by decide⟩ rfl (Nat.le_of_ble_eq_true rfl) rfl ⟨rfl, rfl⟩ ?_
  refine go_istore_n (ls' := [(2, .int q1.1), (0, .ref a0), (1, .int a1)]) (pc := 6) C dX9_putObjectAbove_6 (by decide) rfl ?_
  refine go_aload_n (pc := 7) C 1 dX9_putObjectAbove_7 rfl ?_
  refine go_iload_n (pc := 8) C 2 dX9_putObjectAbove_8 rfl ?_
  refine go_bind (fun q2 hq2 => ?_)
  refine go_callV (rest := []) (st' := [.int (b2i q2)]) (c' := 0) (s' := 0) (pc := 9) C O miX9_78 mvX9_hasSpace [.int a1] rfl (mX9_hasSpace hq2).1 (mX9_hasSpace hq2).2 dX9_putObjectAbove_9 ⟨by decide, by decide, by decide, by decide⟩ rfl (Nat.le_of_ble_eq_true rfl) rfl ⟨rfl, rfl⟩ ?_
  refine go_ifZ_eq (pc := 12) C 42 dX9_putObjectAbove_12 (by decide) (fun _ => ?_) (fun _ => ?_)
  · refine go_aload_n (pc := 15) C 1 dX9_putObjectAbove_15 rfl ?_
    refine go_iload_n (pc := 16) C 0 dX9_putObjectAbove_16 rfl ?_
    refine go_bind (fun q3 hq3 => ?_)
    refine go_callV (rest := []) (st' := [.int (b2i q3)]) (c' := 0) (s' := 0) (pc := 17) C O miX9_55 mvX9_hasObject [.int q1.1] rfl (mX9_hasObject hq3).1 (mX9_hasObject hq3).2 dX9_putObjectAbove_17 ⟨by decide, by decide, by decide, by decide⟩ rfl (Nat.le_of_ble_eq_true rfl) rfl ⟨rfl, rfl⟩ ?_
    refine go_ifZ_eq (pc := 20) C 42 dX9_putObjectAbove_20 (by decide) (fun _ => ?_) (fun _ => ?_)
    · refine go_aload_n (pc := 23) C 1 dX9_putObjectAbove_23 rfl ?_
      refine go_gR (pc := 24) C fdX9_21 dX9_putObjectAbove_24 (fun x4 => ?_)
      refine go_iload_n (pc := 27) C 0 dX9_putObjectAbove_27 rfl ?_
      refine go_aload_n (pc := 28) C 1 dX9_putObjectAbove_28 rfl ?_
      refine go_gR (pc := 29) C fdX9_9 dX9_putObjectAbove_29 (fun x5 => ?_)
      refine go_iload_n (pc := 32) C 2 dX9_putObjectAbove_32 rfl ?_
      refine go_iald (pc := 33) C dX9_putObjectAbove_33 (fun x6 => ?_)
      refine go_iast (pc := 34) C dX9_putObjectAbove_34 (fun h7 => ?_)
      refine go_aload_n (pc := 35) C 1 dX9_putObjectAbove_35 rfl ?_
      refine go_gR (pc := 36) C fdX9_9 dX9_putObjectAbove_36 (fun x8 => ?_)
      refine go_iload_n (pc := 39) C 2 dX9_putObjectAbove_39 rfl ?_
      refine go_iload_n (pc := 40) C 0 dX9_putObjectAbove_40 rfl ?_
      refine go_iast (pc := 41) C dX9_putObjectAbove_41 (fun h9 => ?_)
      exact go_vret (w := wV) (pc := 42) C E h9 dX9_putObjectAbove_42 rfl
    · exact go_vret (w := wV) (pc := 42) C E q1.2 dX9_putObjectAbove_42 rfl
  · exact go_vret (w := wV) (pc := 42) C E q1.2 dX9_putObjectAbove_42 rfl
theorem dX9_passCopy_0 : decode cX9_passCopy 0 = .ok (.iconst 0, 1) := by decide +kernel
theorem dX9_passCopy_1 : decode cX9_passCopy 1 = .ok (.istore_n 3, 1) := by decide +kernel
theorem dX9_passCopy_2 : decode cX9_passCopy 2 = .ok (.iload_n 3, 1) := by decide +kernel
theorem dX9_passCopy_3 : decode cX9_passCopy 3 = .ok (.bipush 24, 2) := by decide +kernel
theorem dX9_passCopy_5 : decode cX9_passCopy 5 = .ok (.if_icmp .ge 26, 3) := by decide +kernel
theorem dX9_passCopy_8 : decode cX9_passCopy 8 = .ok (.aload_n 0, 1) := by decide +kernel
theorem dX9_passCopy_9 : decode cX9_passCopy 9 = .ok (.getfield 24, 3) := by decide +kernel
theorem dX9_passCopy_12 : decode cX9_passCopy 12 = .ok (.iload_n 3, 1) := by decide +kernel
theorem dX9_passCopy_13 : decode cX9_passCopy 13 = .ok (.iaload, 1) := by decide +kernel
theorem dX9_passCopy_14 : decode cX9_passCopy 14 = .ok (.iload_n 1, 1) := by decide +kernel
theorem dX9_passCopy_15 : decode cX9_passCopy 15 = .ok (.if_icmp .ne 10, 3) := by decide +kernel
theorem dX9_passCopy_18 : decode cX9_passCopy 18 = .ok (.aload_n 0, 1) := by decide +kernel
theorem dX9_passCopy_19 : decode cX9_passCopy 19 = .ok (.getfield 24, 3) := by decide +kernel
theorem dX9_passCopy_22 : decode cX9_passCopy 22 = .ok (.iload_n 3, 1) := by decide +kernel
theorem dX9_passCopy_23 : decode cX9_passCopy 23 = .ok (.iload_n 2, 1) := by decide +kernel
theorem dX9_passCopy_24 : decode cX9_passCopy 24 = .ok (.iastore, 1) := by decide +kernel
theorem dX9_passCopy_25 : decode cX9_passCopy 25 = .ok (.iinc 3 1, 3) := by decide +kernel
theorem dX9_passCopy_28 : decode cX9_passCopy 28 = .ok (.goto (-26), 3) := by decide +kernel
theorem dX9_passCopy_31 : decode cX9_passCopy 31 = .ok (.return_, 1) := by decide +kernel
def fX9_passCopy_L2 : Nat → AH → Nat → Int32 → Int32 → Int32 → Option (AH)
  | 0, _, _, _, _, _ => none
  | n + 1, h, v0, v1, v2, v3 =>
    if 24 ≤ v3 then (
      some h
    ) else (
      (gR h 9 v0 8).bind fun x1 =>
      (aI h 0 x1 v3).bind fun x2 =>
      if x2 = v1 then (
        (gR h 9 v0 8).bind fun x3 =>
        (sI h 0 x3 v3 v2).bind fun h4 =>
        letF (v3 + 1 : Int32) fun x5 =>
        fX9_passCopy_L2 n h4 v0 v1 v2 x5
      ) else (
        letF (v3 + 1 : Int32) fun x6 =>
        fX9_passCopy_L2 n h v0 v1 v2 x6
      )
    )
def fX9_passCopy (h : AH) (a0 : Nat) (a1 : Int32) (a2 : Int32) : Option (AH) :=
  if hasC h 9 a0 = true then (
    fX9_passCopy_L2 FU h a0 a1 a2 0
  ) else none
set_option maxHeartbeats 4000000 in
theorem gX9_passCopy_L2 {Y : YT} {X : XT} (C : CT Y X RX9 cX9_passCopy 4) (O : RO X 1 0 0) {r : AH} (E : RX Y X none none r 0 0) : ∀ (n : Nat) (h : AH) (v0 : Nat) (v1 : Int32) (v2 : Int32) (v3 : Int32), GO Y X 4 r h 0 0 2 [(0, .ref v0), (1, .int v1), (2, .int v2), (3, .int v3)] [] (fX9_passCopy_L2 n h v0 v1 v2 v3) := by
  intro n
  induction n with
  | zero => intros; exact go_none _ _ _
  | succ n ih =>
    intro h v0 v1 v2 v3
    rw [fX9_passCopy_L2]
    refine go_iload_n (pc := 2) C 3 dX9_passCopy_2 rfl ?_
    refine go_bipush (pc := 3) C dX9_passCopy_3 kb_24 ?_
    refine go_icmp_ge (pc := 5) C 31 dX9_passCopy_5 (by decide) (fun _ => ?_) (fun _ => ?_)
    · exact go_vret (w := wV) (pc := 31) C E h dX9_passCopy_31 rfl
    · refine go_aload_n (pc := 8) C 0 dX9_passCopy_8 rfl ?_
      refine go_gR (pc := 9) C fdX9_24 dX9_passCopy_9 (fun x1 => ?_)
      refine go_iload_n (pc := 12) C 3 dX9_passCopy_12 rfl ?_
      refine go_iald (pc := 13) C dX9_passCopy_13 (fun x2 => ?_)
      refine go_iload_n (pc := 14) C 1 dX9_passCopy_14 rfl ?_
      refine go_icmp_ne (pc := 15) C 25 dX9_passCopy_15 (by decide) (fun _ => ?_) (fun _ => ?_)
      · refine go_aload_n (pc := 18) C 0 dX9_passCopy_18 rfl ?_
        refine go_gR (pc := 19) C fdX9_24 dX9_passCopy_19 (fun x3 => ?_)
        refine go_iload_n (pc := 22) C 3 dX9_passCopy_22 rfl ?_
        refine go_iload_n (pc := 23) C 2 dX9_passCopy_23 rfl ?_
        refine go_iast (pc := 24) C dX9_passCopy_24 (fun h4 => ?_)
        refine go_iincL (pc := 25) C 3 dX9_passCopy_25 rfl ki_1 (by decide) (fun x5 => [(3, .int x5), (0, .ref v0), (1, .int v1), (2, .int v2)]) (fun _ => rfl) (fun x5 => ?_)
        refine go_goto (pc := 28) C 2 dX9_passCopy_28 (by decide) ?_
        refine go_sub (ls' := [(0, .ref v0), (1, .int v1), (2, .int v2), (3, .int x5)]) [1, 2, 3, 0] rfl ?_
        exact ih h4 v0 v1 v2 x5
      · refine go_iincL (pc := 25) C 3 dX9_passCopy_25 rfl ki_1 (by decide) (fun x6 => [(3, .int x6), (0, .ref v0), (1, .int v1), (2, .int v2)]) (fun _ => rfl) (fun x6 => ?_)
        refine go_goto (pc := 28) C 2 dX9_passCopy_28 (by decide) ?_
        refine go_sub (ls' := [(0, .ref v0), (1, .int v1), (2, .int v2), (3, .int x6)]) [1, 2, 3, 0] rfl ?_
        exact ih h v0 v1 v2 x6
set_option maxHeartbeats 4000000 in
theorem mX9_passCopy {h : AH} {a0 : Nat} {a1 : Int32} {a2 : Int32} {r : AH} (hr : fX9_passCopy h a0 a1 a2 = some r) : hasC h 9 a0 = true ∧ MC yX9_passCopy cX9_passCopy 4 none 1 0 0 [.ref a0, .int a1, .int a2] h none r := by
  unfold fX9_passCopy at hr
  obtain ⟨hc, hr⟩ := if_some hr
  refine ⟨hc, mc_of (l0 := [(0, .ref a0), (1, .int a1), (2, .int a2)]) rfl pn_X9 (Nat.le_of_ble_eq_true rfl) (fun Y X C E O hnm => go_run hr ?_)⟩
  have C : CT Y X RX9 cX9_passCopy 4 := C
  refine go_iconst (pc := 0) C dX9_passCopy_0 ki_0 ?_
  refine go_istore_n (ls' := [(3, .int 0), (0, .ref a0), (1, .int a1), (2, .int a2)]) (pc := 1) C dX9_passCopy_1 (by decide) rfl ?_
  refine go_sub (ls' := [(0, .ref a0), (1, .int a1), (2, .int a2), (3, .int 0)]) [1, 2, 3, 0] rfl ?_
  refine gX9_passCopy_L2 C O E FU h a0 a1 a2 0
theorem dX9_remove_0 : decode cX9_remove 0 = .ok (.aload_n 0, 1) := by decide +kernel
theorem dX9_remove_1 : decode cX9_remove 1 = .ok (.iload_n 1, 1) := by decide +kernel
theorem dX9_remove_2 : decode cX9_remove 2 = .ok (.invokevirtual 55, 3) := by decide +kernel
theorem dX9_remove_5 : decode cX9_remove 5 = .ok (.ifCond .eq 53, 3) := by decide +kernel
theorem dX9_remove_8 : decode cX9_remove 8 = .ok (.aload_n 0, 1) := by decide +kernel
theorem dX9_remove_9 : decode cX9_remove 9 = .ok (.iload_n 1, 1) := by decide +kernel
theorem dX9_remove_10 : decode cX9_remove 10 = .ok (.iload_n 2, 1) := by decide +kernel
theorem dX9_remove_11 : decode cX9_remove 11 = .ok (.invokevirtual 200, 3) := by decide +kernel
theorem dX9_remove_14 : decode cX9_remove 14 = .ok (.aload_n 0, 1) := by decide +kernel
theorem dX9_remove_15 : decode cX9_remove 15 = .ok (.dup, 1) := by decide +kernel
theorem dX9_remove_16 : decode cX9_remove 16 = .ok (.getfield 43, 3) := by decide +kernel
theorem dX9_remove_19 : decode cX9_remove 19 = .ok (.iconst 1, 1) := by decide +kernel
theorem dX9_remove_20 : decode cX9_remove 20 = .ok (.iload_n 1, 1) := by decide +kernel
theorem dX9_remove_21 : decode cX9_remove 21 = .ok (.ishl, 1) := by decide +kernel
theorem dX9_remove_22 : decode cX9_remove 22 = .ok (.iconst (-1), 1) := by decide +kernel
theorem dX9_remove_23 : decode cX9_remove 23 = .ok (.ixor, 1) := by decide +kernel
theorem dX9_remove_24 : decode cX9_remove 24 = .ok (.iand, 1) := by decide +kernel
theorem dX9_remove_25 : decode cX9_remove 25 = .ok (.putfield 43, 3) := by decide +kernel
theorem dX9_remove_28 : decode cX9_remove 28 = .ok (.aload_n 0, 1) := by decide +kernel
theorem dX9_remove_29 : decode cX9_remove 29 = .ok (.getfield 15, 3) := by decide +kernel
theorem dX9_remove_32 : decode cX9_remove 32 = .ok (.iload_n 1, 1) := by decide +kernel
theorem dX9_remove_33 : decode cX9_remove 33 = .ok (.iconst 0, 1) := by decide +kernel
theorem dX9_remove_34 : decode cX9_remove 34 = .ok (.iastore, 1) := by decide +kernel
theorem dX9_remove_35 : decode cX9_remove 35 = .ok (.aload_n 0, 1) := by decide +kernel
theorem dX9_remove_36 : decode cX9_remove 36 = .ok (.getfield 18, 3) := by decide +kernel
theorem dX9_remove_39 : decode cX9_remove 39 = .ok (.iload_n 1, 1) := by decide +kernel
theorem dX9_remove_40 : decode cX9_remove 40 = .ok (.iconst 0, 1) := by decide +kernel
theorem dX9_remove_41 : decode cX9_remove 41 = .ok (.iastore, 1) := by decide +kernel
theorem dX9_remove_42 : decode cX9_remove 42 = .ok (.aload_n 0, 1) := by decide +kernel
theorem dX9_remove_43 : decode cX9_remove 43 = .ok (.getfield 21, 3) := by decide +kernel
theorem dX9_remove_46 : decode cX9_remove 46 = .ok (.iload_n 1, 1) := by decide +kernel
theorem dX9_remove_47 : decode cX9_remove 47 = .ok (.bipush 24, 2) := by decide +kernel
theorem dX9_remove_49 : decode cX9_remove 49 = .ok (.iastore, 1) := by decide +kernel
theorem dX9_remove_50 : decode cX9_remove 50 = .ok (.aload_n 0, 1) := by decide +kernel
theorem dX9_remove_51 : decode cX9_remove 51 = .ok (.getfield 24, 3) := by decide +kernel
theorem dX9_remove_54 : decode cX9_remove 54 = .ok (.iload_n 1, 1) := by decide +kernel
theorem dX9_remove_55 : decode cX9_remove 55 = .ok (.bipush 24, 2) := by decide +kernel
theorem dX9_remove_57 : decode cX9_remove 57 = .ok (.iastore, 1) := by decide +kernel
theorem dX9_remove_58 : decode cX9_remove 58 = .ok (.return_, 1) := by decide +kernel
def fX9_remove (h : AH) (a0 : Nat) (a1 : Int32) (a2 : Int32) : Option (AH) :=
  if hasC h 9 a0 = true then (
    (fX9_hasObject h a0 a1).bind fun q1 =>
    if q1 = true then (
      (fX9_passCopy h a0 a1 a2).bind fun q2 =>
      (gI q2 9 a0 2).bind fun x3 =>
      (pF q2 9 a0 2 (.int (x3 &&& ((1 <<< (a1 &&& 31)) ^^^ ((-1)))))).bind fun h4 =>
      (gR h4 9 a0 5).bind fun x5 =>
      (sI h4 0 x5 a1 0).bind fun h6 =>
      (gR h6 9 a0 6).bind fun x7 =>
      (sI h6 0 x7 a1 0).bind fun h8 =>
      (gR h8 9 a0 7).bind fun x9 =>
      (sI h8 0 x9 a1 24).bind fun h10 =>
      (gR h10 9 a0 8).bind fun x11 =>
      (sI h10 0 x11 a1 24).bind fun h12 =>
      some h12
    ) else (
      some h
    )
  ) else none
set_option maxHeartbeats 4000000 in
theorem mX9_remove {h : AH} {a0 : Nat} {a1 : Int32} {a2 : Int32} {r : AH} (hr : fX9_remove h a0 a1 a2 = some r) : hasC h 9 a0 = true ∧ MC yX9_remove cX9_remove 3 none 2 0 0 [.ref a0, .int a1, .int a2] h none r := by
  unfold fX9_remove at hr
  obtain ⟨hc, hr⟩ := if_some hr
  refine ⟨hc, mc_of (l0 := [(0, .ref a0), (1, .int a1), (2, .int a2)]) rfl pn_X9 (Nat.le_of_ble_eq_true rfl) (fun Y X C E O hnm => go_run hr ?_)⟩
  have C : CT Y X RX9 cX9_remove 3 := C
  refine go_aload_n (pc := 0) C 0 dX9_remove_0 rfl ?_
  refine go_iload_n (pc := 1) C 1 dX9_remove_1 rfl ?_
  refine go_bind (fun q1 hq1 => ?_)
  refine go_callV (rest := []) (st' := [.int (b2i q1)]) (c' := 0) (s' := 0) (pc := 2) C O miX9_55 mvX9_hasObject [.int a1] rfl (mX9_hasObject hq1).1 (mX9_hasObject hq1).2 dX9_remove_2 ⟨by decide, by decide, by decide, by decide⟩ rfl (Nat.le_of_ble_eq_true rfl) rfl ⟨rfl, rfl⟩ ?_
  refine go_ifZ_eq (pc := 5) C 58 dX9_remove_5 (by decide) (fun _ => ?_) (fun _ => ?_)
  · refine go_aload_n (pc := 8) C 0 dX9_remove_8 rfl ?_
    refine go_iload_n (pc := 9) C 1 dX9_remove_9 rfl ?_
    refine go_iload_n (pc := 10) C 2 dX9_remove_10 rfl ?_
    refine go_bind (fun q2 hq2 => ?_)
    refine go_callV (rest := []) (st' := []) (c' := 0) (s' := 0) (pc := 11) C O miX9_200 mvX9_passCopy [.int a1, .int a2] rfl (mX9_passCopy hq2).1 (mX9_passCopy hq2).2 dX9_remove_11 ⟨by decide, by decide, by decide, by decide⟩ rfl (Nat.le_of_ble_eq_true rfl) rfl ⟨rfl, rfl⟩ ?_
    refine go_aload_n (pc := 14) C 0 dX9_remove_14 rfl ?_
    refine go_dup (pc := 15) C dX9_remove_15 rfl ?_
    refine go_gI (pc := 16) C fdX9_43 dX9_remove_16 (fun x3 => ?_)
    refine go_iconst (pc := 19) C dX9_remove_19 ki_1 ?_
    refine go_iload_n (pc := 20) C 1 dX9_remove_20 rfl ?_
    refine go_ishl (pc := 21) C dX9_remove_21 ?_
    refine go_iconst (pc := 22) C dX9_remove_22 ki_m1 ?_
    refine go_ixor (pc := 23) C dX9_remove_23 ?_
    refine go_iand (pc := 24) C dX9_remove_24 ?_
    refine go_pI (pc := 25) C fpX9_43 dX9_remove_25 (fun h4 => ?_)
    refine go_aload_n (pc := 28) C 0 dX9_remove_28 rfl ?_
    refine go_gR (pc := 29) C fdX9_15 dX9_remove_29 (fun x5 => ?_)
    refine go_iload_n (pc := 32) C 1 dX9_remove_32 rfl ?_
    refine go_iconst (pc := 33) C dX9_remove_33 ki_0 ?_
    refine go_iast (pc := 34) C dX9_remove_34 (fun h6 => ?_)
    refine go_aload_n (pc := 35) C 0 dX9_remove_35 rfl ?_
    refine go_gR (pc := 36) C fdX9_18 dX9_remove_36 (fun x7 => ?_)
    refine go_iload_n (pc := 39) C 1 dX9_remove_39 rfl ?_
    refine go_iconst (pc := 40) C dX9_remove_40 ki_0 ?_
    refine go_iast (pc := 41) C dX9_remove_41 (fun h8 => ?_)
    refine go_aload_n (pc := 42) C 0 dX9_remove_42 rfl ?_
    refine go_gR (pc := 43) C fdX9_21 dX9_remove_43 (fun x9 => ?_)
    refine go_iload_n (pc := 46) C 1 dX9_remove_46 rfl ?_
    refine go_bipush (pc := 47) C dX9_remove_47 kb_24 ?_
    refine go_iast (pc := 49) C dX9_remove_49 (fun h10 => ?_)
    refine go_aload_n (pc := 50) C 0 dX9_remove_50 rfl ?_
    refine go_gR (pc := 51) C fdX9_24 dX9_remove_51 (fun x11 => ?_)
    refine go_iload_n (pc := 54) C 1 dX9_remove_54 rfl ?_
    refine go_bipush (pc := 55) C dX9_remove_55 kb_24 ?_
    refine go_iast (pc := 57) C dX9_remove_57 (fun h12 => ?_)
    exact go_vret (w := wV) (pc := 58) C E h12 dX9_remove_58 rfl
  · exact go_vret (w := wV) (pc := 58) C E h dX9_remove_58 rfl
