/-! walks, by program: X11_goFork X11_forks X11_goEnd X11_ends X11_refusesArrival X11_goArrive X11_arrives X11_tidies X11_twoDigits X11_readAct X11_act X11_day X11_undo X11_chain X11_peeks X11_isInChain X11_inChains X11_holders X11_areTwo X11_frameOf X11_tellBits X11_shared -/
theorem dX11_goFork_0 : decode cX11_goFork 0 = .ok (.aload_n 0, 1) := by decide +kernel
theorem dX11_goFork_1 : decode cX11_goFork 1 = .ok (.invokestatic 178, 3) := by decide +kernel
theorem dX11_goFork_4 : decode cX11_goFork 4 = .ok (.istore_n 2, 1) := by decide +kernel
theorem dX11_goFork_5 : decode cX11_goFork 5 = .ok (.aload_n 0, 1) := by decide +kernel
theorem dX11_goFork_6 : decode cX11_goFork 6 = .ok (.sipush 312, 3) := by decide +kernel
theorem dX11_goFork_9 : decode cX11_goFork 9 = .ok (.iload_n 1, 1) := by decide +kernel
theorem dX11_goFork_10 : decode cX11_goFork 10 = .ok (.iadd, 1) := by decide +kernel
theorem dX11_goFork_11 : decode cX11_goFork 11 = .ok (.iaload, 1) := by decide +kernel
theorem dX11_goFork_12 : decode cX11_goFork 12 = .ok (.istore_n 3, 1) := by decide +kernel
theorem dX11_goFork_13 : decode cX11_goFork 13 = .ok (.aload_n 0, 1) := by decide +kernel
theorem dX11_goFork_14 : decode cX11_goFork 14 = .ok (.sipush 216, 3) := by decide +kernel
theorem dX11_goFork_17 : decode cX11_goFork 17 = .ok (.iload_n 3, 1) := by decide +kernel
theorem dX11_goFork_18 : decode cX11_goFork 18 = .ok (.iadd, 1) := by decide +kernel
theorem dX11_goFork_19 : decode cX11_goFork 19 = .ok (.iaload, 1) := by decide +kernel
theorem dX11_goFork_20 : decode cX11_goFork 20 = .ok (.ifCond .ne 22, 3) := by decide +kernel
theorem dX11_goFork_23 : decode cX11_goFork 23 = .ok (.aload_n 0, 1) := by decide +kernel
theorem dX11_goFork_24 : decode cX11_goFork 24 = .ok (.sipush 312, 3) := by decide +kernel
theorem dX11_goFork_27 : decode cX11_goFork 27 = .ok (.iload_n 2, 1) := by decide +kernel
theorem dX11_goFork_28 : decode cX11_goFork 28 = .ok (.iadd, 1) := by decide +kernel
theorem dX11_goFork_29 : decode cX11_goFork 29 = .ok (.iload_n 3, 1) := by decide +kernel
theorem dX11_goFork_30 : decode cX11_goFork 30 = .ok (.iastore, 1) := by decide +kernel
theorem dX11_goFork_31 : decode cX11_goFork 31 = .ok (.aload_n 0, 1) := by decide +kernel
theorem dX11_goFork_32 : decode cX11_goFork 32 = .ok (.sipush 318, 3) := by decide +kernel
theorem dX11_goFork_35 : decode cX11_goFork 35 = .ok (.iload_n 1, 1) := by decide +kernel
theorem dX11_goFork_36 : decode cX11_goFork 36 = .ok (.iadd, 1) := by decide +kernel
theorem dX11_goFork_37 : decode cX11_goFork 37 = .ok (.iconst 1, 1) := by decide +kernel
theorem dX11_goFork_38 : decode cX11_goFork 38 = .ok (.iastore, 1) := by decide +kernel
theorem dX11_goFork_39 : decode cX11_goFork 39 = .ok (.goto 56, 3) := by decide +kernel
theorem dX11_goFork_42 : decode cX11_goFork 42 = .ok (.aload_n 0, 1) := by decide +kernel
theorem dX11_goFork_43 : decode cX11_goFork 43 = .ok (.iconst 0, 1) := by decide +kernel
theorem dX11_goFork_44 : decode cX11_goFork 44 = .ok (.iconst 0, 1) := by decide +kernel
theorem dX11_goFork_45 : decode cX11_goFork 45 = .ok (.iload_n 3, 1) := by decide +kernel
theorem dX11_goFork_46 : decode cX11_goFork 46 = .ok (.invokestatic 188, 3) := by decide +kernel
theorem dX11_goFork_49 : decode cX11_goFork 49 = .ok (.istore 4, 2) := by decide +kernel
theorem dX11_goFork_51 : decode cX11_goFork 51 = .ok (.aload_n 0, 1) := by decide +kernel
theorem dX11_goFork_52 : decode cX11_goFork 52 = .ok (.sipush 264, 3) := by decide +kernel
theorem dX11_goFork_55 : decode cX11_goFork 55 = .ok (.iload_n 3, 1) := by decide +kernel
theorem dX11_goFork_56 : decode cX11_goFork 56 = .ok (.iadd, 1) := by decide +kernel
theorem dX11_goFork_57 : decode cX11_goFork 57 = .ok (.iaload, 1) := by decide +kernel
theorem dX11_goFork_58 : decode cX11_goFork 58 = .ok (.iconst (-1), 1) := by decide +kernel
theorem dX11_goFork_59 : decode cX11_goFork 59 = .ok (.if_icmp .eq 18, 3) := by decide +kernel
theorem dX11_goFork_62 : decode cX11_goFork 62 = .ok (.aload_n 0, 1) := by decide +kernel
theorem dX11_goFork_63 : decode cX11_goFork 63 = .ok (.sipush 192, 3) := by decide +kernel
theorem dX11_goFork_66 : decode cX11_goFork 66 = .ok (.aload_n 0, 1) := by decide +kernel
theorem dX11_goFork_67 : decode cX11_goFork 67 = .ok (.sipush 264, 3) := by decide +kernel
theorem dX11_goFork_70 : decode cX11_goFork 70 = .ok (.iload_n 3, 1) := by decide +kernel
theorem dX11_goFork_71 : decode cX11_goFork 71 = .ok (.iadd, 1) := by decide +kernel
theorem dX11_goFork_72 : decode cX11_goFork 72 = .ok (.iaload, 1) := by decide +kernel
theorem dX11_goFork_73 : decode cX11_goFork 73 = .ok (.iadd, 1) := by decide +kernel
theorem dX11_goFork_74 : decode cX11_goFork 74 = .ok (.iload 4, 2) := by decide +kernel
theorem dX11_goFork_76 : decode cX11_goFork 76 = .ok (.iastore, 1) := by decide +kernel
theorem dX11_goFork_77 : decode cX11_goFork 77 = .ok (.aload_n 0, 1) := by decide +kernel
theorem dX11_goFork_78 : decode cX11_goFork 78 = .ok (.sipush 264, 3) := by decide +kernel
theorem dX11_goFork_81 : decode cX11_goFork 81 = .ok (.iload_n 3, 1) := by decide +kernel
theorem dX11_goFork_82 : decode cX11_goFork 82 = .ok (.iadd, 1) := by decide +kernel
theorem dX11_goFork_83 : decode cX11_goFork 83 = .ok (.iload 4, 2) := by decide +kernel
theorem dX11_goFork_85 : decode cX11_goFork 85 = .ok (.iastore, 1) := by decide +kernel
theorem dX11_goFork_86 : decode cX11_goFork 86 = .ok (.aload_n 0, 1) := by decide +kernel
theorem dX11_goFork_87 : decode cX11_goFork 87 = .ok (.sipush 312, 3) := by decide +kernel
theorem dX11_goFork_90 : decode cX11_goFork 90 = .ok (.iload_n 2, 1) := by decide +kernel
theorem dX11_goFork_91 : decode cX11_goFork 91 = .ok (.iadd, 1) := by decide +kernel
theorem dX11_goFork_92 : decode cX11_goFork 92 = .ok (.iload 4, 2) := by decide +kernel
theorem dX11_goFork_94 : decode cX11_goFork 94 = .ok (.iastore, 1) := by decide +kernel
theorem dX11_goFork_95 : decode cX11_goFork 95 = .ok (.aload_n 0, 1) := by decide +kernel
theorem dX11_goFork_96 : decode cX11_goFork 96 = .ok (.sipush 318, 3) := by decide +kernel
theorem dX11_goFork_99 : decode cX11_goFork 99 = .ok (.iload_n 2, 1) := by decide +kernel
theorem dX11_goFork_100 : decode cX11_goFork 100 = .ok (.iadd, 1) := by decide +kernel
theorem dX11_goFork_101 : decode cX11_goFork 101 = .ok (.iconst 1, 1) := by decide +kernel
theorem dX11_goFork_102 : decode cX11_goFork 102 = .ok (.iastore, 1) := by decide +kernel
theorem dX11_goFork_103 : decode cX11_goFork 103 = .ok (.iload_n 2, 1) := by decide +kernel
theorem dX11_goFork_104 : decode cX11_goFork 104 = .ok (.ireturn, 1) := by decide +kernel
def fX11_goFork_J77 (k95 : AH → Nat → Int32 → Option (Int32 × AH)) (h : AH) (v0 : Nat) (v2 : Int32) (v3 : Int32) (v4 : Int32) : Option (Int32 × AH) :=
    (sI h 0 v0 (264 + v3) v4).bind fun h1 =>
    (sI h1 0 v0 (312 + v2) v4).bind fun h2 =>
    k95 h2 v0 v2
def fX11_goFork_J95 (h : AH) (v0 : Nat) (v2 : Int32) : Option (Int32 × AH) :=
    (sI h 0 v0 (318 + v2) 1).bind fun h3 =>
    some ((v2, h3))
def fX11_goFork (h : AH) (a0 : Nat) (a1 : Int32) : Option (Int32 × AH) :=
  (fX11_freeSpace h a0).bind fun q4 =>
  (aI h 0 a0 (312 + a1)).bind fun x5 =>
  (aI h 0 a0 (216 + x5)).bind fun x6 =>
  if x6 = 0 then (
    (sI h 0 a0 (312 + q4) x5).bind fun h7 =>
    (sI h7 0 a0 (318 + a1) 1).bind fun h8 =>
    fX11_goFork_J95 h8 a0 q4
  ) else (
    (fX11_comes h a0 0 0 x5).bind fun q9 =>
    (aI q9.2 0 a0 (264 + x5)).bind fun x10 =>
    if x10 = ((-1)) then (
      fX11_goFork_J77
        (fun h13 x11 x12 =>
          fX11_goFork_J95 h13 x11 x12)
        q9.2 a0 q4 x5 q9.1
    ) else (
      (aI q9.2 0 a0 (264 + x5)).bind fun x14 =>
      (sI q9.2 0 a0 (192 + x14) q9.1).bind fun h15 =>
      fX11_goFork_J77
        (fun h18 x16 x17 =>
          fX11_goFork_J95 h18 x16 x17)
        h15 a0 q4 x5 q9.1
    )
  )
set_option maxHeartbeats 4000000 in
theorem gX11_goFork_J77 {Y : YT} {X : XT} (C : CT Y X RX11 cX11_goFork 5) (O : RO X 4 0 0) {r : Int32 × AH} (E : RX Y X (some .int) (some (.int r.1)) r.2 0 0) {k95 : AH → Nat → Int32 → Option (Int32 × AH)} (hk95 : ∀ (h : AH) (v0 : Nat) (v2 : Int32), GO Y X 5 r h 0 0 95 [(0, .ref v0), (2, .int v2)] [] (k95 h v0 v2)) : ∀ (h : AH) (v0 : Nat) (v2 : Int32) (v3 : Int32) (v4 : Int32), GO Y X 5 r h 0 0 77 [(0, .ref v0), (2, .int v2), (3, .int v3), (4, .int v4)] [] (fX11_goFork_J77 k95 h v0 v2 v3 v4) := by
  intro h v0 v2 v3 v4
  unfold fX11_goFork_J77
  refine go_aload_n (pc := 77) C 0 dX11_goFork_77 rfl ?_
  refine go_sipush (pc := 78) C dX11_goFork_78 ks_264 ?_
  refine go_iload_n (pc := 81) C 2 dX11_goFork_81 rfl ?_
  refine go_iadd (pc := 82) C dX11_goFork_82 ?_
  refine go_iload (pc := 83) C 3 dX11_goFork_83 rfl ?_
  refine go_iast (pc := 85) C dX11_goFork_85 (fun h1 => ?_)
  refine go_aload_n (pc := 86) C 0 dX11_goFork_86 rfl ?_
  refine go_sipush (pc := 87) C dX11_goFork_87 ks_312 ?_
  refine go_iload_n (pc := 90) C 1 dX11_goFork_90 rfl ?_
  refine go_iadd (pc := 91) C dX11_goFork_91 ?_
  refine go_iload (pc := 92) C 3 dX11_goFork_92 rfl ?_
  refine go_iast (pc := 94) C dX11_goFork_94 (fun h2 => ?_)
  refine go_sub (ls' := [(0, .ref v0), (2, .int v2)]) [0, 1] rfl ?_
  exact hk95 h2 v0 v2
set_option maxHeartbeats 4000000 in
theorem gX11_goFork_J95 {Y : YT} {X : XT} (C : CT Y X RX11 cX11_goFork 5) (O : RO X 4 0 0) {r : Int32 × AH} (E : RX Y X (some .int) (some (.int r.1)) r.2 0 0) : ∀ (h : AH) (v0 : Nat) (v2 : Int32), GO Y X 5 r h 0 0 95 [(0, .ref v0), (2, .int v2)] [] (fX11_goFork_J95 h v0 v2) := by
  intro h v0 v2
  unfold fX11_goFork_J95
  refine go_aload_n (pc := 95) C 0 dX11_goFork_95 rfl ?_
  refine go_sipush (pc := 96) C dX11_goFork_96 ks_318 ?_
  refine go_iload_n (pc := 99) C 1 dX11_goFork_99 rfl ?_
  refine go_iadd (pc := 100) C dX11_goFork_100 ?_
  refine go_iconst (pc := 101) C dX11_goFork_101 ki_1 ?_
  refine go_iast (pc := 102) C dX11_goFork_102 (fun h3 => ?_)
  refine go_iload_n (pc := 103) C 1 dX11_goFork_103 rfl ?_
  exact go_iret (w := wIh) (pc := 104) C E ((v2, h3)) v2 dX11_goFork_104 rfl
set_option maxHeartbeats 4000000 in
theorem mX11_goFork {h : AH} {a0 : Nat} {a1 : Int32} {r : Int32 × AH} (hr : fX11_goFork h a0 a1 = some r) : MC yX11_goFork cX11_goFork 5 (some .int) 4 0 0 [.ref a0, .int a1] h (some (.int r.1)) r.2 := by
  unfold fX11_goFork at hr
  refine mc_of (l0 := [(0, .ref a0), (1, .int a1)]) rfl pn_X11 (Nat.le_of_ble_eq_true rfl) (fun Y X C E O hnm => go_run hr ?_)
  have C : CT Y X RX11 cX11_goFork 5 := C
  refine go_aload_n (pc := 0) C 0 dX11_goFork_0 rfl ?_
  refine go_bind (fun q4 hq4 => ?_)
  refine go_callS (rest := []) (st' := [.int q4]) (c' := 0) (s' := 0) (pc := 1) C O miX11_178 w_1476 [.ref a0] rfl (mX11_freeSpace hq4) dX11_goFork_1 ⟨by decide, by decide, by decide, by decide⟩ rfl (Nat.le_of_ble_eq_true rfl) rfl ⟨rfl, rfl⟩ ?_
  refine go_istore_n (ls' := [(2, .int q4), (0, .ref a0), (1, .int a1)]) (pc := 4) C dX11_goFork_4 (by decide) rfl ?_
  refine go_aload_n (pc := 5) C 1 dX11_goFork_5 rfl ?_
  refine go_sipush (pc := 6) C dX11_goFork_6 ks_312 ?_
  refine go_iload_n (pc := 9) C 2 dX11_goFork_9 rfl ?_
  refine go_iadd (pc := 10) C dX11_goFork_10 ?_
  refine go_iald (pc := 11) C dX11_goFork_11 (fun x5 => ?_)
  refine go_istore_n (ls' := [(3, .int x5), (2, .int q4), (0, .ref a0), (1, .int a1)]) (pc := 12) C dX11_goFork_12 (by decide) rfl ?_
  refine go_aload_n (pc := 13) C 2 dX11_goFork_13 rfl ?_
  refine go_sipush (pc := 14) C dX11_goFork_14 ks_216 ?_
  refine go_iload_n (pc := 17) C 0 dX11_goFork_17 rfl ?_
  refine go_iadd (pc := 18) C dX11_goFork_18 ?_
  refine go_iald (pc := 19) C dX11_goFork_19 (fun x6 => ?_)
  refine go_if_ne (pc := 20) C 42 dX11_goFork_20 (by decide) (fun _ => ?_) (fun _ => ?_)
  · refine go_aload_n (pc := 23) C 2 dX11_goFork_23 rfl ?_
    refine go_sipush (pc := 24) C dX11_goFork_24 ks_312 ?_
    refine go_iload_n (pc := 27) C 1 dX11_goFork_27 rfl ?_
    refine go_iadd (pc := 28) C dX11_goFork_28 ?_
    refine go_iload_n (pc := 29) C 0 dX11_goFork_29 rfl ?_
    refine go_iast (pc := 30) C dX11_goFork_30 (fun h7 => ?_)
    refine go_aload_n (pc := 31) C 2 dX11_goFork_31 rfl ?_
    refine go_sipush (pc := 32) C dX11_goFork_32 ks_318 ?_
    refine go_iload_n (pc := 35) C 3 dX11_goFork_35 rfl ?_
    refine go_iadd (pc := 36) C dX11_goFork_36 ?_
    refine go_iconst (pc := 37) C dX11_goFork_37 ki_1 ?_
    refine go_iast (pc := 38) C dX11_goFork_38 (fun h8 => ?_)
    refine go_goto (pc := 39) C 95 dX11_goFork_39 (by decide) ?_
    refine go_sub (ls' := [(0, .ref a0), (2, .int q4)]) [2, 1] rfl ?_
    refine gX11_goFork_J95 C O E h8 a0 q4
  · refine go_aload_n (pc := 42) C 2 dX11_goFork_42 rfl ?_
    refine go_iconst (pc := 43) C dX11_goFork_43 ki_0 ?_
    refine go_iconst (pc := 44) C dX11_goFork_44 ki_0 ?_
    refine go_iload_n (pc := 45) C 0 dX11_goFork_45 rfl ?_
    refine go_bind (fun q9 hq9 => ?_)
    refine go_callS (rest := []) (st' := [.int q9.1]) (c' := 0) (s' := 0) (pc := 46) C O miX11_188 w_1505 [.ref a0, .int 0, .int 0, .int x5] rfl (mX11_comes hq9) dX11_goFork_46 ⟨by decide, by decide, by decide, by decide⟩ rfl (Nat.le_of_ble_eq_true rfl) rfl ⟨rfl, rfl⟩ ?_
    refine go_istore (ls' := [(4, .int q9.1), (3, .int x5), (2, .int q4), (0, .ref a0), (1, .int a1)]) (pc := 49) C dX11_goFork_49 (by decide) rfl ?_
    refine go_aload_n (pc := 51) C 3 dX11_goFork_51 rfl ?_
    refine go_sipush (pc := 52) C dX11_goFork_52 ks_264 ?_
    refine go_iload_n (pc := 55) C 1 dX11_goFork_55 rfl ?_
    refine go_iadd (pc := 56) C dX11_goFork_56 ?_
    refine go_iald (pc := 57) C dX11_goFork_57 (fun x10 => ?_)
    refine go_iconst (pc := 58) C dX11_goFork_58 ki_m1 ?_
    refine go_icmp_eq (pc := 59) C 77 dX11_goFork_59 (by decide) (fun _ => ?_) (fun _ => ?_)
    · refine go_sub (ls' := [(0, .ref a0), (2, .int q4), (3, .int x5), (4, .int q9.1)]) [3, 2, 1, 0] rfl ?_
      refine gX11_goFork_J77 C O E (fun h13 x11 x12 => ?_) q9.2 a0 q4 x5 q9.1
      · refine go_sub (ls' := [(0, .ref x11), (2, .int x12)]) [0, 1] rfl ?_
        refine gX11_goFork_J95 C O E h13 x11 x12
    · refine go_aload_n (pc := 62) C 3 dX11_goFork_62 rfl ?_
      refine go_sipush (pc := 63) C dX11_goFork_63 ks_192 ?_
      refine go_aload_n (pc := 66) C 3 dX11_goFork_66 rfl ?_
      refine go_sipush (pc := 67) C dX11_goFork_67 ks_264 ?_
      refine go_iload_n (pc := 70) C 1 dX11_goFork_70 rfl ?_
      refine go_iadd (pc := 71) C dX11_goFork_71 ?_
      refine go_iald (pc := 72) C dX11_goFork_72 (fun x14 => ?_)
      refine go_iadd (pc := 73) C dX11_goFork_73 ?_
      refine go_iload (pc := 74) C 0 dX11_goFork_74 rfl ?_
      refine go_iast (pc := 76) C dX11_goFork_76 (fun h15 => ?_)
      refine go_sub (ls' := [(0, .ref a0), (2, .int q4), (3, .int x5), (4, .int q9.1)]) [3, 2, 1, 0] rfl ?_
      refine gX11_goFork_J77 C O E (fun h18 x16 x17 => ?_) h15 a0 q4 x5 q9.1
      · refine go_sub (ls' := [(0, .ref x16), (2, .int x17)]) [0, 1] rfl ?_
        refine gX11_goFork_J95 C O E h18 x16 x17
theorem dX11_forks_0 : decode cX11_forks 0 = .ok (.aload_n 0, 1) := by decide +kernel
theorem dX11_forks_1 : decode cX11_forks 1 = .ok (.iconst 0, 1) := by decide +kernel
theorem dX11_forks_2 : decode cX11_forks 2 = .ok (.putfield 77, 3) := by decide +kernel
theorem dX11_forks_5 : decode cX11_forks 5 = .ok (.aload_n 0, 1) := by decide +kernel
theorem dX11_forks_6 : decode cX11_forks 6 = .ok (.getfield 9, 3) := by decide +kernel
theorem dX11_forks_9 : decode cX11_forks 9 = .ok (.iload_n 1, 1) := by decide +kernel
theorem dX11_forks_10 : decode cX11_forks 10 = .ok (.invokestatic 300, 3) := by decide +kernel
theorem dX11_forks_13 : decode cX11_forks 13 = .ok (.istore_n 2, 1) := by decide +kernel
theorem dX11_forks_14 : decode cX11_forks 14 = .ok (.iload_n 2, 1) := by decide +kernel
theorem dX11_forks_15 : decode cX11_forks 15 = .ok (.ifCond .ge 5, 3) := by decide +kernel
theorem dX11_forks_18 : decode cX11_forks 18 = .ok (.iload_n 2, 1) := by decide +kernel
theorem dX11_forks_19 : decode cX11_forks 19 = .ok (.ireturn, 1) := by decide +kernel
theorem dX11_forks_20 : decode cX11_forks 20 = .ok (.aload_n 0, 1) := by decide +kernel
theorem dX11_forks_21 : decode cX11_forks 21 = .ok (.aload_n 0, 1) := by decide +kernel
theorem dX11_forks_22 : decode cX11_forks 22 = .ok (.getfield 9, 3) := by decide +kernel
theorem dX11_forks_25 : decode cX11_forks 25 = .ok (.invokevirtual 184, 3) := by decide +kernel
theorem dX11_forks_28 : decode cX11_forks 28 = .ok (.aload_n 0, 1) := by decide +kernel
theorem dX11_forks_29 : decode cX11_forks 29 = .ok (.getfield 9, 3) := by decide +kernel
theorem dX11_forks_32 : decode cX11_forks 32 = .ok (.iload_n 1, 1) := by decide +kernel
theorem dX11_forks_33 : decode cX11_forks 33 = .ok (.invokestatic 303, 3) := by decide +kernel
theorem dX11_forks_36 : decode cX11_forks 36 = .ok (.ireturn, 1) := by decide +kernel
def fX11_forks (h : AH) (a0 : Nat) (a1 : Int32) : Option (Int32 × AH) :=
  if hasC h 11 a0 = true then (
    (pF h 11 a0 5 (.int 0)).bind fun h1 =>
    (gR h1 11 a0 0).bind fun x2 =>
    (fX11_refusesFork h1 x2 a1).bind fun q3 =>
    if 0 ≤ q3 then (
      (gR h1 11 a0 0).bind fun x4 =>
      (fX11_remember h1 a0 x4).bind fun q5 =>
      (gR q5 11 a0 0).bind fun x6 =>
      (fX11_goFork q5 x6 a1).bind fun q7 =>
      some ((q7.1, q7.2))
    ) else (
      some ((q3, h1))
    )
  ) else none
set_option maxHeartbeats 4000000 in
theorem mX11_forks {h : AH} {a0 : Nat} {a1 : Int32} {r : Int32 × AH} (hr : fX11_forks h a0 a1 = some r) : hasC h 11 a0 = true ∧ MC yX11_forks cX11_forks 3 (some .int) 5 0 0 [.ref a0, .int a1] h (some (.int r.1)) r.2 := by
  unfold fX11_forks at hr
  obtain ⟨hc, hr⟩ := if_some hr
  refine ⟨hc, mc_of (l0 := [(0, .ref a0), (1, .int a1)]) rfl pn_X11 (Nat.le_of_ble_eq_true rfl) (fun Y X C E O hnm => go_run hr ?_)⟩
  have C : CT Y X RX11 cX11_forks 3 := C
  refine go_aload_n (pc := 0) C 0 dX11_forks_0 rfl ?_
  refine go_iconst (pc := 1) C dX11_forks_1 ki_0 ?_
  refine go_pI (pc := 2) C fpX11_77 dX11_forks_2 (fun h1 => ?_)
  refine go_aload_n (pc := 5) C 0 dX11_forks_5 rfl ?_
  refine go_gR (pc := 6) C fdX11_9 dX11_forks_6 (fun x2 => ?_)
  refine go_iload_n (pc := 9) C 1 dX11_forks_9 rfl ?_
  refine go_bind (fun q3 hq3 => ?_)
  refine go_callS (rest := []) (st' := [.int q3]) (c' := 0) (s' := 0) (pc := 10) C O miX11_300 w_1665 [.ref x2, .int a1] rfl (mX11_refusesFork hq3) dX11_forks_10 ⟨by decide, by decide, by decide, by decide⟩ rfl (Nat.le_of_ble_eq_true rfl) rfl ⟨rfl, rfl⟩ ?_
  refine go_istore_n (ls' := [(2, .int q3), (0, .ref a0), (1, .int a1)]) (pc := 13) C dX11_forks_13 (by decide) rfl ?_
  refine go_iload_n (pc := 14) C 0 dX11_forks_14 rfl ?_
  refine go_if_ge (pc := 15) C 20 dX11_forks_15 (by decide) (fun _ => ?_) (fun _ => ?_)
  · refine go_aload_n (pc := 20) C 1 dX11_forks_20 rfl ?_
    refine go_aload_n (pc := 21) C 1 dX11_forks_21 rfl ?_
    refine go_gR (pc := 22) C fdX11_9 dX11_forks_22 (fun x4 => ?_)
    refine go_bind (fun q5 hq5 => ?_)
    refine go_callV (rest := []) (st' := []) (c' := 0) (s' := 0) (pc := 25) C O miX11_184 mvX11_remember [.ref x4] rfl (mX11_remember hq5).1 (mX11_remember hq5).2 dX11_forks_25 ⟨by decide, by decide, by decide, by decide⟩ rfl (Nat.le_of_ble_eq_true rfl) rfl ⟨rfl, rfl⟩ ?_
    refine go_aload_n (pc := 28) C 1 dX11_forks_28 rfl ?_
    refine go_gR (pc := 29) C fdX11_9 dX11_forks_29 (fun x6 => ?_)
    refine go_iload_n (pc := 32) C 2 dX11_forks_32 rfl ?_
    refine go_bind (fun q7 hq7 => ?_)
    refine go_callS (rest := []) (st' := [.int q7.1]) (c' := 0) (s' := 0) (pc := 33) C O miX11_303 w_1668 [.ref x6, .int a1] rfl (mX11_goFork hq7) dX11_forks_33 ⟨by decide, by decide, by decide, by decide⟩ rfl (Nat.le_of_ble_eq_true rfl) rfl ⟨rfl, rfl⟩ ?_
    exact go_iret (w := wIh) (pc := 36) C E ((q7.1, q7.2)) q7.1 dX11_forks_36 rfl
  · refine go_iload_n (pc := 18) C 0 dX11_forks_18 rfl ?_
    exact go_iret (w := wIh) (pc := 19) C E ((q3, h1)) q3 dX11_forks_19 rfl
theorem dX11_goEnd_0 : decode cX11_goEnd 0 = .ok (.aload_n 0, 1) := by decide +kernel
theorem dX11_goEnd_1 : decode cX11_goEnd 1 = .ok (.sipush 312, 3) := by decide +kernel
theorem dX11_goEnd_4 : decode cX11_goEnd 4 = .ok (.iload_n 1, 1) := by decide +kernel
theorem dX11_goEnd_5 : decode cX11_goEnd 5 = .ok (.iadd, 1) := by decide +kernel
theorem dX11_goEnd_6 : decode cX11_goEnd 6 = .ok (.iconst (-1), 1) := by decide +kernel
theorem dX11_goEnd_7 : decode cX11_goEnd 7 = .ok (.iastore, 1) := by decide +kernel
theorem dX11_goEnd_8 : decode cX11_goEnd 8 = .ok (.aload_n 0, 1) := by decide +kernel
theorem dX11_goEnd_9 : decode cX11_goEnd 9 = .ok (.sipush 318, 3) := by decide +kernel
theorem dX11_goEnd_12 : decode cX11_goEnd 12 = .ok (.iload_n 1, 1) := by decide +kernel
theorem dX11_goEnd_13 : decode cX11_goEnd 13 = .ok (.iadd, 1) := by decide +kernel
theorem dX11_goEnd_14 : decode cX11_goEnd 14 = .ok (.iconst 0, 1) := by decide +kernel
theorem dX11_goEnd_15 : decode cX11_goEnd 15 = .ok (.iastore, 1) := by decide +kernel
theorem dX11_goEnd_16 : decode cX11_goEnd 16 = .ok (.aload_n 0, 1) := by decide +kernel
theorem dX11_goEnd_17 : decode cX11_goEnd 17 = .ok (.invokestatic 306, 3) := by decide +kernel
theorem dX11_goEnd_20 : decode cX11_goEnd 20 = .ok (.ireturn, 1) := by decide +kernel
def fX11_goEnd (h : AH) (a0 : Nat) (a1 : Int32) : Option (Int32 × AH) :=
  (sI h 0 a0 (312 + a1) ((-1))).bind fun h1 =>
  (sI h1 0 a0 (318 + a1) 0).bind fun h2 =>
  (fX11_goFree h2 a0).bind fun q3 =>
  some ((q3.1, q3.2))
set_option maxHeartbeats 4000000 in
theorem mX11_goEnd {h : AH} {a0 : Nat} {a1 : Int32} {r : Int32 × AH} (hr : fX11_goEnd h a0 a1 = some r) : MC yX11_goEnd cX11_goEnd 2 (some .int) 4 0 0 [.ref a0, .int a1] h (some (.int r.1)) r.2 := by
  unfold fX11_goEnd at hr
  refine mc_of (l0 := [(0, .ref a0), (1, .int a1)]) rfl pn_X11 (Nat.le_of_ble_eq_true rfl) (fun Y X C E O hnm => go_run hr ?_)
  have C : CT Y X RX11 cX11_goEnd 2 := C
  refine go_aload_n (pc := 0) C 0 dX11_goEnd_0 rfl ?_
  refine go_sipush (pc := 1) C dX11_goEnd_1 ks_312 ?_
  refine go_iload_n (pc := 4) C 1 dX11_goEnd_4 rfl ?_
  refine go_iadd (pc := 5) C dX11_goEnd_5 ?_
  refine go_iconst (pc := 6) C dX11_goEnd_6 ki_m1 ?_
  refine go_iast (pc := 7) C dX11_goEnd_7 (fun h1 => ?_)
  refine go_aload_n (pc := 8) C 0 dX11_goEnd_8 rfl ?_
  refine go_sipush (pc := 9) C dX11_goEnd_9 ks_318 ?_
  refine go_iload_n (pc := 12) C 1 dX11_goEnd_12 rfl ?_
  refine go_iadd (pc := 13) C dX11_goEnd_13 ?_
  refine go_iconst (pc := 14) C dX11_goEnd_14 ki_0 ?_
  refine go_iast (pc := 15) C dX11_goEnd_15 (fun h2 => ?_)
  refine go_aload_n (pc := 16) C 0 dX11_goEnd_16 rfl ?_
  refine go_bind (fun q3 hq3 => ?_)
  refine go_callS (rest := []) (st' := [.int q3.1]) (c' := 0) (s' := 0) (pc := 17) C O miX11_306 w_1652 [.ref a0] rfl (mX11_goFree hq3) dX11_goEnd_17 ⟨by decide, by decide, by decide, by decide⟩ rfl (Nat.le_of_ble_eq_true rfl) rfl ⟨rfl, rfl⟩ ?_
  exact go_iret (w := wIh) (pc := 20) C E ((q3.1, q3.2)) q3.1 dX11_goEnd_20 rfl
theorem dX11_ends_0 : decode cX11_ends 0 = .ok (.aload_n 0, 1) := by decide +kernel
theorem dX11_ends_1 : decode cX11_ends 1 = .ok (.iconst 0, 1) := by decide +kernel
theorem dX11_ends_2 : decode cX11_ends 2 = .ok (.putfield 77, 3) := by decide +kernel
theorem dX11_ends_5 : decode cX11_ends 5 = .ok (.aload_n 0, 1) := by decide +kernel
theorem dX11_ends_6 : decode cX11_ends 6 = .ok (.getfield 9, 3) := by decide +kernel
theorem dX11_ends_9 : decode cX11_ends 9 = .ok (.iload_n 1, 1) := by decide +kernel
theorem dX11_ends_10 : decode cX11_ends 10 = .ok (.invokestatic 106, 3) := by decide +kernel
theorem dX11_ends_13 : decode cX11_ends 13 = .ok (.ifCond .ne 5, 3) := by decide +kernel
theorem dX11_ends_16 : decode cX11_ends 16 = .ok (.iconst (-1), 1) := by decide +kernel
theorem dX11_ends_17 : decode cX11_ends 17 = .ok (.ireturn, 1) := by decide +kernel
theorem dX11_ends_18 : decode cX11_ends 18 = .ok (.aload_n 0, 1) := by decide +kernel
theorem dX11_ends_19 : decode cX11_ends 19 = .ok (.aload_n 0, 1) := by decide +kernel
theorem dX11_ends_20 : decode cX11_ends 20 = .ok (.getfield 9, 3) := by decide +kernel
theorem dX11_ends_23 : decode cX11_ends 23 = .ok (.invokevirtual 184, 3) := by decide +kernel
theorem dX11_ends_26 : decode cX11_ends 26 = .ok (.aload_n 0, 1) := by decide +kernel
theorem dX11_ends_27 : decode cX11_ends 27 = .ok (.getfield 9, 3) := by decide +kernel
theorem dX11_ends_30 : decode cX11_ends 30 = .ok (.iload_n 1, 1) := by decide +kernel
theorem dX11_ends_31 : decode cX11_ends 31 = .ok (.invokestatic 309, 3) := by decide +kernel
theorem dX11_ends_34 : decode cX11_ends 34 = .ok (.ireturn, 1) := by decide +kernel
def fX11_ends (h : AH) (a0 : Nat) (a1 : Int32) : Option (Int32 × AH) :=
  if hasC h 11 a0 = true then (
    (pF h 11 a0 5 (.int 0)).bind fun h1 =>
    (gR h1 11 a0 0).bind fun x2 =>
    (fX11_isSpace h1 x2 a1).bind fun q3 =>
    if q3 = true then (
      (gR h1 11 a0 0).bind fun x4 =>
      (fX11_remember h1 a0 x4).bind fun q5 =>
      (gR q5 11 a0 0).bind fun x6 =>
      (fX11_goEnd q5 x6 a1).bind fun q7 =>
      some ((q7.1, q7.2))
    ) else (
      some (((-1), h1))
    )
  ) else none
set_option maxHeartbeats 4000000 in
theorem mX11_ends {h : AH} {a0 : Nat} {a1 : Int32} {r : Int32 × AH} (hr : fX11_ends h a0 a1 = some r) : hasC h 11 a0 = true ∧ MC yX11_ends cX11_ends 2 (some .int) 5 0 0 [.ref a0, .int a1] h (some (.int r.1)) r.2 := by
  unfold fX11_ends at hr
  obtain ⟨hc, hr⟩ := if_some hr
  refine ⟨hc, mc_of (l0 := [(0, .ref a0), (1, .int a1)]) rfl pn_X11 (Nat.le_of_ble_eq_true rfl) (fun Y X C E O hnm => go_run hr ?_)⟩
  have C : CT Y X RX11 cX11_ends 2 := C
  refine go_aload_n (pc := 0) C 0 dX11_ends_0 rfl ?_
  refine go_iconst (pc := 1) C dX11_ends_1 ki_0 ?_
  refine go_pI (pc := 2) C fpX11_77 dX11_ends_2 (fun h1 => ?_)
  refine go_aload_n (pc := 5) C 0 dX11_ends_5 rfl ?_
  refine go_gR (pc := 6) C fdX11_9 dX11_ends_6 (fun x2 => ?_)
  refine go_iload_n (pc := 9) C 1 dX11_ends_9 rfl ?_
  refine go_bind (fun q3 hq3 => ?_)
  refine go_callS (rest := []) (st' := [.int (b2i q3)]) (c' := 0) (s' := 0) (pc := 10) C O miX11_106 w_1479 [.ref x2, .int a1] rfl (mX11_isSpace hq3) dX11_ends_10 ⟨by decide, by decide, by decide, by decide⟩ rfl (Nat.le_of_ble_eq_true rfl) rfl ⟨rfl, rfl⟩ ?_
  refine go_ifZ_ne (pc := 13) C 18 dX11_ends_13 (by decide) (fun _ => ?_) (fun _ => ?_)
  · refine go_aload_n (pc := 18) C 0 dX11_ends_18 rfl ?_
    refine go_aload_n (pc := 19) C 0 dX11_ends_19 rfl ?_
    refine go_gR (pc := 20) C fdX11_9 dX11_ends_20 (fun x4 => ?_)
    refine go_bind (fun q5 hq5 => ?_)
    refine go_callV (rest := []) (st' := []) (c' := 0) (s' := 0) (pc := 23) C O miX11_184 mvX11_remember [.ref x4] rfl (mX11_remember hq5).1 (mX11_remember hq5).2 dX11_ends_23 ⟨by decide, by decide, by decide, by decide⟩ rfl (Nat.le_of_ble_eq_true rfl) rfl ⟨rfl, rfl⟩ ?_
    refine go_aload_n (pc := 26) C 0 dX11_ends_26 rfl ?_
    refine go_gR (pc := 27) C fdX11_9 dX11_ends_27 (fun x6 => ?_)
    refine go_iload_n (pc := 30) C 1 dX11_ends_30 rfl ?_
    refine go_bind (fun q7 hq7 => ?_)
    refine go_callS (rest := []) (st' := [.int q7.1]) (c' := 0) (s' := 0) (pc := 31) C O miX11_309 w_1675 [.ref x6, .int a1] rfl (mX11_goEnd hq7) dX11_ends_31 ⟨by decide, by decide, by decide, by decide⟩ rfl (Nat.le_of_ble_eq_true rfl) rfl ⟨rfl, rfl⟩ ?_
    exact go_iret (w := wIh) (pc := 34) C E ((q7.1, q7.2)) q7.1 dX11_ends_34 rfl
  · refine go_iconst (pc := 16) C dX11_ends_16 ki_m1 ?_
    exact go_iret (w := wIh) (pc := 17) C E (((-1), h1)) ((-1)) dX11_ends_17 rfl
theorem dX11_refusesArrival_0 : decode cX11_refusesArrival 0 = .ok (.aload_n 0, 1) := by decide +kernel
theorem dX11_refusesArrival_1 : decode cX11_refusesArrival 1 = .ok (.iload_n 1, 1) := by decide +kernel
theorem dX11_refusesArrival_2 : decode cX11_refusesArrival 2 = .ok (.invokevirtual 242, 3) := by decide +kernel
theorem dX11_refusesArrival_5 : decode cX11_refusesArrival 5 = .ok (.ifCond .eq 20, 3) := by decide +kernel
theorem dX11_refusesArrival_8 : decode cX11_refusesArrival 8 = .ok (.iload_n 2, 1) := by decide +kernel
theorem dX11_refusesArrival_9 : decode cX11_refusesArrival 9 = .ok (.invokestatic 249, 3) := by decide +kernel
theorem dX11_refusesArrival_12 : decode cX11_refusesArrival 12 = .ok (.ifCond .eq 13, 3) := by decide +kernel
theorem dX11_refusesArrival_15 : decode cX11_refusesArrival 15 = .ok (.iload_n 3, 1) := by decide +kernel
theorem dX11_refusesArrival_16 : decode cX11_refusesArrival 16 = .ok (.iconst 0, 1) := by decide +kernel
theorem dX11_refusesArrival_17 : decode cX11_refusesArrival 17 = .ok (.bipush 99, 2) := by decide +kernel
theorem dX11_refusesArrival_19 : decode cX11_refusesArrival 19 = .ok (.invokestatic 84, 3) := by decide +kernel
theorem dX11_refusesArrival_22 : decode cX11_refusesArrival 22 = .ok (.ifCond .ne 5, 3) := by decide +kernel
theorem dX11_refusesArrival_25 : decode cX11_refusesArrival 25 = .ok (.iconst (-1), 1) := by decide +kernel
theorem dX11_refusesArrival_26 : decode cX11_refusesArrival 26 = .ok (.ireturn, 1) := by decide +kernel
theorem dX11_refusesArrival_27 : decode cX11_refusesArrival 27 = .ok (.aload_n 0, 1) := by decide +kernel
theorem dX11_refusesArrival_28 : decode cX11_refusesArrival 28 = .ok (.getfield 9, 3) := by decide +kernel
theorem dX11_refusesArrival_31 : decode cX11_refusesArrival 31 = .ok (.sipush 288, 3) := by decide +kernel
theorem dX11_refusesArrival_34 : decode cX11_refusesArrival 34 = .ok (.iload_n 1, 1) := by decide +kernel
theorem dX11_refusesArrival_35 : decode cX11_refusesArrival 35 = .ok (.iadd, 1) := by decide +kernel
theorem dX11_refusesArrival_36 : decode cX11_refusesArrival 36 = .ok (.iaload, 1) := by decide +kernel
theorem dX11_refusesArrival_37 : decode cX11_refusesArrival 37 = .ok (.iload_n 2, 1) := by decide +kernel
theorem dX11_refusesArrival_38 : decode cX11_refusesArrival 38 = .ok (.invokestatic 312, 3) := by decide +kernel
theorem dX11_refusesArrival_41 : decode cX11_refusesArrival 41 = .ok (.ifCond .ne 6, 3) := by decide +kernel
theorem dX11_refusesArrival_44 : decode cX11_refusesArrival 44 = .ok (.bipush (-2), 2) := by decide +kernel
theorem dX11_refusesArrival_46 : decode cX11_refusesArrival 46 = .ok (.ireturn, 1) := by decide +kernel
theorem dX11_refusesArrival_47 : decode cX11_refusesArrival 47 = .ok (.aload_n 0, 1) := by decide +kernel
theorem dX11_refusesArrival_48 : decode cX11_refusesArrival 48 = .ok (.getfield 9, 3) := by decide +kernel
theorem dX11_refusesArrival_51 : decode cX11_refusesArrival 51 = .ok (.invokestatic 181, 3) := by decide +kernel
theorem dX11_refusesArrival_54 : decode cX11_refusesArrival 54 = .ok (.bipush 64, 2) := by decide +kernel
theorem dX11_refusesArrival_56 : decode cX11_refusesArrival 56 = .ok (.if_icmp .ne 8, 3) := by decide +kernel
theorem dX11_refusesArrival_59 : decode cX11_refusesArrival 59 = .ok (.bipush (-5), 2) := by decide +kernel
theorem dX11_refusesArrival_61 : decode cX11_refusesArrival 61 = .ok (.goto 4, 3) := by decide +kernel
theorem dX11_refusesArrival_64 : decode cX11_refusesArrival 64 = .ok (.iconst 0, 1) := by decide +kernel
theorem dX11_refusesArrival_65 : decode cX11_refusesArrival 65 = .ok (.ireturn, 1) := by decide +kernel
def fX11_refusesArrival (h : AH) (a0 : Nat) (a1 : Int32) (a2 : Int32) (a3 : Int32) : Option (Int32) :=
  if hasC h 11 a0 = true then (
    (fX11_isObject h a0 a1).bind fun q1 =>
    if q1 = true then (
      (fX11_isPage h a2).bind fun q2 =>
      if q2 = true then (
        (fX11_in h a3 0 99).bind fun q3 =>
        if q3 = true then (
          (gR h 11 a0 0).bind fun x4 =>
          (aI h 0 x4 (288 + a1)).bind fun x5 =>
          (fX11_has h x5 a2).bind fun q6 =>
          if q6 = true then (
            (gR h 11 a0 0).bind fun x7 =>
            (fX11_framesOf h x7).bind fun q8 =>
            if q8 = 64 then (
              some ((-5))
            ) else (
              some 0
            )
          ) else (
            some ((-2))
          )
        ) else (
          some ((-1))
        )
      ) else (
        some ((-1))
      )
    ) else (
      some ((-1))
    )
  ) else none
set_option maxHeartbeats 4000000 in
theorem mX11_refusesArrival {h : AH} {a0 : Nat} {a1 : Int32} {a2 : Int32} {a3 : Int32} {r : Int32} (hr : fX11_refusesArrival h a0 a1 a2 a3 = some r) : hasC h 11 a0 = true ∧ MC yX11_refusesArrival cX11_refusesArrival 4 (some .int) 4 0 0 [.ref a0, .int a1, .int a2, .int a3] h (some (.int r)) h := by
  unfold fX11_refusesArrival at hr
  obtain ⟨hc, hr⟩ := if_some hr
  refine ⟨hc, mc_of (l0 := [(0, .ref a0), (1, .int a1), (2, .int a2), (3, .int a3)]) rfl pn_X11 (Nat.le_of_ble_eq_true rfl) (fun Y X C E O hnm => go_run hr ?_)⟩
  have C : CT Y X RX11 cX11_refusesArrival 4 := C
  refine go_aload_n (pc := 0) C 0 dX11_refusesArrival_0 rfl ?_
  refine go_iload_n (pc := 1) C 1 dX11_refusesArrival_1 rfl ?_
  refine go_bind (fun q1 hq1 => ?_)
  refine go_callV (rest := []) (st' := [.int (b2i q1)]) (c' := 0) (s' := 0) (pc := 2) C O miX11_242 mvX11_isObject [.int a1] rfl (mX11_isObject hq1).1 (mX11_isObject hq1).2 dX11_refusesArrival_2 ⟨by decide, by decide, by decide, by decide⟩ rfl (Nat.le_of_ble_eq_true rfl) rfl ⟨rfl, rfl⟩ ?_
  refine go_ifZ_eq (pc := 5) C 25 dX11_refusesArrival_5 (by decide) (fun _ => ?_) (fun _ => ?_)
  · refine go_iload_n (pc := 8) C 2 dX11_refusesArrival_8 rfl ?_
    refine go_bind (fun q2 hq2 => ?_)
    refine go_callS (rest := []) (st' := [.int (b2i q2)]) (c' := 0) (s' := 0) (pc := 9) C O miX11_249 w_1585 [.int a2] rfl (mX11_isPage hq2) dX11_refusesArrival_9 ⟨by decide, by decide, by decide, by decide⟩ rfl (Nat.le_of_ble_eq_true rfl) rfl ⟨rfl, rfl⟩ ?_
    refine go_ifZ_eq (pc := 12) C 25 dX11_refusesArrival_12 (by decide) (fun _ => ?_) (fun _ => ?_)
    · refine go_iload_n (pc := 15) C 3 dX11_refusesArrival_15 rfl ?_
      refine go_iconst (pc := 16) C dX11_refusesArrival_16 ki_0 ?_
      refine go_bipush (pc := 17) C dX11_refusesArrival_17 kb_99 ?_
      refine go_bind (fun q3 hq3 => ?_)
      refine go_callS (rest := []) (st' := [.int (b2i q3)]) (c' := 0) (s' := 0) (pc := 19) C O miX11_84 w_1437 [.int a3, .int 0, .int 99] rfl (mX11_in hq3) dX11_refusesArrival_19 ⟨by decide, by decide, by decide, by decide⟩ rfl (Nat.le_of_ble_eq_true rfl) rfl ⟨rfl, rfl⟩ ?_
      refine go_ifZ_ne (pc := 22) C 27 dX11_refusesArrival_22 (by decide) (fun _ => ?_) (fun _ => ?_)
      · refine go_aload_n (pc := 27) C 0 dX11_refusesArrival_27 rfl ?_
        refine go_gR (pc := 28) C fdX11_9 dX11_refusesArrival_28 (fun x4 => ?_)
        refine go_sipush (pc := 31) C dX11_refusesArrival_31 ks_288 ?_
        refine go_iload_n (pc := 34) C 1 dX11_refusesArrival_34 rfl ?_
        refine go_iadd (pc := 35) C dX11_refusesArrival_35 ?_
        refine go_iald (pc := 36) C dX11_refusesArrival_36 (fun x5 => ?_)
        refine go_iload_n (pc := 37) C 2 dX11_refusesArrival_37 rfl ?_
        refine go_bind (fun q6 hq6 => ?_)
        refine go_callS (rest := []) (st' := [.int (b2i q6)]) (c' := 0) (s' := 0) (pc := 38) C O miX11_312 w_1686 [.int x5, .int a2] rfl (mX11_has hq6) dX11_refusesArrival_38 ⟨by decide, by decide, by decide, by decide⟩ rfl (Nat.le_of_ble_eq_true rfl) rfl ⟨rfl, rfl⟩ ?_
        refine go_ifZ_ne (pc := 41) C 47 dX11_refusesArrival_41 (by decide) (fun _ => ?_) (fun _ => ?_)
        · refine go_aload_n (pc := 47) C 0 dX11_refusesArrival_47 rfl ?_
          refine go_gR (pc := 48) C fdX11_9 dX11_refusesArrival_48 (fun x7 => ?_)
          refine go_bind (fun q8 hq8 => ?_)
          refine go_callS (rest := []) (st' := [.int q8]) (c' := 0) (s' := 0) (pc := 51) C O miX11_181 w_1488 [.ref x7] rfl (mX11_framesOf hq8) dX11_refusesArrival_51 ⟨by decide, by decide, by decide, by decide⟩ rfl (Nat.le_of_ble_eq_true rfl) rfl ⟨rfl, rfl⟩ ?_
          refine go_bipush (pc := 54) C dX11_refusesArrival_54 kb_64 ?_
          refine go_icmp_ne (pc := 56) C 64 dX11_refusesArrival_56 (by decide) (fun _ => ?_) (fun _ => ?_)
          · refine go_bipush (pc := 59) C dX11_refusesArrival_59 kb_m5 ?_
            refine go_goto (pc := 61) C 65 dX11_refusesArrival_61 (by decide) ?_
            exact go_iret (w := (wI h)) (pc := 65) C E ((-5)) ((-5)) dX11_refusesArrival_65 rfl
          · refine go_iconst (pc := 64) C dX11_refusesArrival_64 ki_0 ?_
            exact go_iret (w := (wI h)) (pc := 65) C E 0 0 dX11_refusesArrival_65 rfl
        · refine go_bipush (pc := 44) C dX11_refusesArrival_44 kb_m2 ?_
          exact go_iret (w := (wI h)) (pc := 46) C E ((-2)) ((-2)) dX11_refusesArrival_46 rfl
      · refine go_iconst (pc := 25) C dX11_refusesArrival_25 ki_m1 ?_
        exact go_iret (w := (wI h)) (pc := 26) C E ((-1)) ((-1)) dX11_refusesArrival_26 rfl
    · refine go_iconst (pc := 25) C dX11_refusesArrival_25 ki_m1 ?_
      exact go_iret (w := (wI h)) (pc := 26) C E ((-1)) ((-1)) dX11_refusesArrival_26 rfl
  · refine go_iconst (pc := 25) C dX11_refusesArrival_25 ki_m1 ?_
    exact go_iret (w := (wI h)) (pc := 26) C E ((-1)) ((-1)) dX11_refusesArrival_26 rfl
theorem dX11_goArrive_0 : decode cX11_goArrive 0 = .ok (.aload_n 0, 1) := by decide +kernel
theorem dX11_goArrive_1 : decode cX11_goArrive 1 = .ok (.getfield 9, 3) := by decide +kernel
theorem dX11_goArrive_4 : decode cX11_goArrive 4 = .ok (.bipush 8, 2) := by decide +kernel
theorem dX11_goArrive_6 : decode cX11_goArrive 6 = .ok (.iload_n 1, 1) := by decide +kernel
theorem dX11_goArrive_7 : decode cX11_goArrive 7 = .ok (.imul, 1) := by decide +kernel
theorem dX11_goArrive_8 : decode cX11_goArrive 8 = .ok (.iload_n 2, 1) := by decide +kernel
theorem dX11_goArrive_9 : decode cX11_goArrive 9 = .ok (.iadd, 1) := by decide +kernel
theorem dX11_goArrive_10 : decode cX11_goArrive 10 = .ok (.iload_n 3, 1) := by decide +kernel
theorem dX11_goArrive_11 : decode cX11_goArrive 11 = .ok (.iastore, 1) := by decide +kernel
theorem dX11_goArrive_12 : decode cX11_goArrive 12 = .ok (.aload_n 0, 1) := by decide +kernel
theorem dX11_goArrive_13 : decode cX11_goArrive 13 = .ok (.getfield 9, 3) := by decide +kernel
theorem dX11_goArrive_16 : decode cX11_goArrive 16 = .ok (.sipush 288, 3) := by decide +kernel
theorem dX11_goArrive_19 : decode cX11_goArrive 19 = .ok (.iload_n 1, 1) := by decide +kernel
theorem dX11_goArrive_20 : decode cX11_goArrive 20 = .ok (.iadd, 1) := by decide +kernel
theorem dX11_goArrive_21 : decode cX11_goArrive 21 = .ok (.dup2, 1) := by decide +kernel
theorem dX11_goArrive_22 : decode cX11_goArrive 22 = .ok (.iaload, 1) := by decide +kernel
theorem dX11_goArrive_23 : decode cX11_goArrive 23 = .ok (.iconst 1, 1) := by decide +kernel
theorem dX11_goArrive_24 : decode cX11_goArrive 24 = .ok (.iload_n 2, 1) := by decide +kernel
theorem dX11_goArrive_25 : decode cX11_goArrive 25 = .ok (.ishl, 1) := by decide +kernel
theorem dX11_goArrive_26 : decode cX11_goArrive 26 = .ok (.iconst (-1), 1) := by decide +kernel
theorem dX11_goArrive_27 : decode cX11_goArrive 27 = .ok (.ixor, 1) := by decide +kernel
theorem dX11_goArrive_28 : decode cX11_goArrive 28 = .ok (.iand, 1) := by decide +kernel
theorem dX11_goArrive_29 : decode cX11_goArrive 29 = .ok (.iastore, 1) := by decide +kernel
theorem dX11_goArrive_30 : decode cX11_goArrive 30 = .ok (.aload_n 0, 1) := by decide +kernel
theorem dX11_goArrive_31 : decode cX11_goArrive 31 = .ok (.getfield 9, 3) := by decide +kernel
theorem dX11_goArrive_34 : decode cX11_goArrive 34 = .ok (.sipush 288, 3) := by decide +kernel
theorem dX11_goArrive_37 : decode cX11_goArrive 37 = .ok (.iload_n 1, 1) := by decide +kernel
theorem dX11_goArrive_38 : decode cX11_goArrive 38 = .ok (.iadd, 1) := by decide +kernel
theorem dX11_goArrive_39 : decode cX11_goArrive 39 = .ok (.iaload, 1) := by decide +kernel
theorem dX11_goArrive_40 : decode cX11_goArrive 40 = .ok (.invokestatic 100, 3) := by decide +kernel
theorem dX11_goArrive_43 : decode cX11_goArrive 43 = .ok (.ireturn, 1) := by decide +kernel
def fX11_goArrive (h : AH) (a0 : Nat) (a1 : Int32) (a2 : Int32) (a3 : Int32) : Option (Int32 × AH) :=
  if hasC h 11 a0 = true then (
    (gR h 11 a0 0).bind fun x1 =>
    (sI h 0 x1 ((8 * a1) + a2) a3).bind fun h2 =>
    (gR h2 11 a0 0).bind fun x3 =>
    (aI h2 0 x3 (288 + a1)).bind fun x4 =>
    (sI h2 0 x3 (288 + a1) (x4 &&& ((1 <<< (a2 &&& 31)) ^^^ ((-1))))).bind fun h5 =>
    (gR h5 11 a0 0).bind fun x6 =>
    (aI h5 0 x6 (288 + a1)).bind fun x7 =>
    (fJ6_bitCount_0f7a4 h5 x7).bind fun q8 =>
    some ((q8, h5))
  ) else none
set_option maxHeartbeats 4000000 in
theorem mX11_goArrive {h : AH} {a0 : Nat} {a1 : Int32} {a2 : Int32} {a3 : Int32} {r : Int32 × AH} (hr : fX11_goArrive h a0 a1 a2 a3 = some r) : hasC h 11 a0 = true ∧ MC yX11_goArrive cX11_goArrive 4 (some .int) 2 0 0 [.ref a0, .int a1, .int a2, .int a3] h (some (.int r.1)) r.2 := by
  unfold fX11_goArrive at hr
  obtain ⟨hc, hr⟩ := if_some hr
  refine ⟨hc, mc_of (l0 := [(0, .ref a0), (1, .int a1), (2, .int a2), (3, .int a3)]) rfl pn_X11 (Nat.le_of_ble_eq_true rfl) (fun Y X C E O hnm => go_run hr ?_)⟩
  have C : CT Y X RX11 cX11_goArrive 4 := C
  refine go_aload_n (pc := 0) C 0 dX11_goArrive_0 rfl ?_
  refine go_gR (pc := 1) C fdX11_9 dX11_goArrive_1 (fun x1 => ?_)
  refine go_bipush (pc := 4) C dX11_goArrive_4 kb_8 ?_
  refine go_iload_n (pc := 6) C 1 dX11_goArrive_6 rfl ?_
  refine go_imul (pc := 7) C dX11_goArrive_7 ?_
  refine go_iload_n (pc := 8) C 2 dX11_goArrive_8 rfl ?_
  refine go_iadd (pc := 9) C dX11_goArrive_9 ?_
  refine go_iload_n (pc := 10) C 3 dX11_goArrive_10 rfl ?_
  refine go_iast (pc := 11) C dX11_goArrive_11 (fun h2 => ?_)
  refine go_aload_n (pc := 12) C 0 dX11_goArrive_12 rfl ?_
  refine go_gR (pc := 13) C fdX11_9 dX11_goArrive_13 (fun x3 => ?_)
  refine go_sipush (pc := 16) C dX11_goArrive_16 ks_288 ?_
  refine go_iload_n (pc := 19) C 1 dX11_goArrive_19 rfl ?_
  refine go_iadd (pc := 20) C dX11_goArrive_20 ?_
  refine go_dup2 (pc := 21) C dX11_goArrive_21 rfl rfl ?_
  refine go_iald (pc := 22) C dX11_goArrive_22 (fun x4 => ?_)
  refine go_iconst (pc := 23) C dX11_goArrive_23 ki_1 ?_
  refine go_iload_n (pc := 24) C 2 dX11_goArrive_24 rfl ?_
  refine go_ishl (pc := 25) C dX11_goArrive_25 ?_
  refine go_iconst (pc := 26) C dX11_goArrive_26 ki_m1 ?_
  refine go_ixor (pc := 27) C dX11_goArrive_27 ?_
  refine go_iand (pc := 28) C dX11_goArrive_28 ?_
  refine go_iast (pc := 29) C dX11_goArrive_29 (fun h5 => ?_)
  refine go_aload_n (pc := 30) C 0 dX11_goArrive_30 rfl ?_
  refine go_gR (pc := 31) C fdX11_9 dX11_goArrive_31 (fun x6 => ?_)
  refine go_sipush (pc := 34) C dX11_goArrive_34 ks_288 ?_
  refine go_iload_n (pc := 37) C 1 dX11_goArrive_37 rfl ?_
  refine go_iadd (pc := 38) C dX11_goArrive_38 ?_
  refine go_iald (pc := 39) C dX11_goArrive_39 (fun x7 => ?_)
  refine go_bind (fun q8 hq8 => ?_)
  refine go_callS (rest := []) (st' := [.int q8]) (c' := 0) (s' := 0) (pc := 40) C O miX11_100 w_397 [.int x7] rfl (mJ6_bitCount_0f7a4 hq8) dX11_goArrive_40 ⟨by decide, by decide, by decide, by decide⟩ rfl (Nat.le_of_ble_eq_true rfl) rfl ⟨rfl, rfl⟩ ?_
  exact go_iret (w := wIh) (pc := 43) C E ((q8, h5)) q8 dX11_goArrive_43 rfl
theorem dX11_arrives_0 : decode cX11_arrives 0 = .ok (.aload_n 0, 1) := by decide +kernel
theorem dX11_arrives_1 : decode cX11_arrives 1 = .ok (.iconst 0, 1) := by decide +kernel
theorem dX11_arrives_2 : decode cX11_arrives 2 = .ok (.putfield 77, 3) := by decide +kernel
theorem dX11_arrives_5 : decode cX11_arrives 5 = .ok (.aload_n 0, 1) := by decide +kernel
theorem dX11_arrives_6 : decode cX11_arrives 6 = .ok (.iload_n 1, 1) := by decide +kernel
theorem dX11_arrives_7 : decode cX11_arrives 7 = .ok (.iload_n 2, 1) := by decide +kernel
theorem dX11_arrives_8 : decode cX11_arrives 8 = .ok (.iload_n 3, 1) := by decide +kernel
theorem dX11_arrives_9 : decode cX11_arrives 9 = .ok (.invokevirtual 316, 3) := by decide +kernel
theorem dX11_arrives_12 : decode cX11_arrives 12 = .ok (.istore 4, 2) := by decide +kernel
theorem dX11_arrives_14 : decode cX11_arrives 14 = .ok (.iload 4, 2) := by decide +kernel
theorem dX11_arrives_16 : decode cX11_arrives 16 = .ok (.ifCond .ge 6, 3) := by decide +kernel
theorem dX11_arrives_19 : decode cX11_arrives 19 = .ok (.iload 4, 2) := by decide +kernel
theorem dX11_arrives_21 : decode cX11_arrives 21 = .ok (.ireturn, 1) := by decide +kernel
theorem dX11_arrives_22 : decode cX11_arrives 22 = .ok (.aload_n 0, 1) := by decide +kernel
theorem dX11_arrives_23 : decode cX11_arrives 23 = .ok (.aload_n 0, 1) := by decide +kernel
theorem dX11_arrives_24 : decode cX11_arrives 24 = .ok (.getfield 9, 3) := by decide +kernel
theorem dX11_arrives_27 : decode cX11_arrives 27 = .ok (.invokevirtual 184, 3) := by decide +kernel
theorem dX11_arrives_30 : decode cX11_arrives 30 = .ok (.aload_n 0, 1) := by decide +kernel
theorem dX11_arrives_31 : decode cX11_arrives 31 = .ok (.iload_n 1, 1) := by decide +kernel
theorem dX11_arrives_32 : decode cX11_arrives 32 = .ok (.iload_n 2, 1) := by decide +kernel
theorem dX11_arrives_33 : decode cX11_arrives 33 = .ok (.iload_n 3, 1) := by decide +kernel
theorem dX11_arrives_34 : decode cX11_arrives 34 = .ok (.invokevirtual 320, 3) := by decide +kernel
theorem dX11_arrives_37 : decode cX11_arrives 37 = .ok (.ireturn, 1) := by decide +kernel
def fX11_arrives (h : AH) (a0 : Nat) (a1 : Int32) (a2 : Int32) (a3 : Int32) : Option (Int32 × AH) :=
  if hasC h 11 a0 = true then (
    (pF h 11 a0 5 (.int 0)).bind fun h1 =>
    (fX11_refusesArrival h1 a0 a1 a2 a3).bind fun q2 =>
    if 0 ≤ q2 then (
      (gR h1 11 a0 0).bind fun x3 =>
      (fX11_remember h1 a0 x3).bind fun q4 =>
      (fX11_goArrive q4 a0 a1 a2 a3).bind fun q5 =>
      some ((q5.1, q5.2))
    ) else (
      some ((q2, h1))
    )
  ) else none
set_option maxHeartbeats 4000000 in
theorem mX11_arrives {h : AH} {a0 : Nat} {a1 : Int32} {a2 : Int32} {a3 : Int32} {r : Int32 × AH} (hr : fX11_arrives h a0 a1 a2 a3 = some r) : hasC h 11 a0 = true ∧ MC yX11_arrives cX11_arrives 5 (some .int) 5 0 0 [.ref a0, .int a1, .int a2, .int a3] h (some (.int r.1)) r.2 := by
  unfold fX11_arrives at hr
  obtain ⟨hc, hr⟩ := if_some hr
  refine ⟨hc, mc_of (l0 := [(0, .ref a0), (1, .int a1), (2, .int a2), (3, .int a3)]) rfl pn_X11 (Nat.le_of_ble_eq_true rfl) (fun Y X C E O hnm => go_run hr ?_)⟩
  have C : CT Y X RX11 cX11_arrives 5 := C
  refine go_aload_n (pc := 0) C 0 dX11_arrives_0 rfl ?_
  refine go_iconst (pc := 1) C dX11_arrives_1 ki_0 ?_
  refine go_pI (pc := 2) C fpX11_77 dX11_arrives_2 (fun h1 => ?_)
  refine go_aload_n (pc := 5) C 0 dX11_arrives_5 rfl ?_
  refine go_iload_n (pc := 6) C 1 dX11_arrives_6 rfl ?_
  refine go_iload_n (pc := 7) C 2 dX11_arrives_7 rfl ?_
  refine go_iload_n (pc := 8) C 3 dX11_arrives_8 rfl ?_
  refine go_bind (fun q2 hq2 => ?_)
  refine go_callV (rest := []) (st' := [.int q2]) (c' := 0) (s' := 0) (pc := 9) C O miX11_316 mvX11_refusesArrival [.int a1, .int a2, .int a3] rfl (mX11_refusesArrival hq2).1 (mX11_refusesArrival hq2).2 dX11_arrives_9 ⟨by decide, by decide, by decide, by decide⟩ rfl (Nat.le_of_ble_eq_true rfl) rfl ⟨rfl, rfl⟩ ?_
  refine go_istore (ls' := [(4, .int q2), (0, .ref a0), (1, .int a1), (2, .int a2), (3, .int a3)]) (pc := 12) C dX11_arrives_12 (by decide) rfl ?_
  refine go_iload (pc := 14) C 0 dX11_arrives_14 rfl ?_
  refine go_if_ge (pc := 16) C 22 dX11_arrives_16 (by decide) (fun _ => ?_) (fun _ => ?_)
  · refine go_aload_n (pc := 22) C 1 dX11_arrives_22 rfl ?_
    refine go_aload_n (pc := 23) C 1 dX11_arrives_23 rfl ?_
    refine go_gR (pc := 24) C fdX11_9 dX11_arrives_24 (fun x3 => ?_)
    refine go_bind (fun q4 hq4 => ?_)
    refine go_callV (rest := []) (st' := []) (c' := 0) (s' := 0) (pc := 27) C O miX11_184 mvX11_remember [.ref x3] rfl (mX11_remember hq4).1 (mX11_remember hq4).2 dX11_arrives_27 ⟨by decide, by decide, by decide, by decide⟩ rfl (Nat.le_of_ble_eq_true rfl) rfl ⟨rfl, rfl⟩ ?_
    refine go_aload_n (pc := 30) C 1 dX11_arrives_30 rfl ?_
    refine go_iload_n (pc := 31) C 2 dX11_arrives_31 rfl ?_
    refine go_iload_n (pc := 32) C 3 dX11_arrives_32 rfl ?_
    refine go_iload_n (pc := 33) C 4 dX11_arrives_33 rfl ?_
    refine go_bind (fun q5 hq5 => ?_)
    refine go_callV (rest := []) (st' := [.int q5.1]) (c' := 0) (s' := 0) (pc := 34) C O miX11_320 mvX11_goArrive [.int a1, .int a2, .int a3] rfl (mX11_goArrive hq5).1 (mX11_goArrive hq5).2 dX11_arrives_34 ⟨by decide, by decide, by decide, by decide⟩ rfl (Nat.le_of_ble_eq_true rfl) rfl ⟨rfl, rfl⟩ ?_
    exact go_iret (w := wIh) (pc := 37) C E ((q5.1, q5.2)) q5.1 dX11_arrives_37 rfl
  · refine go_iload (pc := 19) C 0 dX11_arrives_19 rfl ?_
    exact go_iret (w := wIh) (pc := 21) C E ((q2, h1)) q2 dX11_arrives_21 rfl
theorem dX11_tidies_0 : decode cX11_tidies 0 = .ok (.aload_n 0, 1) := by decide +kernel
theorem dX11_tidies_1 : decode cX11_tidies 1 = .ok (.iconst 0, 1) := by decide +kernel
theorem dX11_tidies_2 : decode cX11_tidies 2 = .ok (.putfield 77, 3) := by decide +kernel
theorem dX11_tidies_5 : decode cX11_tidies 5 = .ok (.aload_n 0, 1) := by decide +kernel
theorem dX11_tidies_6 : decode cX11_tidies 6 = .ok (.getfield 9, 3) := by decide +kernel
theorem dX11_tidies_9 : decode cX11_tidies 9 = .ok (.iload_n 1, 1) := by decide +kernel
theorem dX11_tidies_10 : decode cX11_tidies 10 = .ok (.invokestatic 106, 3) := by decide +kernel
theorem dX11_tidies_13 : decode cX11_tidies 13 = .ok (.ifCond .ne 5, 3) := by decide +kernel
theorem dX11_tidies_16 : decode cX11_tidies 16 = .ok (.iconst (-1), 1) := by decide +kernel
theorem dX11_tidies_17 : decode cX11_tidies 17 = .ok (.ireturn, 1) := by decide +kernel
theorem dX11_tidies_18 : decode cX11_tidies 18 = .ok (.aload_n 0, 1) := by decide +kernel
theorem dX11_tidies_19 : decode cX11_tidies 19 = .ok (.aload_n 0, 1) := by decide +kernel
theorem dX11_tidies_20 : decode cX11_tidies 20 = .ok (.getfield 9, 3) := by decide +kernel
theorem dX11_tidies_23 : decode cX11_tidies 23 = .ok (.invokevirtual 184, 3) := by decide +kernel
theorem dX11_tidies_26 : decode cX11_tidies 26 = .ok (.aload_n 0, 1) := by decide +kernel
theorem dX11_tidies_27 : decode cX11_tidies 27 = .ok (.aload_n 0, 1) := by decide +kernel
theorem dX11_tidies_28 : decode cX11_tidies 28 = .ok (.getfield 9, 3) := by decide +kernel
theorem dX11_tidies_31 : decode cX11_tidies 31 = .ok (.iload_n 1, 1) := by decide +kernel
theorem dX11_tidies_32 : decode cX11_tidies 32 = .ok (.invokevirtual 290, 3) := by decide +kernel
theorem dX11_tidies_35 : decode cX11_tidies 35 = .ok (.aload_n 0, 1) := by decide +kernel
theorem dX11_tidies_36 : decode cX11_tidies 36 = .ok (.iconst 0, 1) := by decide +kernel
theorem dX11_tidies_37 : decode cX11_tidies 37 = .ok (.putfield 81, 3) := by decide +kernel
theorem dX11_tidies_40 : decode cX11_tidies 40 = .ok (.aload_n 0, 1) := by decide +kernel
theorem dX11_tidies_41 : decode cX11_tidies 41 = .ok (.aload_n 0, 1) := by decide +kernel
theorem dX11_tidies_42 : decode cX11_tidies 42 = .ok (.getfield 326, 3) := by decide +kernel
theorem dX11_tidies_45 : decode cX11_tidies 45 = .ok (.i2l, 1) := by decide +kernel
theorem dX11_tidies_46 : decode cX11_tidies 46 = .ok (.invokevirtual 283, 3) := by decide +kernel
theorem dX11_tidies_49 : decode cX11_tidies 49 = .ok (.aload_n 0, 1) := by decide +kernel
theorem dX11_tidies_50 : decode cX11_tidies 50 = .ok (.aload_n 0, 1) := by decide +kernel
theorem dX11_tidies_51 : decode cX11_tidies 51 = .ok (.getfield 323, 3) := by decide +kernel
theorem dX11_tidies_54 : decode cX11_tidies 54 = .ok (.i2l, 1) := by decide +kernel
theorem dX11_tidies_55 : decode cX11_tidies 55 = .ok (.invokevirtual 283, 3) := by decide +kernel
theorem dX11_tidies_58 : decode cX11_tidies 58 = .ok (.aload_n 0, 1) := by decide +kernel
theorem dX11_tidies_59 : decode cX11_tidies 59 = .ok (.aload_n 0, 1) := by decide +kernel
theorem dX11_tidies_60 : decode cX11_tidies 60 = .ok (.getfield 9, 3) := by decide +kernel
theorem dX11_tidies_63 : decode cX11_tidies 63 = .ok (.iload_n 1, 1) := by decide +kernel
theorem dX11_tidies_64 : decode cX11_tidies 64 = .ok (.invokestatic 116, 3) := by decide +kernel
theorem dX11_tidies_67 : decode cX11_tidies 67 = .ok (.i2l, 1) := by decide +kernel
theorem dX11_tidies_68 : decode cX11_tidies 68 = .ok (.invokevirtual 283, 3) := by decide +kernel
theorem dX11_tidies_71 : decode cX11_tidies 71 = .ok (.aload_n 0, 1) := by decide +kernel
theorem dX11_tidies_72 : decode cX11_tidies 72 = .ok (.getfield 326, 3) := by decide +kernel
theorem dX11_tidies_75 : decode cX11_tidies 75 = .ok (.aload_n 0, 1) := by decide +kernel
theorem dX11_tidies_76 : decode cX11_tidies 76 = .ok (.getfield 323, 3) := by decide +kernel
theorem dX11_tidies_79 : decode cX11_tidies 79 = .ok (.iadd, 1) := by decide +kernel
theorem dX11_tidies_80 : decode cX11_tidies 80 = .ok (.ireturn, 1) := by decide +kernel
def fX11_tidies (h : AH) (a0 : Nat) (a1 : Int32) : Option (Int32 × AH) :=
  if hasC h 11 a0 = true then (
    (pF h 11 a0 5 (.int 0)).bind fun h1 =>
    (gR h1 11 a0 0).bind fun x2 =>
    (fX11_isSpace h1 x2 a1).bind fun q3 =>
    if q3 = true then (
      (gR h1 11 a0 0).bind fun x4 =>
      (fX11_remember h1 a0 x4).bind fun q5 =>
      (gR q5 11 a0 0).bind fun x6 =>
      (fX11_goTidy q5 a0 x6 a1).bind fun q7 =>
      (pF q7 11 a0 4 (.int 0)).bind fun h8 =>
      (gI h8 11 a0 21).bind fun x9 =>
      (fX11_tell h8 a0 (Int32.toInt64 x9)).bind fun q10 =>
      (gI q10 11 a0 22).bind fun x11 =>
      (fX11_tell q10 a0 (Int32.toInt64 x11)).bind fun q12 =>
      (gR q12 11 a0 0).bind fun x13 =>
      (fX11_lengthOf q12 x13 a1).bind fun q14 =>
      (fX11_tell q12 a0 (Int32.toInt64 q14)).bind fun q15 =>
      (gI q15 11 a0 21).bind fun x16 =>
      (gI q15 11 a0 22).bind fun x17 =>
      some ((x16 + x17, q15))
    ) else (
      some (((-1), h1))
    )
  ) else none
set_option maxHeartbeats 4000000 in
theorem mX11_tidies {h : AH} {a0 : Nat} {a1 : Int32} {r : Int32 × AH} (hr : fX11_tidies h a0 a1 = some r) : hasC h 11 a0 = true ∧ MC yX11_tidies cX11_tidies 2 (some .int) 6 0 0 [.ref a0, .int a1] h (some (.int r.1)) r.2 := by
  unfold fX11_tidies at hr
  obtain ⟨hc, hr⟩ := if_some hr
  refine ⟨hc, mc_of (l0 := [(0, .ref a0), (1, .int a1)]) rfl pn_X11 (Nat.le_of_ble_eq_true rfl) (fun Y X C E O hnm => go_run hr ?_)⟩
  have C : CT Y X RX11 cX11_tidies 2 := C
  refine go_aload_n (pc := 0) C 0 dX11_tidies_0 rfl ?_
  refine go_iconst (pc := 1) C dX11_tidies_1 ki_0 ?_
  refine go_pI (pc := 2) C fpX11_77 dX11_tidies_2 (fun h1 => ?_)
  refine go_aload_n (pc := 5) C 0 dX11_tidies_5 rfl ?_
  refine go_gR (pc := 6) C fdX11_9 dX11_tidies_6 (fun x2 => ?_)
  refine go_iload_n (pc := 9) C 1 dX11_tidies_9 rfl ?_
  refine go_bind (fun q3 hq3 => ?_)
  refine go_callS (rest := []) (st' := [.int (b2i q3)]) (c' := 0) (s' := 0) (pc := 10) C O miX11_106 w_1479 [.ref x2, .int a1] rfl (mX11_isSpace hq3) dX11_tidies_10 ⟨by decide, by decide, by decide, by decide⟩ rfl (Nat.le_of_ble_eq_true rfl) rfl ⟨rfl, rfl⟩ ?_
  refine go_ifZ_ne (pc := 13) C 18 dX11_tidies_13 (by decide) (fun _ => ?_) (fun _ => ?_)
  · refine go_aload_n (pc := 18) C 0 dX11_tidies_18 rfl ?_
    refine go_aload_n (pc := 19) C 0 dX11_tidies_19 rfl ?_
    refine go_gR (pc := 20) C fdX11_9 dX11_tidies_20 (fun x4 => ?_)
    refine go_bind (fun q5 hq5 => ?_)
    refine go_callV (rest := []) (st' := []) (c' := 0) (s' := 0) (pc := 23) C O miX11_184 mvX11_remember [.ref x4] rfl (mX11_remember hq5).1 (mX11_remember hq5).2 dX11_tidies_23 ⟨by decide, by decide, by decide, by decide⟩ rfl (Nat.le_of_ble_eq_true rfl) rfl ⟨rfl, rfl⟩ ?_
    refine go_aload_n (pc := 26) C 0 dX11_tidies_26 rfl ?_
    refine go_aload_n (pc := 27) C 0 dX11_tidies_27 rfl ?_
    refine go_gR (pc := 28) C fdX11_9 dX11_tidies_28 (fun x6 => ?_)
    refine go_iload_n (pc := 31) C 1 dX11_tidies_31 rfl ?_
    refine go_bind (fun q7 hq7 => ?_)
    refine go_callV (rest := []) (st' := []) (c' := 0) (s' := 0) (pc := 32) C O miX11_290 mvX11_goTidy [.ref x6, .int a1] rfl (mX11_goTidy hq7).1 (mX11_goTidy hq7).2 dX11_tidies_32 ⟨by decide, by decide, by decide, by decide⟩ rfl (Nat.le_of_ble_eq_true rfl) rfl ⟨rfl, rfl⟩ ?_
    refine go_aload_n (pc := 35) C 0 dX11_tidies_35 rfl ?_
    refine go_iconst (pc := 36) C dX11_tidies_36 ki_0 ?_
    refine go_pI (pc := 37) C fpX11_81 dX11_tidies_37 (fun h8 => ?_)
    refine go_aload_n (pc := 40) C 0 dX11_tidies_40 rfl ?_
    refine go_aload_n (pc := 41) C 0 dX11_tidies_41 rfl ?_
    refine go_gI (pc := 42) C fdX11_326 dX11_tidies_42 (fun x9 => ?_)
    refine go_i2l (pc := 45) C dX11_tidies_45 ?_
    refine go_bind (fun q10 hq10 => ?_)
    refine go_callV (rest := []) (st' := []) (c' := 0) (s' := 0) (pc := 46) C O miX11_283 mvX11_tell [.long (Int32.toInt64 x9)] rfl (mX11_tell hq10).1 (mX11_tell hq10).2 dX11_tidies_46 ⟨by decide, by decide, by decide, by decide⟩ rfl (Nat.le_of_ble_eq_true rfl) rfl ⟨rfl, rfl⟩ ?_
    refine go_aload_n (pc := 49) C 0 dX11_tidies_49 rfl ?_
    refine go_aload_n (pc := 50) C 0 dX11_tidies_50 rfl ?_
    refine go_gI (pc := 51) C fdX11_323 dX11_tidies_51 (fun x11 => ?_)
    refine go_i2l (pc := 54) C dX11_tidies_54 ?_
    refine go_bind (fun q12 hq12 => ?_)
    refine go_callV (rest := []) (st' := []) (c' := 0) (s' := 0) (pc := 55) C O miX11_283 mvX11_tell [.long (Int32.toInt64 x11)] rfl (mX11_tell hq12).1 (mX11_tell hq12).2 dX11_tidies_55 ⟨by decide, by decide, by decide, by decide⟩ rfl (Nat.le_of_ble_eq_true rfl) rfl ⟨rfl, rfl⟩ ?_
    refine go_aload_n (pc := 58) C 0 dX11_tidies_58 rfl ?_
    refine go_aload_n (pc := 59) C 0 dX11_tidies_59 rfl ?_
    refine go_gR (pc := 60) C fdX11_9 dX11_tidies_60 (fun x13 => ?_)
    refine go_iload_n (pc := 63) C 1 dX11_tidies_63 rfl ?_
    refine go_bind (fun q14 hq14 => ?_)
    refine go_callS (rest := [.ref a0]) (st' := [.int q14, .ref a0]) (c' := 0) (s' := 0) (pc := 64) C O miX11_116 w_1555 [.ref x13, .int a1] rfl (mX11_lengthOf hq14) dX11_tidies_64 ⟨by decide, by decide, by decide, by decide⟩ rfl (Nat.le_of_ble_eq_true rfl) rfl ⟨rfl, rfl⟩ ?_
    refine go_i2l (pc := 67) C dX11_tidies_67 ?_
    refine go_bind (fun q15 hq15 => ?_)
    refine go_callV (rest := []) (st' := []) (c' := 0) (s' := 0) (pc := 68) C O miX11_283 mvX11_tell [.long (Int32.toInt64 q14)] rfl (mX11_tell hq15).1 (mX11_tell hq15).2 dX11_tidies_68 ⟨by decide, by decide, by decide, by decide⟩ rfl (Nat.le_of_ble_eq_true rfl) rfl ⟨rfl, rfl⟩ ?_
    refine go_aload_n (pc := 71) C 0 dX11_tidies_71 rfl ?_
    refine go_gI (pc := 72) C fdX11_326 dX11_tidies_72 (fun x16 => ?_)
    refine go_aload_n (pc := 75) C 0 dX11_tidies_75 rfl ?_
    refine go_gI (pc := 76) C fdX11_323 dX11_tidies_76 (fun x17 => ?_)
    refine go_iadd (pc := 79) C dX11_tidies_79 ?_
    exact go_iret (w := wIh) (pc := 80) C E ((x16 + x17, q15)) (x16 + x17) dX11_tidies_80 rfl
  · refine go_iconst (pc := 16) C dX11_tidies_16 ki_m1 ?_
    exact go_iret (w := wIh) (pc := 17) C E (((-1), h1)) ((-1)) dX11_tidies_17 rfl
theorem dX11_twoDigits_0 : decode cX11_twoDigits 0 = .ok (.aload_n 0, 1) := by decide +kernel
theorem dX11_twoDigits_1 : decode cX11_twoDigits 1 = .ok (.bipush 48, 2) := by decide +kernel
theorem dX11_twoDigits_3 : decode cX11_twoDigits 3 = .ok (.bipush 10, 2) := by decide +kernel
theorem dX11_twoDigits_5 : decode cX11_twoDigits 5 = .ok (.invokevirtual 161, 3) := by decide +kernel
theorem dX11_twoDigits_8 : decode cX11_twoDigits 8 = .ok (.istore_n 1, 1) := by decide +kernel
theorem dX11_twoDigits_9 : decode cX11_twoDigits 9 = .ok (.bipush 10, 2) := by decide +kernel
theorem dX11_twoDigits_11 : decode cX11_twoDigits 11 = .ok (.iload_n 1, 1) := by decide +kernel
theorem dX11_twoDigits_12 : decode cX11_twoDigits 12 = .ok (.imul, 1) := by decide +kernel
theorem dX11_twoDigits_13 : decode cX11_twoDigits 13 = .ok (.aload_n 0, 1) := by decide +kernel
theorem dX11_twoDigits_14 : decode cX11_twoDigits 14 = .ok (.bipush 48, 2) := by decide +kernel
theorem dX11_twoDigits_16 : decode cX11_twoDigits 16 = .ok (.bipush 10, 2) := by decide +kernel
theorem dX11_twoDigits_18 : decode cX11_twoDigits 18 = .ok (.invokevirtual 161, 3) := by decide +kernel
theorem dX11_twoDigits_21 : decode cX11_twoDigits 21 = .ok (.iadd, 1) := by decide +kernel
theorem dX11_twoDigits_22 : decode cX11_twoDigits 22 = .ok (.ireturn, 1) := by decide +kernel
def fX11_twoDigits (h : AH) (a0 : Nat) : Option (Int32 × AH) :=
  if hasC h 11 a0 = true then (
    (fX11_oneOf h a0 48 10).bind fun q1 =>
    (fX11_oneOf q1.2 a0 48 10).bind fun q2 =>
    some (((10 * q1.1) + q2.1, q2.2))
  ) else none
set_option maxHeartbeats 4000000 in
theorem mX11_twoDigits {h : AH} {a0 : Nat} {r : Int32 × AH} (hr : fX11_twoDigits h a0 = some r) : hasC h 11 a0 = true ∧ MC yX11_twoDigits cX11_twoDigits 2 (some .int) 4 0 0 [.ref a0] h (some (.int r.1)) r.2 := by
  unfold fX11_twoDigits at hr
  obtain ⟨hc, hr⟩ := if_some hr
  refine ⟨hc, mc_of (l0 := [(0, .ref a0)]) rfl pn_X11 (Nat.le_of_ble_eq_true rfl) (fun Y X C E O hnm => go_run hr ?_)⟩
  have C : CT Y X RX11 cX11_twoDigits 2 := C
  refine go_aload_n (pc := 0) C 0 dX11_twoDigits_0 rfl ?_
  refine go_bipush (pc := 1) C dX11_twoDigits_1 kb_48 ?_
  refine go_bipush (pc := 3) C dX11_twoDigits_3 kb_10 ?_
  refine go_bind (fun q1 hq1 => ?_)
  refine go_callV (rest := []) (st' := [.int q1.1]) (c' := 0) (s' := 0) (pc := 5) C O miX11_161 mvX11_oneOf [.int 48, .int 10] rfl (mX11_oneOf hq1).1 (mX11_oneOf hq1).2 dX11_twoDigits_5 ⟨by decide, by decide, by decide, by decide⟩ rfl (Nat.le_of_ble_eq_true rfl) rfl ⟨rfl, rfl⟩ ?_
  refine go_istore_n (ls' := [(1, .int q1.1), (0, .ref a0)]) (pc := 8) C dX11_twoDigits_8 (by decide) rfl ?_
  refine go_bipush (pc := 9) C dX11_twoDigits_9 kb_10 ?_
  refine go_iload_n (pc := 11) C 0 dX11_twoDigits_11 rfl ?_
  refine go_imul (pc := 12) C dX11_twoDigits_12 ?_
  refine go_aload_n (pc := 13) C 1 dX11_twoDigits_13 rfl ?_
  refine go_bipush (pc := 14) C dX11_twoDigits_14 kb_48 ?_
  refine go_bipush (pc := 16) C dX11_twoDigits_16 kb_10 ?_
  refine go_bind (fun q2 hq2 => ?_)
  refine go_callV (rest := [.int (10 * q1.1)]) (st' := [.int q2.1, .int (10 * q1.1)]) (c' := 0) (s' := 0) (pc := 18) C O miX11_161 mvX11_oneOf [.int 48, .int 10] rfl (mX11_oneOf hq2).1 (mX11_oneOf hq2).2 dX11_twoDigits_18 ⟨by decide, by decide, by decide, by decide⟩ rfl (Nat.le_of_ble_eq_true rfl) rfl ⟨rfl, rfl⟩ ?_
  refine go_iadd (pc := 21) C dX11_twoDigits_21 ?_
  exact go_iret (w := wIh) (pc := 22) C E (((10 * q1.1) + q2.1, q2.2)) ((10 * q1.1) + q2.1) dX11_twoDigits_22 rfl
theorem dX11_readAct_0 : decode cX11_readAct 0 = .ok (.aload_n 0, 1) := by decide +kernel
theorem dX11_readAct_1 : decode cX11_readAct 1 = .ok (.invokevirtual 149, 3) := by decide +kernel
theorem dX11_readAct_4 : decode cX11_readAct 4 = .ok (.istore_n 2, 1) := by decide +kernel
theorem dX11_readAct_5 : decode cX11_readAct 5 = .ok (.iload_n 2, 1) := by decide +kernel
theorem dX11_readAct_6 : decode cX11_readAct 6 = .ok (.bipush 114, 2) := by decide +kernel
theorem dX11_readAct_8 : decode cX11_readAct 8 = .ok (.if_icmp .eq 42, 3) := by decide +kernel
theorem dX11_readAct_11 : decode cX11_readAct 11 = .ok (.iload_n 2, 1) := by decide +kernel
theorem dX11_readAct_12 : decode cX11_readAct 12 = .ok (.bipush 119, 2) := by decide +kernel
theorem dX11_readAct_14 : decode cX11_readAct 14 = .ok (.if_icmp .eq 36, 3) := by decide +kernel
theorem dX11_readAct_17 : decode cX11_readAct 17 = .ok (.iload_n 2, 1) := by decide +kernel
theorem dX11_readAct_18 : decode cX11_readAct 18 = .ok (.bipush 102, 2) := by decide +kernel
theorem dX11_readAct_20 : decode cX11_readAct 20 = .ok (.if_icmp .eq 30, 3) := by decide +kernel
theorem dX11_readAct_23 : decode cX11_readAct 23 = .ok (.iload_n 2, 1) := by decide +kernel
theorem dX11_readAct_24 : decode cX11_readAct 24 = .ok (.bipush 101, 2) := by decide +kernel
theorem dX11_readAct_26 : decode cX11_readAct 26 = .ok (.if_icmp .eq 24, 3) := by decide +kernel
theorem dX11_readAct_29 : decode cX11_readAct 29 = .ok (.iload_n 2, 1) := by decide +kernel
theorem dX11_readAct_30 : decode cX11_readAct 30 = .ok (.bipush 116, 2) := by decide +kernel
theorem dX11_readAct_32 : decode cX11_readAct 32 = .ok (.if_icmp .eq 18, 3) := by decide +kernel
theorem dX11_readAct_35 : decode cX11_readAct 35 = .ok (.iload_n 2, 1) := by decide +kernel
theorem dX11_readAct_36 : decode cX11_readAct 36 = .ok (.bipush 97, 2) := by decide +kernel
theorem dX11_readAct_38 : decode cX11_readAct 38 = .ok (.if_icmp .eq 12, 3) := by decide +kernel
theorem dX11_readAct_41 : decode cX11_readAct 41 = .ok (.aload_n 0, 1) := by decide +kernel
theorem dX11_readAct_42 : decode cX11_readAct 42 = .ok (.aload_n 0, 1) := by decide +kernel
theorem dX11_readAct_43 : decode cX11_readAct 43 = .ok (.getfield 135, 3) := by decide +kernel
theorem dX11_readAct_46 : decode cX11_readAct 46 = .ok (.invokevirtual 157, 3) := by decide +kernel
theorem dX11_readAct_49 : decode cX11_readAct 49 = .ok (.return_, 1) := by decide +kernel
theorem dX11_readAct_50 : decode cX11_readAct 50 = .ok (.aload_n 0, 1) := by decide +kernel
theorem dX11_readAct_51 : decode cX11_readAct 51 = .ok (.dup, 1) := by decide +kernel
theorem dX11_readAct_52 : decode cX11_readAct 52 = .ok (.getfield 135, 3) := by decide +kernel
theorem dX11_readAct_55 : decode cX11_readAct 55 = .ok (.iconst 1, 1) := by decide +kernel
theorem dX11_readAct_56 : decode cX11_readAct 56 = .ok (.iadd, 1) := by decide +kernel
theorem dX11_readAct_57 : decode cX11_readAct 57 = .ok (.putfield 135, 3) := by decide +kernel
theorem dX11_readAct_60 : decode cX11_readAct 60 = .ok (.aload_n 0, 1) := by decide +kernel
theorem dX11_readAct_61 : decode cX11_readAct 61 = .ok (.getfield 42, 3) := by decide +kernel
theorem dX11_readAct_64 : decode cX11_readAct 64 = .ok (.iload_n 1, 1) := by decide +kernel
theorem dX11_readAct_65 : decode cX11_readAct 65 = .ok (.iload_n 2, 1) := by decide +kernel
theorem dX11_readAct_66 : decode cX11_readAct 66 = .ok (.iastore, 1) := by decide +kernel
theorem dX11_readAct_67 : decode cX11_readAct 67 = .ok (.aload_n 0, 1) := by decide +kernel
theorem dX11_readAct_68 : decode cX11_readAct 68 = .ok (.getfield 42, 3) := by decide +kernel
theorem dX11_readAct_71 : decode cX11_readAct 71 = .ok (.iload_n 1, 1) := by decide +kernel
theorem dX11_readAct_72 : decode cX11_readAct 72 = .ok (.iconst 1, 1) := by decide +kernel
theorem dX11_readAct_73 : decode cX11_readAct 73 = .ok (.iadd, 1) := by decide +kernel
theorem dX11_readAct_74 : decode cX11_readAct 74 = .ok (.iload_n 2, 1) := by decide +kernel
theorem dX11_readAct_75 : decode cX11_readAct 75 = .ok (.bipush 97, 2) := by decide +kernel
theorem dX11_readAct_77 : decode cX11_readAct 77 = .ok (.if_icmp .ne 10, 3) := by decide +kernel
theorem dX11_readAct_80 : decode cX11_readAct 80 = .ok (.aload_n 0, 1) := by decide +kernel
theorem dX11_readAct_81 : decode cX11_readAct 81 = .ok (.invokevirtual 344, 3) := by decide +kernel
theorem dX11_readAct_84 : decode cX11_readAct 84 = .ok (.goto 11, 3) := by decide +kernel
theorem dX11_readAct_87 : decode cX11_readAct 87 = .ok (.aload_n 0, 1) := by decide +kernel
theorem dX11_readAct_88 : decode cX11_readAct 88 = .ok (.bipush 48, 2) := by decide +kernel
theorem dX11_readAct_90 : decode cX11_readAct 90 = .ok (.bipush 10, 2) := by decide +kernel
theorem dX11_readAct_92 : decode cX11_readAct 92 = .ok (.invokevirtual 161, 3) := by decide +kernel
theorem dX11_readAct_95 : decode cX11_readAct 95 = .ok (.iastore, 1) := by decide +kernel
theorem dX11_readAct_96 : decode cX11_readAct 96 = .ok (.iload_n 2, 1) := by decide +kernel
theorem dX11_readAct_97 : decode cX11_readAct 97 = .ok (.bipush 114, 2) := by decide +kernel
theorem dX11_readAct_99 : decode cX11_readAct 99 = .ok (.if_icmp .eq 15, 3) := by decide +kernel
theorem dX11_readAct_102 : decode cX11_readAct 102 = .ok (.iload_n 2, 1) := by decide +kernel
theorem dX11_readAct_103 : decode cX11_readAct 103 = .ok (.bipush 119, 2) := by decide +kernel
theorem dX11_readAct_105 : decode cX11_readAct 105 = .ok (.if_icmp .eq 9, 3) := by decide +kernel
theorem dX11_readAct_108 : decode cX11_readAct 108 = .ok (.iload_n 2, 1) := by decide +kernel
theorem dX11_readAct_109 : decode cX11_readAct 109 = .ok (.bipush 97, 2) := by decide +kernel
theorem dX11_readAct_111 : decode cX11_readAct 111 = .ok (.if_icmp .ne 19, 3) := by decide +kernel
theorem dX11_readAct_114 : decode cX11_readAct 114 = .ok (.aload_n 0, 1) := by decide +kernel
theorem dX11_readAct_115 : decode cX11_readAct 115 = .ok (.getfield 42, 3) := by decide +kernel
theorem dX11_readAct_118 : decode cX11_readAct 118 = .ok (.iload_n 1, 1) := by decide +kernel
theorem dX11_readAct_119 : decode cX11_readAct 119 = .ok (.iconst 2, 1) := by decide +kernel
theorem dX11_readAct_120 : decode cX11_readAct 120 = .ok (.iadd, 1) := by decide +kernel
theorem dX11_readAct_121 : decode cX11_readAct 121 = .ok (.aload_n 0, 1) := by decide +kernel
theorem dX11_readAct_122 : decode cX11_readAct 122 = .ok (.bipush 48, 2) := by decide +kernel
theorem dX11_readAct_124 : decode cX11_readAct 124 = .ok (.bipush 8, 2) := by decide +kernel
theorem dX11_readAct_126 : decode cX11_readAct 126 = .ok (.invokevirtual 161, 3) := by decide +kernel
theorem dX11_readAct_129 : decode cX11_readAct 129 = .ok (.iastore, 1) := by decide +kernel
theorem dX11_readAct_130 : decode cX11_readAct 130 = .ok (.iload_n 2, 1) := by decide +kernel
theorem dX11_readAct_131 : decode cX11_readAct 131 = .ok (.bipush 119, 2) := by decide +kernel
theorem dX11_readAct_133 : decode cX11_readAct 133 = .ok (.if_icmp .eq 9, 3) := by decide +kernel
theorem dX11_readAct_136 : decode cX11_readAct 136 = .ok (.iload_n 2, 1) := by decide +kernel
theorem dX11_readAct_137 : decode cX11_readAct 137 = .ok (.bipush 97, 2) := by decide +kernel
theorem dX11_readAct_139 : decode cX11_readAct 139 = .ok (.if_icmp .ne 15, 3) := by decide +kernel
theorem dX11_readAct_142 : decode cX11_readAct 142 = .ok (.aload_n 0, 1) := by decide +kernel
theorem dX11_readAct_143 : decode cX11_readAct 143 = .ok (.getfield 42, 3) := by decide +kernel
theorem dX11_readAct_146 : decode cX11_readAct 146 = .ok (.iload_n 1, 1) := by decide +kernel
theorem dX11_readAct_147 : decode cX11_readAct 147 = .ok (.iconst 3, 1) := by decide +kernel
theorem dX11_readAct_148 : decode cX11_readAct 148 = .ok (.iadd, 1) := by decide +kernel
theorem dX11_readAct_149 : decode cX11_readAct 149 = .ok (.aload_n 0, 1) := by decide +kernel
theorem dX11_readAct_150 : decode cX11_readAct 150 = .ok (.invokevirtual 344, 3) := by decide +kernel
theorem dX11_readAct_153 : decode cX11_readAct 153 = .ok (.iastore, 1) := by decide +kernel
theorem dX11_readAct_154 : decode cX11_readAct 154 = .ok (.return_, 1) := by decide +kernel
def fX11_readAct_J114 (k130 : AH → Nat → Int32 → Int32 → Option (AH)) (h : AH) (v0 : Nat) (v1 : Int32) (v2 : Int32) : Option (AH) :=
    (gR h 11 v0 23).bind fun x1 =>
    (fX11_oneOf h v0 48 8).bind fun q2 =>
    (sI q2.2 0 x1 (v1 + 2) q2.1).bind fun h3 =>
    k130 h3 v0 v1 v2
def fX11_readAct_J142 (h : AH) (v0 : Nat) (v1 : Int32) : Option (AH) :=
    (gR h 11 v0 23).bind fun x4 =>
    (fX11_twoDigits h v0).bind fun q5 =>
    (sI q5.2 0 x4 (v1 + 3) q5.1).bind fun h6 =>
    some h6
def fX11_readAct_J130 (h : AH) (v0 : Nat) (v1 : Int32) (v2 : Int32) : Option (AH) :=
    if v2 = 119 then (
      fX11_readAct_J142 h v0 v1
    ) else (
      if v2 = 97 then (
        fX11_readAct_J142 h v0 v1
      ) else (
        some h
      )
    )
def fX11_readAct_J95 (h : AH) (v0 : Nat) (v1 : Int32) (v2 : Int32) (s0 : Int32) (s1 : Int32) (s2 : Nat) : Option (AH) :=
    (sI h 0 s2 s1 s0).bind fun h7 =>
    if v2 = 114 then (
      fX11_readAct_J114
        (fun h11 x8 x9 x10 =>
          fX11_readAct_J130 h11 x8 x9 x10)
        h7 v0 v1 v2
    ) else (
      if v2 = 119 then (
        fX11_readAct_J114
          (fun h15 x12 x13 x14 =>
            fX11_readAct_J130 h15 x12 x13 x14)
          h7 v0 v1 v2
      ) else (
        if v2 = 97 then (
          fX11_readAct_J114
            (fun h19 x16 x17 x18 =>
              fX11_readAct_J130 h19 x16 x17 x18)
            h7 v0 v1 v2
        ) else (
          fX11_readAct_J130 h7 v0 v1 v2
        )
      )
    )
def fX11_readAct_J50 (h : AH) (v0 : Nat) (v1 : Int32) (v2 : Int32) : Option (AH) :=
    (gI h 11 v0 9).bind fun x20 =>
    (pF h 11 v0 9 (.int (x20 + 1))).bind fun h21 =>
    (gR h21 11 v0 23).bind fun x22 =>
    (sI h21 0 x22 v1 v2).bind fun h23 =>
    (gR h23 11 v0 23).bind fun x24 =>
    if v2 = 97 then (
      (fX11_twoDigits h23 v0).bind fun q25 =>
      fX11_readAct_J95 q25.2 v0 v1 v2 q25.1 (v1 + 1) x24
    ) else (
      (fX11_oneOf h23 v0 48 10).bind fun q26 =>
      fX11_readAct_J95 q26.2 v0 v1 v2 q26.1 (v1 + 1) x24
    )
def fX11_readAct (h : AH) (a0 : Nat) (a1 : Int32) : Option (AH) :=
  if hasC h 11 a0 = true then (
    (fX11_here h a0).bind fun q27 =>
    if q27 = 114 then (
      fX11_readAct_J50 h a0 a1 q27
    ) else (
      if q27 = 119 then (
        fX11_readAct_J50 h a0 a1 q27
      ) else (
        if q27 = 102 then (
          fX11_readAct_J50 h a0 a1 q27
        ) else (
          if q27 = 101 then (
            fX11_readAct_J50 h a0 a1 q27
          ) else (
            if q27 = 116 then (
              fX11_readAct_J50 h a0 a1 q27
            ) else (
              if q27 = 97 then (
                fX11_readAct_J50 h a0 a1 q27
              ) else (
                (gI h 11 a0 9).bind fun x28 =>
                (fX11_fault h a0 x28).bind fun q29 =>
                some q29
              )
            )
          )
        )
      )
    )
  ) else none
set_option maxHeartbeats 4000000 in
theorem gX11_readAct_J114 {Y : YT} {X : XT} (C : CT Y X RX11 cX11_readAct 3) (O : RO X 5 0 0) {r : AH} (E : RX Y X none none r 0 0) {k130 : AH → Nat → Int32 → Int32 → Option (AH)} (hk130 : ∀ (h : AH) (v0 : Nat) (v1 : Int32) (v2 : Int32), GO Y X 3 r h 0 0 130 [(0, .ref v0), (1, .int v1), (2, .int v2)] [] (k130 h v0 v1 v2)) : ∀ (h : AH) (v0 : Nat) (v1 : Int32) (v2 : Int32), GO Y X 3 r h 0 0 114 [(0, .ref v0), (1, .int v1), (2, .int v2)] [] (fX11_readAct_J114 k130 h v0 v1 v2) := by
  intro h v0 v1 v2
  unfold fX11_readAct_J114
  refine go_aload_n (pc := 114) C 0 dX11_readAct_114 rfl ?_
  refine go_gR (pc := 115) C fdX11_42 dX11_readAct_115 (fun x1 => ?_)
  refine go_iload_n (pc := 118) C 1 dX11_readAct_118 rfl ?_
  refine go_iconst (pc := 119) C dX11_readAct_119 ki_2 ?_
  refine go_iadd (pc := 120) C dX11_readAct_120 ?_
  refine go_aload_n (pc := 121) C 0 dX11_readAct_121 rfl ?_
  refine go_bipush (pc := 122) C dX11_readAct_122 kb_48 ?_
  refine go_bipush (pc := 124) C dX11_readAct_124 kb_8 ?_
  refine go_bind (fun q2 hq2 => ?_)
  refine go_callV (rest := [.int (v1 + 2), .ref x1]) (st' := [.int q2.1, .int (v1 + 2), .ref x1]) (c' := 0) (s' := 0) (pc := 126) C O miX11_161 mvX11_oneOf [.int 48, .int 8] rfl (mX11_oneOf hq2).1 (mX11_oneOf hq2).2 dX11_readAct_126 ⟨by decide, by decide, by decide, by decide⟩ rfl (Nat.le_of_ble_eq_true rfl) rfl ⟨rfl, rfl⟩ ?_
  refine go_iast (pc := 129) C dX11_readAct_129 (fun h3 => ?_)
  refine go_sub (ls' := [(0, .ref v0), (1, .int v1), (2, .int v2)]) [0, 1, 2] rfl ?_
  exact hk130 h3 v0 v1 v2
set_option maxHeartbeats 4000000 in
theorem gX11_readAct_J142 {Y : YT} {X : XT} (C : CT Y X RX11 cX11_readAct 3) (O : RO X 5 0 0) {r : AH} (E : RX Y X none none r 0 0) : ∀ (h : AH) (v0 : Nat) (v1 : Int32), GO Y X 3 r h 0 0 142 [(0, .ref v0), (1, .int v1)] [] (fX11_readAct_J142 h v0 v1) := by
  intro h v0 v1
  unfold fX11_readAct_J142
  refine go_aload_n (pc := 142) C 0 dX11_readAct_142 rfl ?_
  refine go_gR (pc := 143) C fdX11_42 dX11_readAct_143 (fun x4 => ?_)
  refine go_iload_n (pc := 146) C 1 dX11_readAct_146 rfl ?_
  refine go_iconst (pc := 147) C dX11_readAct_147 ki_3 ?_
  refine go_iadd (pc := 148) C dX11_readAct_148 ?_
  refine go_aload_n (pc := 149) C 0 dX11_readAct_149 rfl ?_
  refine go_bind (fun q5 hq5 => ?_)
  refine go_callV (rest := [.int (v1 + 3), .ref x4]) (st' := [.int q5.1, .int (v1 + 3), .ref x4]) (c' := 0) (s' := 0) (pc := 150) C O miX11_344 mvX11_twoDigits [] rfl (mX11_twoDigits hq5).1 (mX11_twoDigits hq5).2 dX11_readAct_150 ⟨by decide, by decide, by decide, by decide⟩ rfl (Nat.le_of_ble_eq_true rfl) rfl ⟨rfl, rfl⟩ ?_
  refine go_iast (pc := 153) C dX11_readAct_153 (fun h6 => ?_)
  exact go_vret (w := wV) (pc := 154) C E h6 dX11_readAct_154 rfl
set_option maxHeartbeats 4000000 in
theorem gX11_readAct_J130 {Y : YT} {X : XT} (C : CT Y X RX11 cX11_readAct 3) (O : RO X 5 0 0) {r : AH} (E : RX Y X none none r 0 0) : ∀ (h : AH) (v0 : Nat) (v1 : Int32) (v2 : Int32), GO Y X 3 r h 0 0 130 [(0, .ref v0), (1, .int v1), (2, .int v2)] [] (fX11_readAct_J130 h v0 v1 v2) := by
  intro h v0 v1 v2
  unfold fX11_readAct_J130
  refine go_iload_n (pc := 130) C 2 dX11_readAct_130 rfl ?_
  refine go_bipush (pc := 131) C dX11_readAct_131 kb_119 ?_
  refine go_icmp_eq (pc := 133) C 142 dX11_readAct_133 (by decide) (fun _ => ?_) (fun _ => ?_)
  · refine go_sub (ls' := [(0, .ref v0), (1, .int v1)]) [0, 1] rfl ?_
    refine gX11_readAct_J142 C O E h v0 v1
  · refine go_iload_n (pc := 136) C 2 dX11_readAct_136 rfl ?_
    refine go_bipush (pc := 137) C dX11_readAct_137 kb_97 ?_
    refine go_icmp_ne (pc := 139) C 154 dX11_readAct_139 (by decide) (fun _ => ?_) (fun _ => ?_)
    · refine go_sub (ls' := [(0, .ref v0), (1, .int v1)]) [0, 1] rfl ?_
      refine gX11_readAct_J142 C O E h v0 v1
    · exact go_vret (w := wV) (pc := 154) C E h dX11_readAct_154 rfl
set_option maxHeartbeats 4000000 in
theorem gX11_readAct_J95 {Y : YT} {X : XT} (C : CT Y X RX11 cX11_readAct 3) (O : RO X 5 0 0) {r : AH} (E : RX Y X none none r 0 0) : ∀ (h : AH) (v0 : Nat) (v1 : Int32) (v2 : Int32) (s0 : Int32) (s1 : Int32) (s2 : Nat), GO Y X 3 r h 0 0 95 [(0, .ref v0), (1, .int v1), (2, .int v2)] [.int s0, .int s1, .ref s2] (fX11_readAct_J95 h v0 v1 v2 s0 s1 s2) := by
  intro h v0 v1 v2 s0 s1 s2
  unfold fX11_readAct_J95
  refine go_iast (pc := 95) C dX11_readAct_95 (fun h7 => ?_)
  refine go_iload_n (pc := 96) C 2 dX11_readAct_96 rfl ?_
  refine go_bipush (pc := 97) C dX11_readAct_97 kb_114 ?_
  refine go_icmp_eq (pc := 99) C 114 dX11_readAct_99 (by decide) (fun _ => ?_) (fun _ => ?_)
  · refine go_sub (ls' := [(0, .ref v0), (1, .int v1), (2, .int v2)]) [0, 1, 2] rfl ?_
    refine gX11_readAct_J114 C O E (fun h11 x8 x9 x10 => ?_) h7 v0 v1 v2
    · refine go_sub (ls' := [(0, .ref x8), (1, .int x9), (2, .int x10)]) [0, 1, 2] rfl ?_
      refine gX11_readAct_J130 C O E h11 x8 x9 x10
  · refine go_iload_n (pc := 102) C 2 dX11_readAct_102 rfl ?_
    refine go_bipush (pc := 103) C dX11_readAct_103 kb_119 ?_
    refine go_icmp_eq (pc := 105) C 114 dX11_readAct_105 (by decide) (fun _ => ?_) (fun _ => ?_)
    · refine go_sub (ls' := [(0, .ref v0), (1, .int v1), (2, .int v2)]) [0, 1, 2] rfl ?_
      refine gX11_readAct_J114 C O E (fun h15 x12 x13 x14 => ?_) h7 v0 v1 v2
      · refine go_sub (ls' := [(0, .ref x12), (1, .int x13), (2, .int x14)]) [0, 1, 2] rfl ?_
        refine gX11_readAct_J130 C O E h15 x12 x13 x14
    · refine go_iload_n (pc := 108) C 2 dX11_readAct_108 rfl ?_
      refine go_bipush (pc := 109) C dX11_readAct_109 kb_97 ?_
      refine go_icmp_ne (pc := 111) C 130 dX11_readAct_111 (by decide) (fun _ => ?_) (fun _ => ?_)
      · refine go_sub (ls' := [(0, .ref v0), (1, .int v1), (2, .int v2)]) [0, 1, 2] rfl ?_
        refine gX11_readAct_J114 C O E (fun h19 x16 x17 x18 => ?_) h7 v0 v1 v2
        · refine go_sub (ls' := [(0, .ref x16), (1, .int x17), (2, .int x18)]) [0, 1, 2] rfl ?_
          refine gX11_readAct_J130 C O E h19 x16 x17 x18
      · refine go_sub (ls' := [(0, .ref v0), (1, .int v1), (2, .int v2)]) [0, 1, 2] rfl ?_
        refine gX11_readAct_J130 C O E h7 v0 v1 v2
set_option maxHeartbeats 4000000 in
theorem gX11_readAct_J50 {Y : YT} {X : XT} (C : CT Y X RX11 cX11_readAct 3) (O : RO X 5 0 0) {r : AH} (E : RX Y X none none r 0 0) : ∀ (h : AH) (v0 : Nat) (v1 : Int32) (v2 : Int32), GO Y X 3 r h 0 0 50 [(0, .ref v0), (1, .int v1), (2, .int v2)] [] (fX11_readAct_J50 h v0 v1 v2) := by
  intro h v0 v1 v2
  unfold fX11_readAct_J50
  refine go_aload_n (pc := 50) C 0 dX11_readAct_50 rfl ?_
  refine go_dup (pc := 51) C dX11_readAct_51 rfl ?_
  refine go_gI (pc := 52) C fdX11_135 dX11_readAct_52 (fun x20 => ?_)
  refine go_iconst (pc := 55) C dX11_readAct_55 ki_1 ?_
  refine go_iadd (pc := 56) C dX11_readAct_56 ?_
  refine go_pI (pc := 57) C fpX11_135 dX11_readAct_57 (fun h21 => ?_)
  refine go_aload_n (pc := 60) C 0 dX11_readAct_60 rfl ?_
  refine go_gR (pc := 61) C fdX11_42 dX11_readAct_61 (fun x22 => ?_)
  refine go_iload_n (pc := 64) C 1 dX11_readAct_64 rfl ?_
  refine go_iload_n (pc := 65) C 2 dX11_readAct_65 rfl ?_
  refine go_iast (pc := 66) C dX11_readAct_66 (fun h23 => ?_)
  refine go_aload_n (pc := 67) C 0 dX11_readAct_67 rfl ?_
  refine go_gR (pc := 68) C fdX11_42 dX11_readAct_68 (fun x24 => ?_)
  refine go_iload_n (pc := 71) C 1 dX11_readAct_71 rfl ?_
  refine go_iconst (pc := 72) C dX11_readAct_72 ki_1 ?_
  refine go_iadd (pc := 73) C dX11_readAct_73 ?_
  refine go_iload_n (pc := 74) C 2 dX11_readAct_74 rfl ?_
  refine go_bipush (pc := 75) C dX11_readAct_75 kb_97 ?_
  refine go_icmp_ne (pc := 77) C 87 dX11_readAct_77 (by decide) (fun _ => ?_) (fun _ => ?_)
  · refine go_aload_n (pc := 80) C 0 dX11_readAct_80 rfl ?_
    refine go_bind (fun q25 hq25 => ?_)
    refine go_callV (rest := [.int (v1 + 1), .ref x24]) (st' := [.int q25.1, .int (v1 + 1), .ref x24]) (c' := 0) (s' := 0) (pc := 81) C O miX11_344 mvX11_twoDigits [] rfl (mX11_twoDigits hq25).1 (mX11_twoDigits hq25).2 dX11_readAct_81 ⟨by decide, by decide, by decide, by decide⟩ rfl (Nat.le_of_ble_eq_true rfl) rfl ⟨rfl, rfl⟩ ?_
    refine go_goto (pc := 84) C 95 dX11_readAct_84 (by decide) ?_
    refine go_sub (ls' := [(0, .ref v0), (1, .int v1), (2, .int v2)]) [0, 1, 2] rfl ?_
    refine gX11_readAct_J95 C O E q25.2 v0 v1 v2 q25.1 (v1 + 1) x24
  · refine go_aload_n (pc := 87) C 0 dX11_readAct_87 rfl ?_
    refine go_bipush (pc := 88) C dX11_readAct_88 kb_48 ?_
    refine go_bipush (pc := 90) C dX11_readAct_90 kb_10 ?_
    refine go_bind (fun q26 hq26 => ?_)
    refine go_callV (rest := [.int (v1 + 1), .ref x24]) (st' := [.int q26.1, .int (v1 + 1), .ref x24]) (c' := 0) (s' := 0) (pc := 92) C O miX11_161 mvX11_oneOf [.int 48, .int 10] rfl (mX11_oneOf hq26).1 (mX11_oneOf hq26).2 dX11_readAct_92 ⟨by decide, by decide, by decide, by decide⟩ rfl (Nat.le_of_ble_eq_true rfl) rfl ⟨rfl, rfl⟩ ?_
    refine go_sub (ls' := [(0, .ref v0), (1, .int v1), (2, .int v2)]) [0, 1, 2] rfl ?_
    refine gX11_readAct_J95 C O E q26.2 v0 v1 v2 q26.1 (v1 + 1) x24
set_option maxHeartbeats 4000000 in
theorem mX11_readAct {h : AH} {a0 : Nat} {a1 : Int32} {r : AH} (hr : fX11_readAct h a0 a1 = some r) : hasC h 11 a0 = true ∧ MC yX11_readAct cX11_readAct 3 none 5 0 0 [.ref a0, .int a1] h none r := by
  unfold fX11_readAct at hr
  obtain ⟨hc, hr⟩ := if_some hr
  refine ⟨hc, mc_of (l0 := [(0, .ref a0), (1, .int a1)]) rfl pn_X11 (Nat.le_of_ble_eq_true rfl) (fun Y X C E O hnm => go_run hr ?_)⟩
  have C : CT Y X RX11 cX11_readAct 3 := C
  refine go_aload_n (pc := 0) C 0 dX11_readAct_0 rfl ?_
  refine go_bind (fun q27 hq27 => ?_)
  refine go_callV (rest := []) (st' := [.int q27]) (c' := 0) (s' := 0) (pc := 1) C O miX11_149 mvX11_here [] rfl (mX11_here hq27).1 (mX11_here hq27).2 dX11_readAct_1 ⟨by decide, by decide, by decide, by decide⟩ rfl (Nat.le_of_ble_eq_true rfl) rfl ⟨rfl, rfl⟩ ?_
  refine go_istore_n (ls' := [(2, .int q27), (0, .ref a0), (1, .int a1)]) (pc := 4) C dX11_readAct_4 (by decide) rfl ?_
  refine go_iload_n (pc := 5) C 0 dX11_readAct_5 rfl ?_
  refine go_bipush (pc := 6) C dX11_readAct_6 kb_114 ?_
  refine go_icmp_eq (pc := 8) C 50 dX11_readAct_8 (by decide) (fun _ => ?_) (fun _ => ?_)
  · refine go_sub (ls' := [(0, .ref a0), (1, .int a1), (2, .int q27)]) [1, 2, 0] rfl ?_
    refine gX11_readAct_J50 C O E h a0 a1 q27
  · refine go_iload_n (pc := 11) C 0 dX11_readAct_11 rfl ?_
    refine go_bipush (pc := 12) C dX11_readAct_12 kb_119 ?_
    refine go_icmp_eq (pc := 14) C 50 dX11_readAct_14 (by decide) (fun _ => ?_) (fun _ => ?_)
    · refine go_sub (ls' := [(0, .ref a0), (1, .int a1), (2, .int q27)]) [1, 2, 0] rfl ?_
      refine gX11_readAct_J50 C O E h a0 a1 q27
    · refine go_iload_n (pc := 17) C 0 dX11_readAct_17 rfl ?_
      refine go_bipush (pc := 18) C dX11_readAct_18 kb_102 ?_
      refine go_icmp_eq (pc := 20) C 50 dX11_readAct_20 (by decide) (fun _ => ?_) (fun _ => ?_)
      · refine go_sub (ls' := [(0, .ref a0), (1, .int a1), (2, .int q27)]) [1, 2, 0] rfl ?_
        refine gX11_readAct_J50 C O E h a0 a1 q27
      · refine go_iload_n (pc := 23) C 0 dX11_readAct_23 rfl ?_
        refine go_bipush (pc := 24) C dX11_readAct_24 kb_101 ?_
        refine go_icmp_eq (pc := 26) C 50 dX11_readAct_26 (by decide) (fun _ => ?_) (fun _ => ?_)
        · refine go_sub (ls' := [(0, .ref a0), (1, .int a1), (2, .int q27)]) [1, 2, 0] rfl ?_
          refine gX11_readAct_J50 C O E h a0 a1 q27
        · refine go_iload_n (pc := 29) C 0 dX11_readAct_29 rfl ?_
          refine go_bipush (pc := 30) C dX11_readAct_30 kb_116 ?_
          refine go_icmp_eq (pc := 32) C 50 dX11_readAct_32 (by decide) (fun _ => ?_) (fun _ => ?_)
          · refine go_sub (ls' := [(0, .ref a0), (1, .int a1), (2, .int q27)]) [1, 2, 0] rfl ?_
            refine gX11_readAct_J50 C O E h a0 a1 q27
          · refine go_iload_n (pc := 35) C 0 dX11_readAct_35 rfl ?_
            refine go_bipush (pc := 36) C dX11_readAct_36 kb_97 ?_
            refine go_icmp_eq (pc := 38) C 50 dX11_readAct_38 (by decide) (fun _ => ?_) (fun _ => ?_)
            · refine go_sub (ls' := [(0, .ref a0), (1, .int a1), (2, .int q27)]) [1, 2, 0] rfl ?_
              refine gX11_readAct_J50 C O E h a0 a1 q27
            · refine go_aload_n (pc := 41) C 1 dX11_readAct_41 rfl ?_
              refine go_aload_n (pc := 42) C 1 dX11_readAct_42 rfl ?_
              refine go_gI (pc := 43) C fdX11_135 dX11_readAct_43 (fun x28 => ?_)
              refine go_bind (fun q29 hq29 => ?_)
              refine go_callV (rest := []) (st' := []) (c' := 0) (s' := 0) (pc := 46) C O miX11_157 mvX11_fault [.int x28] rfl (mX11_fault hq29).1 (mX11_fault hq29).2 dX11_readAct_46 ⟨by decide, by decide, by decide, by decide⟩ rfl (Nat.le_of_ble_eq_true rfl) rfl ⟨rfl, rfl⟩ ?_
              exact go_vret (w := wV) (pc := 49) C E q29 dX11_readAct_49 rfl
theorem dX11_act_0 : decode cX11_act 0 = .ok (.aload_n 0, 1) := by decide +kernel
theorem dX11_act_1 : decode cX11_act 1 = .ok (.getfield 42, 3) := by decide +kernel
theorem dX11_act_4 : decode cX11_act 4 = .ok (.iload_n 1, 1) := by decide +kernel
theorem dX11_act_5 : decode cX11_act 5 = .ok (.iconst 1, 1) := by decide +kernel
theorem dX11_act_6 : decode cX11_act 6 = .ok (.iadd, 1) := by decide +kernel
theorem dX11_act_7 : decode cX11_act 7 = .ok (.iaload, 1) := by decide +kernel
theorem dX11_act_8 : decode cX11_act 8 = .ok (.istore_n 2, 1) := by decide +kernel
theorem dX11_act_9 : decode cX11_act 9 = .ok (.aload_n 0, 1) := by decide +kernel
theorem dX11_act_10 : decode cX11_act 10 = .ok (.getfield 42, 3) := by decide +kernel
theorem dX11_act_13 : decode cX11_act 13 = .ok (.iload_n 1, 1) := by decide +kernel
theorem dX11_act_14 : decode cX11_act 14 = .ok (.iconst 2, 1) := by decide +kernel
theorem dX11_act_15 : decode cX11_act 15 = .ok (.iadd, 1) := by decide +kernel
theorem dX11_act_16 : decode cX11_act 16 = .ok (.iaload, 1) := by decide +kernel
theorem dX11_act_17 : decode cX11_act 17 = .ok (.istore_n 3, 1) := by decide +kernel
theorem dX11_act_18 : decode cX11_act 18 = .ok (.aload_n 0, 1) := by decide +kernel
theorem dX11_act_19 : decode cX11_act 19 = .ok (.getfield 42, 3) := by decide +kernel
theorem dX11_act_22 : decode cX11_act 22 = .ok (.iload_n 1, 1) := by decide +kernel
theorem dX11_act_23 : decode cX11_act 23 = .ok (.iaload, 1) := by decide +kernel
theorem dX11_act_24 : decode cX11_act 24 = .ok (.lookupswitch 249 #[(101, 201), (102, 177), (114, 52), (116, 225), (119, 110)], 52) := by decide +kernel
theorem dX11_act_76 : decode cX11_act 76 = .ok (.aload_n 0, 1) := by decide +kernel
theorem dX11_act_77 : decode cX11_act 77 = .ok (.getfield 9, 3) := by decide +kernel
theorem dX11_act_80 : decode cX11_act 80 = .ok (.iload_n 2, 1) := by decide +kernel
theorem dX11_act_81 : decode cX11_act 81 = .ok (.invokestatic 106, 3) := by decide +kernel
theorem dX11_act_84 : decode cX11_act 84 = .ok (.ifCond .ne 5, 3) := by decide +kernel
theorem dX11_act_87 : decode cX11_act 87 = .ok (.iconst 0, 1) := by decide +kernel
theorem dX11_act_88 : decode cX11_act 88 = .ok (.ireturn, 1) := by decide +kernel
theorem dX11_act_89 : decode cX11_act 89 = .ok (.aload_n 0, 1) := by decide +kernel
theorem dX11_act_90 : decode cX11_act 90 = .ok (.getfield 9, 3) := by decide +kernel
theorem dX11_act_93 : decode cX11_act 93 = .ok (.iload_n 2, 1) := by decide +kernel
theorem dX11_act_94 : decode cX11_act 94 = .ok (.iload_n 3, 1) := by decide +kernel
theorem dX11_act_95 : decode cX11_act 95 = .ok (.invokestatic 274, 3) := by decide +kernel
theorem dX11_act_98 : decode cX11_act 98 = .ok (.istore 4, 2) := by decide +kernel
theorem dX11_act_100 : decode cX11_act 100 = .ok (.iload 4, 2) := by decide +kernel
theorem dX11_act_102 : decode cX11_act 102 = .ok (.bipush (-3), 2) := by decide +kernel
theorem dX11_act_104 : decode cX11_act 104 = .ok (.if_icmp .ne 12, 3) := by decide +kernel
theorem dX11_act_107 : decode cX11_act 107 = .ok (.aload_n 0, 1) := by decide +kernel
theorem dX11_act_108 : decode cX11_act 108 = .ok (.getfield 9, 3) := by decide +kernel
theorem dX11_act_111 : decode cX11_act 111 = .ok (.iload_n 2, 1) := by decide +kernel
theorem dX11_act_112 : decode cX11_act 112 = .ok (.iload_n 3, 1) := by decide +kernel
theorem dX11_act_113 : decode cX11_act 113 = .ok (.invokestatic 277, 3) := by decide +kernel
theorem dX11_act_116 : decode cX11_act 116 = .ok (.iload 4, 2) := by decide +kernel
theorem dX11_act_118 : decode cX11_act 118 = .ok (.ifCond .ge 5, 3) := by decide +kernel
theorem dX11_act_121 : decode cX11_act 121 = .ok (.iconst 0, 1) := by decide +kernel
theorem dX11_act_122 : decode cX11_act 122 = .ok (.ireturn, 1) := by decide +kernel
theorem dX11_act_123 : decode cX11_act 123 = .ok (.aload_n 0, 1) := by decide +kernel
theorem dX11_act_124 : decode cX11_act 124 = .ok (.getfield 9, 3) := by decide +kernel
theorem dX11_act_127 : decode cX11_act 127 = .ok (.iload_n 2, 1) := by decide +kernel
theorem dX11_act_128 : decode cX11_act 128 = .ok (.iload_n 3, 1) := by decide +kernel
theorem dX11_act_129 : decode cX11_act 129 = .ok (.invokestatic 280, 3) := by decide +kernel
theorem dX11_act_132 : decode cX11_act 132 = .ok (.iconst 1, 1) := by decide +kernel
theorem dX11_act_133 : decode cX11_act 133 = .ok (.ireturn, 1) := by decide +kernel
theorem dX11_act_134 : decode cX11_act 134 = .ok (.aload_n 0, 1) := by decide +kernel
theorem dX11_act_135 : decode cX11_act 135 = .ok (.getfield 9, 3) := by decide +kernel
theorem dX11_act_138 : decode cX11_act 138 = .ok (.iload_n 2, 1) := by decide +kernel
theorem dX11_act_139 : decode cX11_act 139 = .ok (.invokestatic 106, 3) := by decide +kernel
theorem dX11_act_142 : decode cX11_act 142 = .ok (.ifCond .ne 5, 3) := by decide +kernel
theorem dX11_act_145 : decode cX11_act 145 = .ok (.iconst 0, 1) := by decide +kernel
theorem dX11_act_146 : decode cX11_act 146 = .ok (.ireturn, 1) := by decide +kernel
theorem dX11_act_147 : decode cX11_act 147 = .ok (.aload_n 0, 1) := by decide +kernel
theorem dX11_act_148 : decode cX11_act 148 = .ok (.getfield 9, 3) := by decide +kernel
theorem dX11_act_151 : decode cX11_act 151 = .ok (.iload_n 2, 1) := by decide +kernel
theorem dX11_act_152 : decode cX11_act 152 = .ok (.iload_n 3, 1) := by decide +kernel
theorem dX11_act_153 : decode cX11_act 153 = .ok (.invokestatic 293, 3) := by decide +kernel
theorem dX11_act_156 : decode cX11_act 156 = .ok (.istore 4, 2) := by decide +kernel
theorem dX11_act_158 : decode cX11_act 158 = .ok (.iload 4, 2) := by decide +kernel
theorem dX11_act_160 : decode cX11_act 160 = .ok (.bipush (-3), 2) := by decide +kernel
theorem dX11_act_162 : decode cX11_act 162 = .ok (.if_icmp .ne 12, 3) := by decide +kernel
theorem dX11_act_165 : decode cX11_act 165 = .ok (.aload_n 0, 1) := by decide +kernel
theorem dX11_act_166 : decode cX11_act 166 = .ok (.getfield 9, 3) := by decide +kernel
theorem dX11_act_169 : decode cX11_act 169 = .ok (.iload_n 2, 1) := by decide +kernel
theorem dX11_act_170 : decode cX11_act 170 = .ok (.iload_n 3, 1) := by decide +kernel
theorem dX11_act_171 : decode cX11_act 171 = .ok (.invokestatic 277, 3) := by decide +kernel
theorem dX11_act_174 : decode cX11_act 174 = .ok (.iload 4, 2) := by decide +kernel
theorem dX11_act_176 : decode cX11_act 176 = .ok (.ifCond .ge 5, 3) := by decide +kernel
theorem dX11_act_179 : decode cX11_act 179 = .ok (.iconst 0, 1) := by decide +kernel
theorem dX11_act_180 : decode cX11_act 180 = .ok (.ireturn, 1) := by decide +kernel
theorem dX11_act_181 : decode cX11_act 181 = .ok (.aload_n 0, 1) := by decide +kernel
theorem dX11_act_182 : decode cX11_act 182 = .ok (.aload_n 0, 1) := by decide +kernel
theorem dX11_act_183 : decode cX11_act 183 = .ok (.getfield 9, 3) := by decide +kernel
theorem dX11_act_186 : decode cX11_act 186 = .ok (.iload_n 2, 1) := by decide +kernel
theorem dX11_act_187 : decode cX11_act 187 = .ok (.iload_n 3, 1) := by decide +kernel
theorem dX11_act_188 : decode cX11_act 188 = .ok (.aload_n 0, 1) := by decide +kernel
theorem dX11_act_189 : decode cX11_act 189 = .ok (.getfield 42, 3) := by decide +kernel
theorem dX11_act_192 : decode cX11_act 192 = .ok (.iload_n 1, 1) := by decide +kernel
theorem dX11_act_193 : decode cX11_act 193 = .ok (.iconst 3, 1) := by decide +kernel
theorem dX11_act_194 : decode cX11_act 194 = .ok (.iadd, 1) := by decide +kernel
theorem dX11_act_195 : decode cX11_act 195 = .ok (.iaload, 1) := by decide +kernel
theorem dX11_act_196 : decode cX11_act 196 = .ok (.invokevirtual 296, 3) := by decide +kernel
theorem dX11_act_199 : decode cX11_act 199 = .ok (.iconst 1, 1) := by decide +kernel
theorem dX11_act_200 : decode cX11_act 200 = .ok (.ireturn, 1) := by decide +kernel
theorem dX11_act_201 : decode cX11_act 201 = .ok (.aload_n 0, 1) := by decide +kernel
theorem dX11_act_202 : decode cX11_act 202 = .ok (.getfield 9, 3) := by decide +kernel
theorem dX11_act_205 : decode cX11_act 205 = .ok (.iload_n 2, 1) := by decide +kernel
theorem dX11_act_206 : decode cX11_act 206 = .ok (.invokestatic 300, 3) := by decide +kernel
theorem dX11_act_209 : decode cX11_act 209 = .ok (.ifCond .ge 5, 3) := by decide +kernel
theorem dX11_act_212 : decode cX11_act 212 = .ok (.iconst 0, 1) := by decide +kernel
theorem dX11_act_213 : decode cX11_act 213 = .ok (.ireturn, 1) := by decide +kernel
theorem dX11_act_214 : decode cX11_act 214 = .ok (.aload_n 0, 1) := by decide +kernel
theorem dX11_act_215 : decode cX11_act 215 = .ok (.getfield 9, 3) := by decide +kernel
theorem dX11_act_218 : decode cX11_act 218 = .ok (.iload_n 2, 1) := by decide +kernel
theorem dX11_act_219 : decode cX11_act 219 = .ok (.invokestatic 303, 3) := by decide +kernel
theorem dX11_act_222 : decode cX11_act 222 = .ok (.pop, 1) := by decide +kernel
theorem dX11_act_223 : decode cX11_act 223 = .ok (.iconst 1, 1) := by decide +kernel
theorem dX11_act_224 : decode cX11_act 224 = .ok (.ireturn, 1) := by decide +kernel
theorem dX11_act_225 : decode cX11_act 225 = .ok (.aload_n 0, 1) := by decide +kernel
theorem dX11_act_226 : decode cX11_act 226 = .ok (.getfield 9, 3) := by decide +kernel
theorem dX11_act_229 : decode cX11_act 229 = .ok (.iload_n 2, 1) := by decide +kernel
theorem dX11_act_230 : decode cX11_act 230 = .ok (.invokestatic 106, 3) := by decide +kernel
theorem dX11_act_233 : decode cX11_act 233 = .ok (.ifCond .ne 5, 3) := by decide +kernel
theorem dX11_act_236 : decode cX11_act 236 = .ok (.iconst 0, 1) := by decide +kernel
theorem dX11_act_237 : decode cX11_act 237 = .ok (.ireturn, 1) := by decide +kernel
theorem dX11_act_238 : decode cX11_act 238 = .ok (.aload_n 0, 1) := by decide +kernel
theorem dX11_act_239 : decode cX11_act 239 = .ok (.getfield 9, 3) := by decide +kernel
theorem dX11_act_242 : decode cX11_act 242 = .ok (.iload_n 2, 1) := by decide +kernel
theorem dX11_act_243 : decode cX11_act 243 = .ok (.invokestatic 309, 3) := by decide +kernel
theorem dX11_act_246 : decode cX11_act 246 = .ok (.pop, 1) := by decide +kernel
theorem dX11_act_247 : decode cX11_act 247 = .ok (.iconst 1, 1) := by decide +kernel
theorem dX11_act_248 : decode cX11_act 248 = .ok (.ireturn, 1) := by decide +kernel
theorem dX11_act_249 : decode cX11_act 249 = .ok (.aload_n 0, 1) := by decide +kernel
theorem dX11_act_250 : decode cX11_act 250 = .ok (.getfield 9, 3) := by decide +kernel
theorem dX11_act_253 : decode cX11_act 253 = .ok (.iload_n 2, 1) := by decide +kernel
theorem dX11_act_254 : decode cX11_act 254 = .ok (.invokestatic 106, 3) := by decide +kernel
theorem dX11_act_257 : decode cX11_act 257 = .ok (.ifCond .ne 5, 3) := by decide +kernel
theorem dX11_act_260 : decode cX11_act 260 = .ok (.iconst 0, 1) := by decide +kernel
theorem dX11_act_261 : decode cX11_act 261 = .ok (.ireturn, 1) := by decide +kernel
theorem dX11_act_262 : decode cX11_act 262 = .ok (.aload_n 0, 1) := by decide +kernel
theorem dX11_act_263 : decode cX11_act 263 = .ok (.aload_n 0, 1) := by decide +kernel
theorem dX11_act_264 : decode cX11_act 264 = .ok (.getfield 9, 3) := by decide +kernel
theorem dX11_act_267 : decode cX11_act 267 = .ok (.iload_n 2, 1) := by decide +kernel
theorem dX11_act_268 : decode cX11_act 268 = .ok (.invokevirtual 290, 3) := by decide +kernel
theorem dX11_act_271 : decode cX11_act 271 = .ok (.iconst 1, 1) := by decide +kernel
theorem dX11_act_272 : decode cX11_act 272 = .ok (.ireturn, 1) := by decide +kernel
theorem dX11_act_273 : decode cX11_act 273 = .ok (.aload_n 0, 1) := by decide +kernel
theorem dX11_act_274 : decode cX11_act 274 = .ok (.iload_n 2, 1) := by decide +kernel
theorem dX11_act_275 : decode cX11_act 275 = .ok (.iload_n 3, 1) := by decide +kernel
theorem dX11_act_276 : decode cX11_act 276 = .ok (.aload_n 0, 1) := by decide +kernel
theorem dX11_act_277 : decode cX11_act 277 = .ok (.getfield 42, 3) := by decide +kernel
theorem dX11_act_280 : decode cX11_act 280 = .ok (.iload_n 1, 1) := by decide +kernel
theorem dX11_act_281 : decode cX11_act 281 = .ok (.iconst 3, 1) := by decide +kernel
theorem dX11_act_282 : decode cX11_act 282 = .ok (.iadd, 1) := by decide +kernel
theorem dX11_act_283 : decode cX11_act 283 = .ok (.iaload, 1) := by decide +kernel
theorem dX11_act_284 : decode cX11_act 284 = .ok (.invokevirtual 316, 3) := by decide +kernel
theorem dX11_act_287 : decode cX11_act 287 = .ok (.ifCond .ge 5, 3) := by decide +kernel
theorem dX11_act_290 : decode cX11_act 290 = .ok (.iconst 0, 1) := by decide +kernel
theorem dX11_act_291 : decode cX11_act 291 = .ok (.ireturn, 1) := by decide +kernel
theorem dX11_act_292 : decode cX11_act 292 = .ok (.aload_n 0, 1) := by decide +kernel
theorem dX11_act_293 : decode cX11_act 293 = .ok (.iload_n 2, 1) := by decide +kernel
theorem dX11_act_294 : decode cX11_act 294 = .ok (.iload_n 3, 1) := by decide +kernel
theorem dX11_act_295 : decode cX11_act 295 = .ok (.aload_n 0, 1) := by decide +kernel
theorem dX11_act_296 : decode cX11_act 296 = .ok (.getfield 42, 3) := by decide +kernel
theorem dX11_act_299 : decode cX11_act 299 = .ok (.iload_n 1, 1) := by decide +kernel
theorem dX11_act_300 : decode cX11_act 300 = .ok (.iconst 3, 1) := by decide +kernel
theorem dX11_act_301 : decode cX11_act 301 = .ok (.iadd, 1) := by decide +kernel
theorem dX11_act_302 : decode cX11_act 302 = .ok (.iaload, 1) := by decide +kernel
theorem dX11_act_303 : decode cX11_act 303 = .ok (.invokevirtual 320, 3) := by decide +kernel
theorem dX11_act_306 : decode cX11_act 306 = .ok (.pop, 1) := by decide +kernel
theorem dX11_act_307 : decode cX11_act 307 = .ok (.iconst 1, 1) := by decide +kernel
theorem dX11_act_308 : decode cX11_act 308 = .ok (.ireturn, 1) := by decide +kernel
def fX11_act_J116 (h : AH) (v0 : Nat) (v2 : Int32) (v3 : Int32) (v4 : Int32) : Option (Bool × AH) :=
    if 0 ≤ v4 then (
      (gR h 11 v0 0).bind fun x1 =>
      (fX11_goFetch h x1 v2 v3).bind fun q2 =>
      some ((true, q2))
    ) else (
      some ((false, h))
    )
def fX11_act_J174 (h : AH) (v0 : Nat) (v1 : Int32) (v2 : Int32) (v3 : Int32) (v4 : Int32) : Option (Bool × AH) :=
    if 0 ≤ v4 then (
      (gR h 11 v0 0).bind fun x3 =>
      (gR h 11 v0 23).bind fun x4 =>
      (aI h 0 x4 (v1 + 3)).bind fun x5 =>
      (fX11_goWrite h v0 x3 v2 v3 x5).bind fun q6 =>
      some ((true, q6))
    ) else (
      some ((false, h))
    )
def fX11_act (h : AH) (a0 : Nat) (a1 : Int32) : Option (Bool × AH) :=
  if hasC h 11 a0 = true then (
    (gR h 11 a0 23).bind fun x7 =>
    (aI h 0 x7 (a1 + 1)).bind fun x8 =>
    (gR h 11 a0 23).bind fun x9 =>
    (aI h 0 x9 (a1 + 2)).bind fun x10 =>
    (gR h 11 a0 23).bind fun x11 =>
    (aI h 0 x11 a1).bind fun x12 =>
    if x12 = 101 then (
      (gR h 11 a0 0).bind fun x14 =>
      (fX11_isSpace h x14 x8).bind fun q15 =>
      if q15 = true then (
        (gR h 11 a0 0).bind fun x16 =>
        (fX11_goEnd h x16 x8).bind fun q17 =>
        some ((true, q17.2))
      ) else (
        some ((false, h))
      )
    ) else (
      if x12 = 102 then (
        (gR h 11 a0 0).bind fun x19 =>
        (fX11_refusesFork h x19 x8).bind fun q20 =>
        if 0 ≤ q20 then (
          (gR h 11 a0 0).bind fun x21 =>
          (fX11_goFork h x21 x8).bind fun q22 =>
          some ((true, q22.2))
        ) else (
          some ((false, h))
        )
      ) else (
        if x12 = 114 then (
          (gR h 11 a0 0).bind fun x24 =>
          (fX11_isSpace h x24 x8).bind fun q25 =>
          if q25 = true then (
            (gR h 11 a0 0).bind fun x26 =>
            (fX11_refusesRead h x26 x8 x10).bind fun q27 =>
            if q27 = ((-3)) then (
              (gR h 11 a0 0).bind fun x28 =>
              (fX11_goAwait h x28 x8 x10).bind fun q29 =>
              fX11_act_J116 q29 a0 x8 x10 q27
            ) else (
              fX11_act_J116 h a0 x8 x10 q27
            )
          ) else (
            some ((false, h))
          )
        ) else (
          if x12 = 116 then (
            (gR h 11 a0 0).bind fun x31 =>
            (fX11_isSpace h x31 x8).bind fun q32 =>
            if q32 = true then (
              (gR h 11 a0 0).bind fun x33 =>
              (fX11_goTidy h a0 x33 x8).bind fun q34 =>
              some ((true, q34))
            ) else (
              some ((false, h))
            )
          ) else (
            if x12 = 119 then (
              (gR h 11 a0 0).bind fun x36 =>
              (fX11_isSpace h x36 x8).bind fun q37 =>
              if q37 = true then (
                (gR h 11 a0 0).bind fun x38 =>
                (fX11_refusesWrite h x38 x8 x10).bind fun q39 =>
                if q39 = ((-3)) then (
                  (gR h 11 a0 0).bind fun x40 =>
                  (fX11_goAwait h x40 x8 x10).bind fun q41 =>
                  fX11_act_J174 q41 a0 a1 x8 x10 q39
                ) else (
                  fX11_act_J174 h a0 a1 x8 x10 q39
                )
              ) else (
                some ((false, h))
              )
            ) else (
              (gR h 11 a0 23).bind fun x42 =>
              (aI h 0 x42 (a1 + 3)).bind fun x43 =>
              (fX11_refusesArrival h a0 x8 x10 x43).bind fun q44 =>
              if 0 ≤ q44 then (
                (gR h 11 a0 23).bind fun x45 =>
                (aI h 0 x45 (a1 + 3)).bind fun x46 =>
                (fX11_goArrive h a0 x8 x10 x46).bind fun q47 =>
                some ((true, q47.2))
              ) else (
                some ((false, h))
              ))))))
  ) else none
set_option maxHeartbeats 4000000 in
theorem gX11_act_J116 {Y : YT} {X : XT} (C : CT Y X RX11 cX11_act 5) (O : RO X 210 0 0) {r : Bool × AH} (E : RX Y X (some .boolean) (some (.int (b2i r.1))) r.2 0 0) : ∀ (h : AH) (v0 : Nat) (v2 : Int32) (v3 : Int32) (v4 : Int32), GO Y X 5 r h 0 0 116 [(0, .ref v0), (2, .int v2), (3, .int v3), (4, .int v4)] [] (fX11_act_J116 h v0 v2 v3 v4) := by
  intro h v0 v2 v3 v4
  unfold fX11_act_J116
  refine go_iload (pc := 116) C 3 dX11_act_116 rfl ?_
  refine go_if_ge (pc := 118) C 123 dX11_act_118 (by decide) (fun _ => ?_) (fun _ => ?_)
  · refine go_aload_n (pc := 123) C 0 dX11_act_123 rfl ?_
    refine go_gR (pc := 124) C fdX11_9 dX11_act_124 (fun x1 => ?_)
    refine go_iload_n (pc := 127) C 1 dX11_act_127 rfl ?_
    refine go_iload_n (pc := 128) C 2 dX11_act_128 rfl ?_
    refine go_bind (fun q2 hq2 => ?_)
    refine go_callS (rest := []) (st' := []) (c' := 0) (s' := 0) (pc := 129) C O miX11_280 w_1620 [.ref x1, .int v2, .int v3] rfl (mX11_goFetch hq2) dX11_act_129 ⟨by decide, by decide, by decide, by decide⟩ rfl (Nat.le_of_ble_eq_true rfl) rfl ⟨rfl, rfl⟩ ?_
    refine go_iconst (pc := 132) C dX11_act_132 ki_1 ?_
    exact go_bret (w := wZh) (pc := 133) C E ((true, q2)) 1 true rfl dX11_act_133 rfl
  · refine go_iconst (pc := 121) C dX11_act_121 ki_0 ?_
    exact go_bret (w := wZh) (pc := 122) C E ((false, h)) 0 false rfl dX11_act_122 rfl
set_option maxHeartbeats 4000000 in
theorem gX11_act_J174 {Y : YT} {X : XT} (C : CT Y X RX11 cX11_act 5) (O : RO X 210 0 0) {r : Bool × AH} (E : RX Y X (some .boolean) (some (.int (b2i r.1))) r.2 0 0) : ∀ (h : AH) (v0 : Nat) (v1 : Int32) (v2 : Int32) (v3 : Int32) (v4 : Int32), GO Y X 5 r h 0 0 174 [(0, .ref v0), (1, .int v1), (2, .int v2), (3, .int v3), (4, .int v4)] [] (fX11_act_J174 h v0 v1 v2 v3 v4) := by
  intro h v0 v1 v2 v3 v4
  unfold fX11_act_J174
  refine go_iload (pc := 174) C 4 dX11_act_174 rfl ?_
  refine go_if_ge (pc := 176) C 181 dX11_act_176 (by decide) (fun _ => ?_) (fun _ => ?_)
  · refine go_aload_n (pc := 181) C 0 dX11_act_181 rfl ?_
    refine go_aload_n (pc := 182) C 0 dX11_act_182 rfl ?_
    refine go_gR (pc := 183) C fdX11_9 dX11_act_183 (fun x3 => ?_)
    refine go_iload_n (pc := 186) C 2 dX11_act_186 rfl ?_
    refine go_iload_n (pc := 187) C 3 dX11_act_187 rfl ?_
    refine go_aload_n (pc := 188) C 0 dX11_act_188 rfl ?_
    refine go_gR (pc := 189) C fdX11_42 dX11_act_189 (fun x4 => ?_)
    refine go_iload_n (pc := 192) C 1 dX11_act_192 rfl ?_
    refine go_iconst (pc := 193) C dX11_act_193 ki_3 ?_
    refine go_iadd (pc := 194) C dX11_act_194 ?_
    refine go_iald (pc := 195) C dX11_act_195 (fun x5 => ?_)
    refine go_bind (fun q6 hq6 => ?_)
    refine go_callV (rest := []) (st' := []) (c' := 0) (s' := 0) (pc := 196) C O miX11_296 mvX11_goWrite [.ref x3, .int v2, .int v3, .int x5] rfl (mX11_goWrite hq6).1 (mX11_goWrite hq6).2 dX11_act_196 ⟨by decide, by decide, by decide, by decide⟩ rfl (Nat.le_of_ble_eq_true rfl) rfl ⟨rfl, rfl⟩ ?_
    refine go_iconst (pc := 199) C dX11_act_199 ki_1 ?_
    exact go_bret (w := wZh) (pc := 200) C E ((true, q6)) 1 true rfl dX11_act_200 rfl
  · refine go_iconst (pc := 179) C dX11_act_179 ki_0 ?_
    exact go_bret (w := wZh) (pc := 180) C E ((false, h)) 0 false rfl dX11_act_180 rfl
set_option maxHeartbeats 4000000 in
theorem mX11_act {h : AH} {a0 : Nat} {a1 : Int32} {r : Bool × AH} (hr : fX11_act h a0 a1 = some r) : hasC h 11 a0 = true ∧ MC yX11_act cX11_act 5 (some .boolean) 210 0 0 [.ref a0, .int a1] h (some (.int (b2i r.1))) r.2 := by
  unfold fX11_act at hr
  obtain ⟨hc, hr⟩ := if_some hr
  refine ⟨hc, mc_of (l0 := [(0, .ref a0), (1, .int a1)]) rfl pn_X11 (Nat.le_of_ble_eq_true rfl) (fun Y X C E O hnm => go_run hr ?_)⟩
  have C : CT Y X RX11 cX11_act 5 := C
  refine go_aload_n (pc := 0) C 0 dX11_act_0 rfl ?_
  refine go_gR (pc := 1) C fdX11_42 dX11_act_1 (fun x7 => ?_)
  refine go_iload_n (pc := 4) C 1 dX11_act_4 rfl ?_
  refine go_iconst (pc := 5) C dX11_act_5 ki_1 ?_
  refine go_iadd (pc := 6) C dX11_act_6 ?_
  refine go_iald (pc := 7) C dX11_act_7 (fun x8 => ?_)
  refine go_istore_n (ls' := [(2, .int x8), (0, .ref a0), (1, .int a1)]) (pc := 8) C dX11_act_8 (by decide) rfl ?_
  refine go_aload_n (pc := 9) C 1 dX11_act_9 rfl ?_
  refine go_gR (pc := 10) C fdX11_42 dX11_act_10 (fun x9 => ?_)
  refine go_iload_n (pc := 13) C 2 dX11_act_13 rfl ?_
  refine go_iconst (pc := 14) C dX11_act_14 ki_2 ?_
  refine go_iadd (pc := 15) C dX11_act_15 ?_
  refine go_iald (pc := 16) C dX11_act_16 (fun x10 => ?_)
  refine go_istore_n (ls' := [(3, .int x10), (2, .int x8), (0, .ref a0), (1, .int a1)]) (pc := 17) C dX11_act_17 (by decide) rfl ?_
  refine go_aload_n (pc := 18) C 2 dX11_act_18 rfl ?_
  refine go_gR (pc := 19) C fdX11_42 dX11_act_19 (fun x11 => ?_)
  refine go_iload_n (pc := 22) C 3 dX11_act_22 rfl ?_
  refine go_iald (pc := 23) C dX11_act_23 (fun x12 => ?_)
  refine go_ite (fun hc13 => ?_) (fun hc13 => ?_)
  · refine go_lsw (pc := 24) C 225 dX11_act_24 (by decide) (by rw [hc13] <;> decide) (by decide) ?_
    refine go_aload_n (pc := 225) C 2 dX11_act_225 rfl ?_
    refine go_gR (pc := 226) C fdX11_9 dX11_act_226 (fun x14 => ?_)
    refine go_iload_n (pc := 229) C 1 dX11_act_229 rfl ?_
    refine go_bind (fun q15 hq15 => ?_)
    refine go_callS (rest := []) (st' := [.int (b2i q15)]) (c' := 0) (s' := 0) (pc := 230) C O miX11_106 w_1479 [.ref x14, .int x8] rfl (mX11_isSpace hq15) dX11_act_230 ⟨by decide, by decide, by decide, by decide⟩ rfl (Nat.le_of_ble_eq_true rfl) rfl ⟨rfl, rfl⟩ ?_
    refine go_ifZ_ne (pc := 233) C 238 dX11_act_233 (by decide) (fun _ => ?_) (fun _ => ?_)
    · refine go_aload_n (pc := 238) C 2 dX11_act_238 rfl ?_
      refine go_gR (pc := 239) C fdX11_9 dX11_act_239 (fun x16 => ?_)
      refine go_iload_n (pc := 242) C 1 dX11_act_242 rfl ?_
      refine go_bind (fun q17 hq17 => ?_)
      refine go_callS (rest := []) (st' := [.int q17.1]) (c' := 0) (s' := 0) (pc := 243) C O miX11_309 w_1675 [.ref x16, .int x8] rfl (mX11_goEnd hq17) dX11_act_243 ⟨by decide, by decide, by decide, by decide⟩ rfl (Nat.le_of_ble_eq_true rfl) rfl ⟨rfl, rfl⟩ ?_
      refine go_pop (pc := 246) C dX11_act_246 rfl ?_
      refine go_iconst (pc := 247) C dX11_act_247 ki_1 ?_
      exact go_bret (w := wZh) (pc := 248) C E ((true, q17.2)) 1 true rfl dX11_act_248 rfl
    · refine go_iconst (pc := 236) C dX11_act_236 ki_0 ?_
      exact go_bret (w := wZh) (pc := 237) C E ((false, h)) 0 false rfl dX11_act_237 rfl
  · refine go_ite (fun hc18 => ?_) (fun hc18 => ?_)
    · refine go_lsw (pc := 24) C 201 dX11_act_24 (by decide) (by rw [hc18] <;> decide) (by decide) ?_
      refine go_aload_n (pc := 201) C 2 dX11_act_201 rfl ?_
      refine go_gR (pc := 202) C fdX11_9 dX11_act_202 (fun x19 => ?_)
      refine go_iload_n (pc := 205) C 1 dX11_act_205 rfl ?_
      refine go_bind (fun q20 hq20 => ?_)
      refine go_callS (rest := []) (st' := [.int q20]) (c' := 0) (s' := 0) (pc := 206) C O miX11_300 w_1665 [.ref x19, .int x8] rfl (mX11_refusesFork hq20) dX11_act_206 ⟨by decide, by decide, by decide, by decide⟩ rfl (Nat.le_of_ble_eq_true rfl) rfl ⟨rfl, rfl⟩ ?_
      refine go_if_ge (pc := 209) C 214 dX11_act_209 (by decide) (fun _ => ?_) (fun _ => ?_)
      · refine go_aload_n (pc := 214) C 2 dX11_act_214 rfl ?_
        refine go_gR (pc := 215) C fdX11_9 dX11_act_215 (fun x21 => ?_)
        refine go_iload_n (pc := 218) C 1 dX11_act_218 rfl ?_
        refine go_bind (fun q22 hq22 => ?_)
        refine go_callS (rest := []) (st' := [.int q22.1]) (c' := 0) (s' := 0) (pc := 219) C O miX11_303 w_1668 [.ref x21, .int x8] rfl (mX11_goFork hq22) dX11_act_219 ⟨by decide, by decide, by decide, by decide⟩ rfl (Nat.le_of_ble_eq_true rfl) rfl ⟨rfl, rfl⟩ ?_
        refine go_pop (pc := 222) C dX11_act_222 rfl ?_
        refine go_iconst (pc := 223) C dX11_act_223 ki_1 ?_
        exact go_bret (w := wZh) (pc := 224) C E ((true, q22.2)) 1 true rfl dX11_act_224 rfl
      · refine go_iconst (pc := 212) C dX11_act_212 ki_0 ?_
        exact go_bret (w := wZh) (pc := 213) C E ((false, h)) 0 false rfl dX11_act_213 rfl
    · refine go_ite (fun hc23 => ?_) (fun hc23 => ?_)
      · refine go_lsw (pc := 24) C 76 dX11_act_24 (by decide) (by rw [hc23] <;> decide) (by decide) ?_
        refine go_aload_n (pc := 76) C 2 dX11_act_76 rfl ?_
        refine go_gR (pc := 77) C fdX11_9 dX11_act_77 (fun x24 => ?_)
        refine go_iload_n (pc := 80) C 1 dX11_act_80 rfl ?_
        refine go_bind (fun q25 hq25 => ?_)
        refine go_callS (rest := []) (st' := [.int (b2i q25)]) (c' := 0) (s' := 0) (pc := 81) C O miX11_106 w_1479 [.ref x24, .int x8] rfl (mX11_isSpace hq25) dX11_act_81 ⟨by decide, by decide, by decide, by decide⟩ rfl (Nat.le_of_ble_eq_true rfl) rfl ⟨rfl, rfl⟩ ?_
        refine go_ifZ_ne (pc := 84) C 89 dX11_act_84 (by decide) (fun _ => ?_) (fun _ => ?_)
        · refine go_aload_n (pc := 89) C 2 dX11_act_89 rfl ?_
          refine go_gR (pc := 90) C fdX11_9 dX11_act_90 (fun x26 => ?_)
          refine go_iload_n (pc := 93) C 1 dX11_act_93 rfl ?_
          refine go_iload_n (pc := 94) C 0 dX11_act_94 rfl ?_
          refine go_bind (fun q27 hq27 => ?_)
          refine go_callS (rest := []) (st' := [.int q27]) (c' := 0) (s' := 0) (pc := 95) C O miX11_274 w_1596 [.ref x26, .int x8, .int x10] rfl (mX11_refusesRead hq27) dX11_act_95 ⟨by decide, by decide, by decide, by decide⟩ rfl (Nat.le_of_ble_eq_true rfl) rfl ⟨rfl, rfl⟩ ?_
          refine go_istore (ls' := [(4, .int q27), (3, .int x10), (2, .int x8), (0, .ref a0), (1, .int a1)]) (pc := 98) C dX11_act_98 (by decide) rfl ?_
          refine go_iload (pc := 100) C 0 dX11_act_100 rfl ?_
          refine go_bipush (pc := 102) C dX11_act_102 kb_m3 ?_
          refine go_icmp_ne (pc := 104) C 116 dX11_act_104 (by decide) (fun _ => ?_) (fun _ => ?_)
          · refine go_aload_n (pc := 107) C 3 dX11_act_107 rfl ?_
            refine go_gR (pc := 108) C fdX11_9 dX11_act_108 (fun x28 => ?_)
            refine go_iload_n (pc := 111) C 2 dX11_act_111 rfl ?_
            refine go_iload_n (pc := 112) C 1 dX11_act_112 rfl ?_
            refine go_bind (fun q29 hq29 => ?_)
            refine go_callS (rest := []) (st' := []) (c' := 0) (s' := 0) (pc := 113) C O miX11_277 w_1614 [.ref x28, .int x8, .int x10] rfl (mX11_goAwait hq29) dX11_act_113 ⟨by decide, by decide, by decide, by decide⟩ rfl (Nat.le_of_ble_eq_true rfl) rfl ⟨rfl, rfl⟩ ?_
            refine go_sub (ls' := [(0, .ref a0), (2, .int x8), (3, .int x10), (4, .int q27)]) [3, 2, 1, 0] rfl ?_
            refine gX11_act_J116 C O E q29 a0 x8 x10 q27
          · refine go_sub (ls' := [(0, .ref a0), (2, .int x8), (3, .int x10), (4, .int q27)]) [3, 2, 1, 0] rfl ?_
            refine gX11_act_J116 C O E h a0 x8 x10 q27
        · refine go_iconst (pc := 87) C dX11_act_87 ki_0 ?_
          exact go_bret (w := wZh) (pc := 88) C E ((false, h)) 0 false rfl dX11_act_88 rfl
      · refine go_ite (fun hc30 => ?_) (fun hc30 => ?_)
        · refine go_lsw (pc := 24) C 249 dX11_act_24 (by decide) (by rw [hc30] <;> decide) (by decide) ?_
          refine go_aload_n (pc := 249) C 2 dX11_act_249 rfl ?_
          refine go_gR (pc := 250) C fdX11_9 dX11_act_250 (fun x31 => ?_)
          refine go_iload_n (pc := 253) C 1 dX11_act_253 rfl ?_
          refine go_bind (fun q32 hq32 => ?_)
          refine go_callS (rest := []) (st' := [.int (b2i q32)]) (c' := 0) (s' := 0) (pc := 254) C O miX11_106 w_1479 [.ref x31, .int x8] rfl (mX11_isSpace hq32) dX11_act_254 ⟨by decide, by decide, by decide, by decide⟩ rfl (Nat.le_of_ble_eq_true rfl) rfl ⟨rfl, rfl⟩ ?_
          refine go_ifZ_ne (pc := 257) C 262 dX11_act_257 (by decide) (fun _ => ?_) (fun _ => ?_)
          · refine go_aload_n (pc := 262) C 2 dX11_act_262 rfl ?_
            refine go_aload_n (pc := 263) C 2 dX11_act_263 rfl ?_
            refine go_gR (pc := 264) C fdX11_9 dX11_act_264 (fun x33 => ?_)
            refine go_iload_n (pc := 267) C 1 dX11_act_267 rfl ?_
            refine go_bind (fun q34 hq34 => ?_)
            refine go_callV (rest := []) (st' := []) (c' := 0) (s' := 0) (pc := 268) C O miX11_290 mvX11_goTidy [.ref x33, .int x8] rfl (mX11_goTidy hq34).1 (mX11_goTidy hq34).2 dX11_act_268 ⟨by decide, by decide, by decide, by decide⟩ rfl (Nat.le_of_ble_eq_true rfl) rfl ⟨rfl, rfl⟩ ?_
            refine go_iconst (pc := 271) C dX11_act_271 ki_1 ?_
            exact go_bret (w := wZh) (pc := 272) C E ((true, q34)) 1 true rfl dX11_act_272 rfl
          · refine go_iconst (pc := 260) C dX11_act_260 ki_0 ?_
            exact go_bret (w := wZh) (pc := 261) C E ((false, h)) 0 false rfl dX11_act_261 rfl
        · refine go_ite (fun hc35 => ?_) (fun hc35 => ?_)
          · refine go_lsw (pc := 24) C 134 dX11_act_24 (by decide) (by rw [hc35] <;> decide) (by decide) ?_
            refine go_aload_n (pc := 134) C 2 dX11_act_134 rfl ?_
            refine go_gR (pc := 135) C fdX11_9 dX11_act_135 (fun x36 => ?_)
            refine go_iload_n (pc := 138) C 1 dX11_act_138 rfl ?_
            refine go_bind (fun q37 hq37 => ?_)
            refine go_callS (rest := []) (st' := [.int (b2i q37)]) (c' := 0) (s' := 0) (pc := 139) C O miX11_106 w_1479 [.ref x36, .int x8] rfl (mX11_isSpace hq37) dX11_act_139 ⟨by decide, by decide, by decide, by decide⟩ rfl (Nat.le_of_ble_eq_true rfl) rfl ⟨rfl, rfl⟩ ?_
            refine go_ifZ_ne (pc := 142) C 147 dX11_act_142 (by decide) (fun _ => ?_) (fun _ => ?_)
            · refine go_aload_n (pc := 147) C 2 dX11_act_147 rfl ?_
              refine go_gR (pc := 148) C fdX11_9 dX11_act_148 (fun x38 => ?_)
              refine go_iload_n (pc := 151) C 1 dX11_act_151 rfl ?_
              refine go_iload_n (pc := 152) C 0 dX11_act_152 rfl ?_
              refine go_bind (fun q39 hq39 => ?_)
              refine go_callS (rest := []) (st' := [.int q39]) (c' := 0) (s' := 0) (pc := 153) C O miX11_293 w_1631 [.ref x38, .int x8, .int x10] rfl (mX11_refusesWrite hq39) dX11_act_153 ⟨by decide, by decide, by decide, by decide⟩ rfl (Nat.le_of_ble_eq_true rfl) rfl ⟨rfl, rfl⟩ ?_
              refine go_istore (ls' := [(4, .int q39), (3, .int x10), (2, .int x8), (0, .ref a0), (1, .int a1)]) (pc := 156) C dX11_act_156 (by decide) rfl ?_
              refine go_iload (pc := 158) C 0 dX11_act_158 rfl ?_
              refine go_bipush (pc := 160) C dX11_act_160 kb_m3 ?_
              refine go_icmp_ne (pc := 162) C 174 dX11_act_162 (by decide) (fun _ => ?_) (fun _ => ?_)
              · refine go_aload_n (pc := 165) C 3 dX11_act_165 rfl ?_
                refine go_gR (pc := 166) C fdX11_9 dX11_act_166 (fun x40 => ?_)
                refine go_iload_n (pc := 169) C 2 dX11_act_169 rfl ?_
                refine go_iload_n (pc := 170) C 1 dX11_act_170 rfl ?_
                refine go_bind (fun q41 hq41 => ?_)
                refine go_callS (rest := []) (st' := []) (c' := 0) (s' := 0) (pc := 171) C O miX11_277 w_1614 [.ref x40, .int x8, .int x10] rfl (mX11_goAwait hq41) dX11_act_171 ⟨by decide, by decide, by decide, by decide⟩ rfl (Nat.le_of_ble_eq_true rfl) rfl ⟨rfl, rfl⟩ ?_
                refine go_sub (ls' := [(0, .ref a0), (1, .int a1), (2, .int x8), (3, .int x10), (4, .int q39)]) [3, 4, 2, 1, 0] rfl ?_
                refine gX11_act_J174 C O E q41 a0 a1 x8 x10 q39
              · refine go_sub (ls' := [(0, .ref a0), (1, .int a1), (2, .int x8), (3, .int x10), (4, .int q39)]) [3, 4, 2, 1, 0] rfl ?_
                refine gX11_act_J174 C O E h a0 a1 x8 x10 q39
            · refine go_iconst (pc := 145) C dX11_act_145 ki_0 ?_
              exact go_bret (w := wZh) (pc := 146) C E ((false, h)) 0 false rfl dX11_act_146 rfl
          · refine go_lsw_else (pc := 24) C 273 dX11_act_24 (by decide) (fun q hq => by simp only [List.mem_cons, List.not_mem_nil, or_false] at hq; rcases hq with rfl | rfl | rfl | rfl | rfl <;> first | exact i32_ne hc13 (by decide) | exact i32_ne hc18 (by decide) | exact i32_ne hc23 (by decide) | exact i32_ne hc30 (by decide) | exact i32_ne hc35 (by decide)) (by decide) ?_
            refine go_aload_n (pc := 273) C 2 dX11_act_273 rfl ?_
            refine go_iload_n (pc := 274) C 1 dX11_act_274 rfl ?_
            refine go_iload_n (pc := 275) C 0 dX11_act_275 rfl ?_
            refine go_aload_n (pc := 276) C 2 dX11_act_276 rfl ?_
            refine go_gR (pc := 277) C fdX11_42 dX11_act_277 (fun x42 => ?_)
            refine go_iload_n (pc := 280) C 3 dX11_act_280 rfl ?_
            refine go_iconst (pc := 281) C dX11_act_281 ki_3 ?_
            refine go_iadd (pc := 282) C dX11_act_282 ?_
            refine go_iald (pc := 283) C dX11_act_283 (fun x43 => ?_)
            refine go_bind (fun q44 hq44 => ?_)
            refine go_callV (rest := []) (st' := [.int q44]) (c' := 0) (s' := 0) (pc := 284) C O miX11_316 mvX11_refusesArrival [.int x8, .int x10, .int x43] rfl (mX11_refusesArrival hq44).1 (mX11_refusesArrival hq44).2 dX11_act_284 ⟨by decide, by decide, by decide, by decide⟩ rfl (Nat.le_of_ble_eq_true rfl) rfl ⟨rfl, rfl⟩ ?_
            refine go_if_ge (pc := 287) C 292 dX11_act_287 (by decide) (fun _ => ?_) (fun _ => ?_)
            · refine go_aload_n (pc := 292) C 2 dX11_act_292 rfl ?_
              refine go_iload_n (pc := 293) C 1 dX11_act_293 rfl ?_
              refine go_iload_n (pc := 294) C 0 dX11_act_294 rfl ?_
              refine go_aload_n (pc := 295) C 2 dX11_act_295 rfl ?_
              refine go_gR (pc := 296) C fdX11_42 dX11_act_296 (fun x45 => ?_)
              refine go_iload_n (pc := 299) C 3 dX11_act_299 rfl ?_
              refine go_iconst (pc := 300) C dX11_act_300 ki_3 ?_
              refine go_iadd (pc := 301) C dX11_act_301 ?_
              refine go_iald (pc := 302) C dX11_act_302 (fun x46 => ?_)
              refine go_bind (fun q47 hq47 => ?_)
              refine go_callV (rest := []) (st' := [.int q47.1]) (c' := 0) (s' := 0) (pc := 303) C O miX11_320 mvX11_goArrive [.int x8, .int x10, .int x46] rfl (mX11_goArrive hq47).1 (mX11_goArrive hq47).2 dX11_act_303 ⟨by decide, by decide, by decide, by decide⟩ rfl (Nat.le_of_ble_eq_true rfl) rfl ⟨rfl, rfl⟩ ?_
              refine go_pop (pc := 306) C dX11_act_306 rfl ?_
              refine go_iconst (pc := 307) C dX11_act_307 ki_1 ?_
              exact go_bret (w := wZh) (pc := 308) C E ((true, q47.2)) 1 true rfl dX11_act_308 rfl
            · refine go_iconst (pc := 290) C dX11_act_290 ki_0 ?_
              exact go_bret (w := wZh) (pc := 291) C E ((false, h)) 0 false rfl dX11_act_291 rfl
theorem dX11_day_0 : decode cX11_day 0 = .ok (.aload_n 0, 1) := by decide +kernel
theorem dX11_day_1 : decode cX11_day 1 = .ok (.iconst 0, 1) := by decide +kernel
theorem dX11_day_2 : decode cX11_day 2 = .ok (.putfield 77, 3) := by decide +kernel
theorem dX11_day_5 : decode cX11_day 5 = .ok (.aload_n 0, 1) := by decide +kernel
theorem dX11_day_6 : decode cX11_day 6 = .ok (.bipush 60, 2) := by decide +kernel
theorem dX11_day_8 : decode cX11_day 8 = .ok (.invokevirtual 169, 3) := by decide +kernel
theorem dX11_day_11 : decode cX11_day 11 = .ok (.iconst 0, 1) := by decide +kernel
theorem dX11_day_12 : decode cX11_day 12 = .ok (.istore_n 1, 1) := by decide +kernel
theorem dX11_day_13 : decode cX11_day 13 = .ok (.aload_n 0, 1) := by decide +kernel
theorem dX11_day_14 : decode cX11_day 14 = .ok (.invokevirtual 145, 3) := by decide +kernel
theorem dX11_day_17 : decode cX11_day 17 = .ok (.ifCond .eq 27, 3) := by decide +kernel
theorem dX11_day_20 : decode cX11_day 20 = .ok (.aload_n 0, 1) := by decide +kernel
theorem dX11_day_21 : decode cX11_day 21 = .ok (.getfield 135, 3) := by decide +kernel
theorem dX11_day_24 : decode cX11_day 24 = .ok (.aload_n 0, 1) := by decide +kernel
theorem dX11_day_25 : decode cX11_day 25 = .ok (.getfield 129, 3) := by decide +kernel
theorem dX11_day_28 : decode cX11_day 28 = .ok (.if_icmp .ge 16, 3) := by decide +kernel
theorem dX11_day_31 : decode cX11_day 31 = .ok (.aload_n 0, 1) := by decide +kernel
theorem dX11_day_32 : decode cX11_day 32 = .ok (.iconst 4, 1) := by decide +kernel
theorem dX11_day_33 : decode cX11_day 33 = .ok (.iload_n 1, 1) := by decide +kernel
theorem dX11_day_34 : decode cX11_day 34 = .ok (.imul, 1) := by decide +kernel
theorem dX11_day_35 : decode cX11_day 35 = .ok (.invokevirtual 338, 3) := by decide +kernel
theorem dX11_day_38 : decode cX11_day 38 = .ok (.iinc 1 1, 3) := by decide +kernel
theorem dX11_day_41 : decode cX11_day 41 = .ok (.goto (-28), 3) := by decide +kernel
theorem dX11_day_44 : decode cX11_day 44 = .ok (.aload_n 0, 1) := by decide +kernel
theorem dX11_day_45 : decode cX11_day 45 = .ok (.invokevirtual 175, 3) := by decide +kernel
theorem dX11_day_48 : decode cX11_day 48 = .ok (.ifCond .ne 10, 3) := by decide +kernel
theorem dX11_day_51 : decode cX11_day 51 = .ok (.iconst (-1), 1) := by decide +kernel
theorem dX11_day_52 : decode cX11_day 52 = .ok (.aload_n 0, 1) := by decide +kernel
theorem dX11_day_53 : decode cX11_day 53 = .ok (.getfield 138, 3) := by decide +kernel
theorem dX11_day_56 : decode cX11_day 56 = .ok (.isub, 1) := by decide +kernel
theorem dX11_day_57 : decode cX11_day 57 = .ok (.ireturn, 1) := by decide +kernel
theorem dX11_day_58 : decode cX11_day 58 = .ok (.aload_n 0, 1) := by decide +kernel
theorem dX11_day_59 : decode cX11_day 59 = .ok (.getfield 9, 3) := by decide +kernel
theorem dX11_day_62 : decode cX11_day 62 = .ok (.aload_n 0, 1) := by decide +kernel
theorem dX11_day_63 : decode cX11_day 63 = .ok (.getfield 36, 3) := by decide +kernel
theorem dX11_day_66 : decode cX11_day 66 = .ok (.iconst 0, 1) := by decide +kernel
theorem dX11_day_67 : decode cX11_day 67 = .ok (.invokestatic 255, 3) := by decide +kernel
theorem dX11_day_70 : decode cX11_day 70 = .ok (.iconst 0, 1) := by decide +kernel
theorem dX11_day_71 : decode cX11_day 71 = .ok (.istore_n 2, 1) := by decide +kernel
theorem dX11_day_72 : decode cX11_day 72 = .ok (.iconst 0, 1) := by decide +kernel
theorem dX11_day_73 : decode cX11_day 73 = .ok (.istore_n 3, 1) := by decide +kernel
theorem dX11_day_74 : decode cX11_day 74 = .ok (.iload_n 2, 1) := by decide +kernel
theorem dX11_day_75 : decode cX11_day 75 = .ok (.iload_n 1, 1) := by decide +kernel
theorem dX11_day_76 : decode cX11_day 76 = .ok (.if_icmp .ge 19, 3) := by decide +kernel
theorem dX11_day_79 : decode cX11_day 79 = .ok (.aload_n 0, 1) := by decide +kernel
theorem dX11_day_80 : decode cX11_day 80 = .ok (.iconst 4, 1) := by decide +kernel
theorem dX11_day_81 : decode cX11_day 81 = .ok (.iload_n 2, 1) := by decide +kernel
theorem dX11_day_82 : decode cX11_day 82 = .ok (.imul, 1) := by decide +kernel
theorem dX11_day_83 : decode cX11_day 83 = .ok (.invokevirtual 341, 3) := by decide +kernel
theorem dX11_day_86 : decode cX11_day 86 = .ok (.ifCond .eq 9, 3) := by decide +kernel
theorem dX11_day_89 : decode cX11_day 89 = .ok (.iinc 2 1, 3) := by decide +kernel
theorem dX11_day_92 : decode cX11_day 92 = .ok (.goto (-18), 3) := by decide +kernel
theorem dX11_day_95 : decode cX11_day 95 = .ok (.iconst 0, 1) := by decide +kernel
theorem dX11_day_96 : decode cX11_day 96 = .ok (.istore 4, 2) := by decide +kernel
theorem dX11_day_98 : decode cX11_day 98 = .ok (.iload 4, 2) := by decide +kernel
theorem dX11_day_100 : decode cX11_day 100 = .ok (.sipush 325, 3) := by decide +kernel
theorem dX11_day_103 : decode cX11_day 103 = .ok (.if_icmp .ge 36, 3) := by decide +kernel
theorem dX11_day_106 : decode cX11_day 106 = .ok (.iload_n 3, 1) := by decide +kernel
theorem dX11_day_107 : decode cX11_day 107 = .ok (.ifCond .ne 20, 3) := by decide +kernel
theorem dX11_day_110 : decode cX11_day 110 = .ok (.aload_n 0, 1) := by decide +kernel
theorem dX11_day_111 : decode cX11_day 111 = .ok (.getfield 9, 3) := by decide +kernel
theorem dX11_day_114 : decode cX11_day 114 = .ok (.iload 4, 2) := by decide +kernel
theorem dX11_day_116 : decode cX11_day 116 = .ok (.iaload, 1) := by decide +kernel
theorem dX11_day_117 : decode cX11_day 117 = .ok (.aload_n 0, 1) := by decide +kernel
theorem dX11_day_118 : decode cX11_day 118 = .ok (.getfield 36, 3) := by decide +kernel
theorem dX11_day_121 : decode cX11_day 121 = .ok (.iload 4, 2) := by decide +kernel
theorem dX11_day_123 : decode cX11_day 123 = .ok (.iaload, 1) := by decide +kernel
theorem dX11_day_124 : decode cX11_day 124 = .ok (.if_icmp .eq 7, 3) := by decide +kernel
theorem dX11_day_127 : decode cX11_day 127 = .ok (.iconst 1, 1) := by decide +kernel
theorem dX11_day_128 : decode cX11_day 128 = .ok (.goto 4, 3) := by decide +kernel
theorem dX11_day_131 : decode cX11_day 131 = .ok (.iconst 0, 1) := by decide +kernel
theorem dX11_day_132 : decode cX11_day 132 = .ok (.istore_n 3, 1) := by decide +kernel
theorem dX11_day_133 : decode cX11_day 133 = .ok (.iinc 4 1, 3) := by decide +kernel
theorem dX11_day_136 : decode cX11_day 136 = .ok (.goto (-38), 3) := by decide +kernel
theorem dX11_day_139 : decode cX11_day 139 = .ok (.iload_n 2, 1) := by decide +kernel
theorem dX11_day_140 : decode cX11_day 140 = .ok (.ifCond .gt 7, 3) := by decide +kernel
theorem dX11_day_143 : decode cX11_day 143 = .ok (.iload_n 3, 1) := by decide +kernel
theorem dX11_day_144 : decode cX11_day 144 = .ok (.ifCond .eq 11, 3) := by decide +kernel
theorem dX11_day_147 : decode cX11_day 147 = .ok (.aload_n 0, 1) := by decide +kernel
theorem dX11_day_148 : decode cX11_day 148 = .ok (.aload_n 0, 1) := by decide +kernel
theorem dX11_day_149 : decode cX11_day 149 = .ok (.getfield 36, 3) := by decide +kernel
theorem dX11_day_152 : decode cX11_day 152 = .ok (.invokevirtual 184, 3) := by decide +kernel
theorem dX11_day_155 : decode cX11_day 155 = .ok (.aload_n 0, 1) := by decide +kernel
theorem dX11_day_156 : decode cX11_day 156 = .ok (.iconst 0, 1) := by decide +kernel
theorem dX11_day_157 : decode cX11_day 157 = .ok (.putfield 81, 3) := by decide +kernel
theorem dX11_day_160 : decode cX11_day 160 = .ok (.aload_n 0, 1) := by decide +kernel
theorem dX11_day_161 : decode cX11_day 161 = .ok (.iload_n 2, 1) := by decide +kernel
theorem dX11_day_162 : decode cX11_day 162 = .ok (.iload_n 1, 1) := by decide +kernel
theorem dX11_day_163 : decode cX11_day 163 = .ok (.if_icmp .ge 7, 3) := by decide +kernel
theorem dX11_day_166 : decode cX11_day 166 = .ok (.lconst 1, 1) := by decide +kernel
theorem dX11_day_167 : decode cX11_day 167 = .ok (.goto 4, 3) := by decide +kernel
theorem dX11_day_170 : decode cX11_day 170 = .ok (.lconst 0, 1) := by decide +kernel
theorem dX11_day_171 : decode cX11_day 171 = .ok (.invokevirtual 283, 3) := by decide +kernel
theorem dX11_day_174 : decode cX11_day 174 = .ok (.aload_n 0, 1) := by decide +kernel
theorem dX11_day_175 : decode cX11_day 175 = .ok (.aload_n 0, 1) := by decide +kernel
theorem dX11_day_176 : decode cX11_day 176 = .ok (.getfield 9, 3) := by decide +kernel
theorem dX11_day_179 : decode cX11_day 179 = .ok (.invokestatic 181, 3) := by decide +kernel
theorem dX11_day_182 : decode cX11_day 182 = .ok (.i2l, 1) := by decide +kernel
theorem dX11_day_183 : decode cX11_day 183 = .ok (.invokevirtual 283, 3) := by decide +kernel
theorem dX11_day_186 : decode cX11_day 186 = .ok (.iload_n 2, 1) := by decide +kernel
theorem dX11_day_187 : decode cX11_day 187 = .ok (.ireturn, 1) := by decide +kernel
def fX11_day_L13 (k44 : AH → Nat → Int32 → Option (Int32 × AH)) : Nat → AH → Nat → Int32 → Option (Int32 × AH)
  | 0, _, _, _ => none
  | n + 1, h, v0, v1 =>
    (fX11_fine h v0).bind fun q1 =>
    if q1 = true then (
      (gI h 11 v0 9).bind fun x2 =>
      (gI h 11 v0 7).bind fun x3 =>
      if x3 ≤ x2 then (
        k44 h v0 v1
      ) else (
        (fX11_readAct h v0 (4 * v1)).bind fun q4 =>
        letF (v1 + 1 : Int32) fun x5 =>
        fX11_day_L13 k44 n q4 v0 x5
      )
    ) else (
      k44 h v0 v1
    )
def fX11_day_L74 (k95 : AH → Nat → Int32 → Int32 → Int32 → Option (Int32 × AH)) : Nat → AH → Nat → Int32 → Int32 → Int32 → Option (Int32 × AH)
  | 0, _, _, _, _, _ => none
  | n + 1, h, v0, v1, v2, v3 =>
    if v1 ≤ v2 then (
      k95 h v0 v1 v2 v3
    ) else (
      (fX11_act h v0 (4 * v2)).bind fun q6 =>
      if q6.1 = true then (
        letF (v2 + 1 : Int32) fun x7 =>
        fX11_day_L74 k95 n q6.2 v0 v1 x7 v3
      ) else (
        k95 q6.2 v0 v1 v2 v3
      )
    )
def fX11_day_L98 (k139 : AH → Nat → Int32 → Int32 → Int32 → Option (Int32 × AH)) : Nat → AH → Nat → Int32 → Int32 → Int32 → Int32 → Option (Int32 × AH)
  | 0, _, _, _, _, _, _ => none
  | n + 1, h, v0, v1, v2, v3, v4 =>
    if 325 ≤ v4 then (
      k139 h v0 v1 v2 v3
    ) else (
      if v3 = 0 then (
        (gR h 11 v0 0).bind fun x8 =>
        (aI h 0 x8 v4).bind fun x9 =>
        (gR h 11 v0 19).bind fun x10 =>
        (aI h 0 x10 v4).bind fun x11 =>
        if x9 = x11 then (
          letF (v4 + 1 : Int32) fun x12 =>
          fX11_day_L98 k139 n h v0 v1 v2 0 x12
        ) else (
          letF (v4 + 1 : Int32) fun x13 =>
          fX11_day_L98 k139 n h v0 v1 v2 1 x13
        )
      ) else (
        letF (v4 + 1 : Int32) fun x14 =>
        fX11_day_L98 k139 n h v0 v1 v2 1 x14
      )
    )
def fX11_day_J147 (k155 : AH → Nat → Int32 → Int32 → Option (Int32 × AH)) (h : AH) (v0 : Nat) (v1 : Int32) (v2 : Int32) : Option (Int32 × AH) :=
    (gR h 11 v0 19).bind fun x15 =>
    (fX11_remember h v0 x15).bind fun q16 =>
    k155 q16 v0 v1 v2
def fX11_day_J171 (h : AH) (v0 : Nat) (v2 : Int32) (s0 : Int64) (s1 : Nat) : Option (Int32 × AH) :=
    (fX11_tell h s1 s0).bind fun q17 =>
    (gR q17 11 v0 0).bind fun x18 =>
    (fX11_framesOf q17 x18).bind fun q19 =>
    (fX11_tell q17 v0 (Int32.toInt64 q19)).bind fun q20 =>
    some ((v2, q20))
def fX11_day_J155 (h : AH) (v0 : Nat) (v1 : Int32) (v2 : Int32) : Option (Int32 × AH) :=
    (pF h 11 v0 4 (.int 0)).bind fun h21 =>
    if v1 ≤ v2 then (
      fX11_day_J171 h21 v0 v2 0 v0
    ) else (
      fX11_day_J171 h21 v0 v2 1 v0
    )
def fX11_day_J44 (h : AH) (v0 : Nat) (v1 : Int32) : Option (Int32 × AH) :=
    (fX11_wasRight h v0).bind fun q22 =>
    if q22.1 = true then (
      (gR q22.2 11 v0 0).bind fun x23 =>
      (gR q22.2 11 v0 19).bind fun x24 =>
      (fX11_lay q22.2 x23 x24 0).bind fun q25 =>
      fX11_day_L74
        (fun h30 x26 x27 x28 x29 =>
          fX11_day_L98
            (fun h35 x31 x32 x33 x34 =>
              if 0 < x33 then (
                fX11_day_J147
                  (fun h39 x36 x37 x38 =>
                    fX11_day_J155 h39 x36 x37 x38)
                  h35 x31 x32 x33
              ) else (
                if x34 = 0 then (
                  fX11_day_J155 h35 x31 x32 x33
                ) else (
                  fX11_day_J147
                    (fun h43 x40 x41 x42 =>
                      fX11_day_J155 h43 x40 x41 x42)
                    h35 x31 x32 x33
                )
              ))
            FU h30 x26 x27 x28 x29 0)
        FU q25 v0 v1 0 0
    ) else (
      (gI q22.2 11 v0 10).bind fun x44 =>
      some ((((-1)) - x44, q22.2))
    )
def fX11_day (h : AH) (a0 : Nat) : Option (Int32 × AH) :=
  if hasC h 11 a0 = true then (
    (pF h 11 a0 5 (.int 0)).bind fun h45 =>
    (fX11_beginText h45 a0 60).bind fun q46 =>
    fX11_day_L13
      (fun h49 x47 x48 =>
        fX11_day_J44 h49 x47 x48)
      FU q46 a0 0
  ) else none
set_option maxHeartbeats 4000000 in
theorem gX11_day_L13 {Y : YT} {X : XT} (C : CT Y X RX11 cX11_day 5) (O : RO X 211 0 0) {r : Int32 × AH} (E : RX Y X (some .int) (some (.int r.1)) r.2 0 0) {k44 : AH → Nat → Int32 → Option (Int32 × AH)} (hk44 : ∀ (h : AH) (v0 : Nat) (v1 : Int32), GO Y X 5 r h 0 0 44 [(0, .ref v0), (1, .int v1)] [] (k44 h v0 v1)) : ∀ (n : Nat) (h : AH) (v0 : Nat) (v1 : Int32), GO Y X 5 r h 0 0 13 [(0, .ref v0), (1, .int v1)] [] (fX11_day_L13 k44 n h v0 v1) := by
  intro n
  induction n with
  | zero => intros; exact go_none _ _ _
  | succ n ih =>
    intro h v0 v1
    rw [fX11_day_L13]
    refine go_aload_n (pc := 13) C 0 dX11_day_13 rfl ?_
    refine go_bind (fun q1 hq1 => ?_)
    refine go_callV (rest := []) (st' := [.int (b2i q1)]) (c' := 0) (s' := 0) (pc := 14) C O miX11_145 mvX11_fine [] rfl (mX11_fine hq1).1 (mX11_fine hq1).2 dX11_day_14 ⟨by decide, by decide, by decide, by decide⟩ rfl (Nat.le_of_ble_eq_true rfl) rfl ⟨rfl, rfl⟩ ?_
    refine go_ifZ_eq (pc := 17) C 44 dX11_day_17 (by decide) (fun _ => ?_) (fun _ => ?_)
    · refine go_aload_n (pc := 20) C 0 dX11_day_20 rfl ?_
      refine go_gI (pc := 21) C fdX11_135 dX11_day_21 (fun x2 => ?_)
      refine go_aload_n (pc := 24) C 0 dX11_day_24 rfl ?_
      refine go_gI (pc := 25) C fdX11_129 dX11_day_25 (fun x3 => ?_)
      refine go_icmp_ge (pc := 28) C 44 dX11_day_28 (by decide) (fun _ => ?_) (fun _ => ?_)
      · refine go_sub (ls' := [(0, .ref v0), (1, .int v1)]) [0, 1] rfl ?_
        exact hk44 h v0 v1
      · refine go_aload_n (pc := 31) C 0 dX11_day_31 rfl ?_
        refine go_iconst (pc := 32) C dX11_day_32 ki_4 ?_
        refine go_iload_n (pc := 33) C 1 dX11_day_33 rfl ?_
        refine go_imul (pc := 34) C dX11_day_34 ?_
        refine go_bind (fun q4 hq4 => ?_)
        refine go_callV (rest := []) (st' := []) (c' := 0) (s' := 0) (pc := 35) C O miX11_338 mvX11_readAct [.int (4 * v1)] rfl (mX11_readAct hq4).1 (mX11_readAct hq4).2 dX11_day_35 ⟨by decide, by decide, by decide, by decide⟩ rfl (Nat.le_of_ble_eq_true rfl) rfl ⟨rfl, rfl⟩ ?_
        refine go_iincL (pc := 38) C 1 dX11_day_38 rfl ki_1 (by decide) (fun x5 => [(1, .int x5), (0, .ref v0)]) (fun _ => rfl) (fun x5 => ?_)
        refine go_goto (pc := 41) C 13 dX11_day_41 (by decide) ?_
        refine go_sub (ls' := [(0, .ref v0), (1, .int x5)]) [1, 0] rfl ?_
        exact ih q4 v0 x5
    · refine go_sub (ls' := [(0, .ref v0), (1, .int v1)]) [0, 1] rfl ?_
      exact hk44 h v0 v1
set_option maxHeartbeats 4000000 in
theorem gX11_day_L74 {Y : YT} {X : XT} (C : CT Y X RX11 cX11_day 5) (O : RO X 211 0 0) {r : Int32 × AH} (E : RX Y X (some .int) (some (.int r.1)) r.2 0 0) {k95 : AH → Nat → Int32 → Int32 → Int32 → Option (Int32 × AH)} (hk95 : ∀ (h : AH) (v0 : Nat) (v1 : Int32) (v2 : Int32) (v3 : Int32), GO Y X 5 r h 0 0 95 [(0, .ref v0), (1, .int v1), (2, .int v2), (3, .int v3)] [] (k95 h v0 v1 v2 v3)) : ∀ (n : Nat) (h : AH) (v0 : Nat) (v1 : Int32) (v2 : Int32) (v3 : Int32), GO Y X 5 r h 0 0 74 [(0, .ref v0), (1, .int v1), (2, .int v2), (3, .int v3)] [] (fX11_day_L74 k95 n h v0 v1 v2 v3) := by
  intro n
  induction n with
  | zero => intros; exact go_none _ _ _
  | succ n ih =>
    intro h v0 v1 v2 v3
    rw [fX11_day_L74]
    refine go_iload_n (pc := 74) C 2 dX11_day_74 rfl ?_
    refine go_iload_n (pc := 75) C 1 dX11_day_75 rfl ?_
    refine go_icmp_ge (pc := 76) C 95 dX11_day_76 (by decide) (fun _ => ?_) (fun _ => ?_)
    · refine go_sub (ls' := [(0, .ref v0), (1, .int v1), (2, .int v2), (3, .int v3)]) [0, 1, 2, 3] rfl ?_
      exact hk95 h v0 v1 v2 v3
    · refine go_aload_n (pc := 79) C 0 dX11_day_79 rfl ?_
      refine go_iconst (pc := 80) C dX11_day_80 ki_4 ?_
      refine go_iload_n (pc := 81) C 2 dX11_day_81 rfl ?_
      refine go_imul (pc := 82) C dX11_day_82 ?_
      refine go_bind (fun q6 hq6 => ?_)
      refine go_callV (rest := []) (st' := [.int (b2i q6.1)]) (c' := 0) (s' := 0) (pc := 83) C O miX11_341 mvX11_act [.int (4 * v2)] rfl (mX11_act hq6).1 (mX11_act hq6).2 dX11_day_83 ⟨by decide, by decide, by decide, by decide⟩ rfl (Nat.le_of_ble_eq_true rfl) rfl ⟨rfl, rfl⟩ ?_
      refine go_ifZ_eq (pc := 86) C 95 dX11_day_86 (by decide) (fun _ => ?_) (fun _ => ?_)
      · refine go_iincL (pc := 89) C 2 dX11_day_89 rfl ki_1 (by decide) (fun x7 => [(2, .int x7), (0, .ref v0), (1, .int v1), (3, .int v3)]) (fun _ => rfl) (fun x7 => ?_)
        refine go_goto (pc := 92) C 74 dX11_day_92 (by decide) ?_
        refine go_sub (ls' := [(0, .ref v0), (1, .int v1), (2, .int x7), (3, .int v3)]) [1, 2, 0, 3] rfl ?_
        exact ih q6.2 v0 v1 x7 v3
      · refine go_sub (ls' := [(0, .ref v0), (1, .int v1), (2, .int v2), (3, .int v3)]) [0, 1, 2, 3] rfl ?_
        exact hk95 q6.2 v0 v1 v2 v3
set_option maxHeartbeats 4000000 in
theorem gX11_day_L98 {Y : YT} {X : XT} (C : CT Y X RX11 cX11_day 5) (O : RO X 211 0 0) {r : Int32 × AH} (E : RX Y X (some .int) (some (.int r.1)) r.2 0 0) {k139 : AH → Nat → Int32 → Int32 → Int32 → Option (Int32 × AH)} (hk139 : ∀ (h : AH) (v0 : Nat) (v1 : Int32) (v2 : Int32) (v3 : Int32), GO Y X 5 r h 0 0 139 [(0, .ref v0), (1, .int v1), (2, .int v2), (3, .int v3)] [] (k139 h v0 v1 v2 v3)) : ∀ (n : Nat) (h : AH) (v0 : Nat) (v1 : Int32) (v2 : Int32) (v3 : Int32) (v4 : Int32), GO Y X 5 r h 0 0 98 [(0, .ref v0), (1, .int v1), (2, .int v2), (3, .int v3), (4, .int v4)] [] (fX11_day_L98 k139 n h v0 v1 v2 v3 v4) := by
  intro n
  induction n with
  | zero => intros; exact go_none _ _ _
  | succ n ih =>
    intro h v0 v1 v2 v3 v4
    rw [fX11_day_L98]
    refine go_iload (pc := 98) C 4 dX11_day_98 rfl ?_
    refine go_sipush (pc := 100) C dX11_day_100 ks_325 ?_
    refine go_icmp_ge (pc := 103) C 139 dX11_day_103 (by decide) (fun _ => ?_) (fun _ => ?_)
    · refine go_sub (ls' := [(0, .ref v0), (1, .int v1), (2, .int v2), (3, .int v3)]) [0, 1, 2, 3] rfl ?_
      exact hk139 h v0 v1 v2 v3
    · refine go_iload_n (pc := 106) C 3 dX11_day_106 rfl ?_
      refine go_if_ne (pc := 107) C 127 dX11_day_107 (by decide) (fun _ => ?_) (fun _ => ?_)
      · refine go_aload_n (pc := 110) C 0 dX11_day_110 rfl ?_
        refine go_gR (pc := 111) C fdX11_9 dX11_day_111 (fun x8 => ?_)
        refine go_iload (pc := 114) C 4 dX11_day_114 rfl ?_
        refine go_iald (pc := 116) C dX11_day_116 (fun x9 => ?_)
        refine go_aload_n (pc := 117) C 0 dX11_day_117 rfl ?_
        refine go_gR (pc := 118) C fdX11_36 dX11_day_118 (fun x10 => ?_)
        refine go_iload (pc := 121) C 4 dX11_day_121 rfl ?_
        refine go_iald (pc := 123) C dX11_day_123 (fun x11 => ?_)
        refine go_icmp_eq (pc := 124) C 131 dX11_day_124 (by decide) (fun _ => ?_) (fun _ => ?_)
        · refine go_iconst (pc := 131) C dX11_day_131 ki_0 ?_
          refine go_istore_n (ls' := [(3, .int 0), (0, .ref v0), (1, .int v1), (2, .int v2), (4, .int v4)]) (pc := 132) C dX11_day_132 (by decide) rfl ?_
          refine go_iincL (pc := 133) C 4 dX11_day_133 rfl ki_1 (by decide) (fun x12 => [(4, .int x12), (3, .int 0), (0, .ref v0), (1, .int v1), (2, .int v2)]) (fun _ => rfl) (fun x12 => ?_)
          refine go_goto (pc := 136) C 98 dX11_day_136 (by decide) ?_
          refine go_sub (ls' := [(0, .ref v0), (1, .int v1), (2, .int v2), (3, .int 0), (4, .int x12)]) [2, 3, 4, 1, 0] rfl ?_
          exact ih h v0 v1 v2 0 x12
        · refine go_iconst (pc := 127) C dX11_day_127 ki_1 ?_
          refine go_goto (pc := 128) C 132 dX11_day_128 (by decide) ?_
          refine go_istore_n (ls' := [(3, .int 1), (0, .ref v0), (1, .int v1), (2, .int v2), (4, .int v4)]) (pc := 132) C dX11_day_132 (by decide) rfl ?_
          refine go_iincL (pc := 133) C 4 dX11_day_133 rfl ki_1 (by decide) (fun x13 => [(4, .int x13), (3, .int 1), (0, .ref v0), (1, .int v1), (2, .int v2)]) (fun _ => rfl) (fun x13 => ?_)
          refine go_goto (pc := 136) C 98 dX11_day_136 (by decide) ?_
          refine go_sub (ls' := [(0, .ref v0), (1, .int v1), (2, .int v2), (3, .int 1), (4, .int x13)]) [2, 3, 4, 1, 0] rfl ?_
          exact ih h v0 v1 v2 1 x13
      · refine go_iconst (pc := 127) C dX11_day_127 ki_1 ?_
        refine go_goto (pc := 128) C 132 dX11_day_128 (by decide) ?_
        refine go_istore_n (ls' := [(3, .int 1), (0, .ref v0), (1, .int v1), (2, .int v2), (4, .int v4)]) (pc := 132) C dX11_day_132 (by decide) rfl ?_
        refine go_iincL (pc := 133) C 4 dX11_day_133 rfl ki_1 (by decide) (fun x14 => [(4, .int x14), (3, .int 1), (0, .ref v0), (1, .int v1), (2, .int v2)]) (fun _ => rfl) (fun x14 => ?_)
        refine go_goto (pc := 136) C 98 dX11_day_136 (by decide) ?_
        refine go_sub (ls' := [(0, .ref v0), (1, .int v1), (2, .int v2), (3, .int 1), (4, .int x14)]) [2, 3, 4, 1, 0] rfl ?_
        exact ih h v0 v1 v2 1 x14
set_option maxHeartbeats 4000000 in
theorem gX11_day_J147 {Y : YT} {X : XT} (C : CT Y X RX11 cX11_day 5) (O : RO X 211 0 0) {r : Int32 × AH} (E : RX Y X (some .int) (some (.int r.1)) r.2 0 0) {k155 : AH → Nat → Int32 → Int32 → Option (Int32 × AH)} (hk155 : ∀ (h : AH) (v0 : Nat) (v1 : Int32) (v2 : Int32), GO Y X 5 r h 0 0 155 [(0, .ref v0), (1, .int v1), (2, .int v2)] [] (k155 h v0 v1 v2)) : ∀ (h : AH) (v0 : Nat) (v1 : Int32) (v2 : Int32), GO Y X 5 r h 0 0 147 [(0, .ref v0), (1, .int v1), (2, .int v2)] [] (fX11_day_J147 k155 h v0 v1 v2) := by
  intro h v0 v1 v2
  unfold fX11_day_J147
  refine go_aload_n (pc := 147) C 0 dX11_day_147 rfl ?_
  refine go_aload_n (pc := 148) C 0 dX11_day_148 rfl ?_
  refine go_gR (pc := 149) C fdX11_36 dX11_day_149 (fun x15 => ?_)
  refine go_bind (fun q16 hq16 => ?_)
  refine go_callV (rest := []) (st' := []) (c' := 0) (s' := 0) (pc := 152) C O miX11_184 mvX11_remember [.ref x15] rfl (mX11_remember hq16).1 (mX11_remember hq16).2 dX11_day_152 ⟨by decide, by decide, by decide, by decide⟩ rfl (Nat.le_of_ble_eq_true rfl) rfl ⟨rfl, rfl⟩ ?_
  refine go_sub (ls' := [(0, .ref v0), (1, .int v1), (2, .int v2)]) [0, 1, 2] rfl ?_
  exact hk155 q16 v0 v1 v2
set_option maxHeartbeats 4000000 in
theorem gX11_day_J171 {Y : YT} {X : XT} (C : CT Y X RX11 cX11_day 5) (O : RO X 211 0 0) {r : Int32 × AH} (E : RX Y X (some .int) (some (.int r.1)) r.2 0 0) : ∀ (h : AH) (v0 : Nat) (v2 : Int32) (s0 : Int64) (s1 : Nat), GO Y X 5 r h 0 0 171 [(0, .ref v0), (2, .int v2)] [.long s0, .ref s1] (fX11_day_J171 h v0 v2 s0 s1) := by
  intro h v0 v2 s0 s1
  unfold fX11_day_J171
  refine go_bind (fun q17 hq17 => ?_)
  refine go_callV (rest := []) (st' := []) (c' := 0) (s' := 0) (pc := 171) C O miX11_283 mvX11_tell [.long s0] rfl (mX11_tell hq17).1 (mX11_tell hq17).2 dX11_day_171 ⟨by decide, by decide, by decide, by decide⟩ rfl (Nat.le_of_ble_eq_true rfl) rfl ⟨rfl, rfl⟩ ?_
  refine go_aload_n (pc := 174) C 0 dX11_day_174 rfl ?_
  refine go_aload_n (pc := 175) C 0 dX11_day_175 rfl ?_
  refine go_gR (pc := 176) C fdX11_9 dX11_day_176 (fun x18 => ?_)
  refine go_bind (fun q19 hq19 => ?_)
  refine go_callS (rest := [.ref v0]) (st' := [.int q19, .ref v0]) (c' := 0) (s' := 0) (pc := 179) C O miX11_181 w_1488 [.ref x18] rfl (mX11_framesOf hq19) dX11_day_179 ⟨by decide, by decide, by decide, by decide⟩ rfl (Nat.le_of_ble_eq_true rfl) rfl ⟨rfl, rfl⟩ ?_
  refine go_i2l (pc := 182) C dX11_day_182 ?_
  refine go_bind (fun q20 hq20 => ?_)
  refine go_callV (rest := []) (st' := []) (c' := 0) (s' := 0) (pc := 183) C O miX11_283 mvX11_tell [.long (Int32.toInt64 q19)] rfl (mX11_tell hq20).1 (mX11_tell hq20).2 dX11_day_183 ⟨by decide, by decide, by decide, by decide⟩ rfl (Nat.le_of_ble_eq_true rfl) rfl ⟨rfl, rfl⟩ ?_
  refine go_iload_n (pc := 186) C 1 dX11_day_186 rfl ?_
  exact go_iret (w := wIh) (pc := 187) C E ((v2, q20)) v2 dX11_day_187 rfl
set_option maxHeartbeats 4000000 in
theorem gX11_day_J155 {Y : YT} {X : XT} (C : CT Y X RX11 cX11_day 5) (O : RO X 211 0 0) {r : Int32 × AH} (E : RX Y X (some .int) (some (.int r.1)) r.2 0 0) : ∀ (h : AH) (v0 : Nat) (v1 : Int32) (v2 : Int32), GO Y X 5 r h 0 0 155 [(0, .ref v0), (1, .int v1), (2, .int v2)] [] (fX11_day_J155 h v0 v1 v2) := by
  intro h v0 v1 v2
  unfold fX11_day_J155
  refine go_aload_n (pc := 155) C 0 dX11_day_155 rfl ?_
  refine go_iconst (pc := 156) C dX11_day_156 ki_0 ?_
  refine go_pI (pc := 157) C fpX11_81 dX11_day_157 (fun h21 => ?_)
  refine go_aload_n (pc := 160) C 0 dX11_day_160 rfl ?_
  refine go_iload_n (pc := 161) C 2 dX11_day_161 rfl ?_
  refine go_iload_n (pc := 162) C 1 dX11_day_162 rfl ?_
  refine go_icmp_ge (pc := 163) C 170 dX11_day_163 (by decide) (fun _ => ?_) (fun _ => ?_)
  · refine go_lconst (v := 0) (pc := 170) C dX11_day_170 (by decide) ?_
    refine go_sub (ls' := [(0, .ref v0), (2, .int v2)]) [0, 2] rfl ?_
    refine gX11_day_J171 C O E h21 v0 v2 0 v0
  · refine go_lconst (v := 1) (pc := 166) C dX11_day_166 (by decide) ?_
    refine go_goto (pc := 167) C 171 dX11_day_167 (by decide) ?_
    refine go_sub (ls' := [(0, .ref v0), (2, .int v2)]) [0, 2] rfl ?_
    refine gX11_day_J171 C O E h21 v0 v2 1 v0
set_option maxHeartbeats 4000000 in
theorem gX11_day_J44 {Y : YT} {X : XT} (C : CT Y X RX11 cX11_day 5) (O : RO X 211 0 0) {r : Int32 × AH} (E : RX Y X (some .int) (some (.int r.1)) r.2 0 0) : ∀ (h : AH) (v0 : Nat) (v1 : Int32), GO Y X 5 r h 0 0 44 [(0, .ref v0), (1, .int v1)] [] (fX11_day_J44 h v0 v1) := by
  intro h v0 v1
  unfold fX11_day_J44
  refine go_aload_n (pc := 44) C 0 dX11_day_44 rfl ?_
  refine go_bind (fun q22 hq22 => ?_)
  refine go_callV (rest := []) (st' := [.int (b2i q22.1)]) (c' := 0) (s' := 0) (pc := 45) C O miX11_175 mvX11_wasRight [] rfl (mX11_wasRight hq22).1 (mX11_wasRight hq22).2 dX11_day_45 ⟨by decide, by decide, by decide, by decide⟩ rfl (Nat.le_of_ble_eq_true rfl) rfl ⟨rfl, rfl⟩ ?_
  refine go_ifZ_ne (pc := 48) C 58 dX11_day_48 (by decide) (fun _ => ?_) (fun _ => ?_)
  · refine go_aload_n (pc := 58) C 0 dX11_day_58 rfl ?_
    refine go_gR (pc := 59) C fdX11_9 dX11_day_59 (fun x23 => ?_)
    refine go_aload_n (pc := 62) C 0 dX11_day_62 rfl ?_
    refine go_gR (pc := 63) C fdX11_36 dX11_day_63 (fun x24 => ?_)
    refine go_iconst (pc := 66) C dX11_day_66 ki_0 ?_
    refine go_bind (fun q25 hq25 => ?_)
    refine go_callS (rest := []) (st' := []) (c' := 0) (s' := 0) (pc := 67) C O miX11_255 w_1502 [.ref x23, .ref x24, .int 0] rfl (mX11_lay hq25) dX11_day_67 ⟨by decide, by decide, by decide, by decide⟩ rfl (Nat.le_of_ble_eq_true rfl) rfl ⟨rfl, rfl⟩ ?_
    refine go_iconst (pc := 70) C dX11_day_70 ki_0 ?_
    refine go_istore_n (ls' := [(2, .int 0), (0, .ref v0), (1, .int v1)]) (pc := 71) C dX11_day_71 (by decide) rfl ?_
    refine go_iconst (pc := 72) C dX11_day_72 ki_0 ?_
    refine go_istore_n (ls' := [(3, .int 0), (2, .int 0), (0, .ref v0), (1, .int v1)]) (pc := 73) C dX11_day_73 (by decide) rfl ?_
    refine go_sub (ls' := [(0, .ref v0), (1, .int v1), (2, .int 0), (3, .int 0)]) [2, 3, 1, 0] rfl ?_
    refine gX11_day_L74 C O E (fun h30 x26 x27 x28 x29 => ?_) FU q25 v0 v1 0 0
    · refine go_iconst (pc := 95) C dX11_day_95 ki_0 ?_
      refine go_istore (ls' := [(4, .int 0), (0, .ref x26), (1, .int x27), (2, .int x28), (3, .int x29)]) (pc := 96) C dX11_day_96 (by decide) rfl ?_
      refine go_sub (ls' := [(0, .ref x26), (1, .int x27), (2, .int x28), (3, .int x29), (4, .int 0)]) [1, 2, 3, 4, 0] rfl ?_
      refine gX11_day_L98 C O E (fun h35 x31 x32 x33 x34 => ?_) FU h30 x26 x27 x28 x29 0
      · refine go_iload_n (pc := 139) C 2 dX11_day_139 rfl ?_
        refine go_if_gt (pc := 140) C 147 dX11_day_140 (by decide) (fun _ => ?_) (fun _ => ?_)
        · refine go_sub (ls' := [(0, .ref x31), (1, .int x32), (2, .int x33)]) [0, 1, 2] rfl ?_
          refine gX11_day_J147 C O E (fun h39 x36 x37 x38 => ?_) h35 x31 x32 x33
          · refine go_sub (ls' := [(0, .ref x36), (1, .int x37), (2, .int x38)]) [0, 1, 2] rfl ?_
            refine gX11_day_J155 C O E h39 x36 x37 x38
        · refine go_iload_n (pc := 143) C 3 dX11_day_143 rfl ?_
          refine go_if_eq (pc := 144) C 155 dX11_day_144 (by decide) (fun _ => ?_) (fun _ => ?_)
          · refine go_sub (ls' := [(0, .ref x31), (1, .int x32), (2, .int x33)]) [0, 1, 2] rfl ?_
            refine gX11_day_J155 C O E h35 x31 x32 x33
          · refine go_sub (ls' := [(0, .ref x31), (1, .int x32), (2, .int x33)]) [0, 1, 2] rfl ?_
            refine gX11_day_J147 C O E (fun h43 x40 x41 x42 => ?_) h35 x31 x32 x33
            · refine go_sub (ls' := [(0, .ref x40), (1, .int x41), (2, .int x42)]) [0, 1, 2] rfl ?_
              refine gX11_day_J155 C O E h43 x40 x41 x42
  · refine go_iconst (pc := 51) C dX11_day_51 ki_m1 ?_
    refine go_aload_n (pc := 52) C 0 dX11_day_52 rfl ?_
    refine go_gI (pc := 53) C fdX11_138 dX11_day_53 (fun x44 => ?_)
    refine go_isub (pc := 56) C dX11_day_56 ?_
    exact go_iret (w := wIh) (pc := 57) C E ((((-1)) - x44, q22.2)) (((-1)) - x44) dX11_day_57 rfl
set_option maxHeartbeats 4000000 in
theorem mX11_day {h : AH} {a0 : Nat} {r : Int32 × AH} (hr : fX11_day h a0 = some r) : hasC h 11 a0 = true ∧ MC yX11_day cX11_day 5 (some .int) 211 0 0 [.ref a0] h (some (.int r.1)) r.2 := by
  unfold fX11_day at hr
  obtain ⟨hc, hr⟩ := if_some hr
  refine ⟨hc, mc_of (l0 := [(0, .ref a0)]) rfl pn_X11 (Nat.le_of_ble_eq_true rfl) (fun Y X C E O hnm => go_run hr ?_)⟩
  have C : CT Y X RX11 cX11_day 5 := C
  refine go_aload_n (pc := 0) C 0 dX11_day_0 rfl ?_
  refine go_iconst (pc := 1) C dX11_day_1 ki_0 ?_
  refine go_pI (pc := 2) C fpX11_77 dX11_day_2 (fun h45 => ?_)
  refine go_aload_n (pc := 5) C 0 dX11_day_5 rfl ?_
  refine go_bipush (pc := 6) C dX11_day_6 kb_60 ?_
  refine go_bind (fun q46 hq46 => ?_)
  refine go_callV (rest := []) (st' := []) (c' := 0) (s' := 0) (pc := 8) C O miX11_169 mvX11_beginText [.int 60] rfl (mX11_beginText hq46).1 (mX11_beginText hq46).2 dX11_day_8 ⟨by decide, by decide, by decide, by decide⟩ rfl (Nat.le_of_ble_eq_true rfl) rfl ⟨rfl, rfl⟩ ?_
  refine go_iconst (pc := 11) C dX11_day_11 ki_0 ?_
  refine go_istore_n (ls' := [(1, .int 0), (0, .ref a0)]) (pc := 12) C dX11_day_12 (by decide) rfl ?_
  refine go_sub (ls' := [(0, .ref a0), (1, .int 0)]) [1, 0] rfl ?_
  refine gX11_day_L13 C O E (fun h49 x47 x48 => ?_) FU q46 a0 0
  · refine go_sub (ls' := [(0, .ref x47), (1, .int x48)]) [0, 1] rfl ?_
    refine gX11_day_J44 C O E h49 x47 x48
theorem dX11_undo_0 : decode cX11_undo 0 = .ok (.aload_n 0, 1) := by decide +kernel
theorem dX11_undo_1 : decode cX11_undo 1 = .ok (.iconst 0, 1) := by decide +kernel
theorem dX11_undo_2 : decode cX11_undo 2 = .ok (.putfield 77, 3) := by decide +kernel
theorem dX11_undo_5 : decode cX11_undo 5 = .ok (.aload_n 0, 1) := by decide +kernel
theorem dX11_undo_6 : decode cX11_undo 6 = .ok (.getfield 252, 3) := by decide +kernel
theorem dX11_undo_9 : decode cX11_undo 9 = .ok (.ifCond .ne 5, 3) := by decide +kernel
theorem dX11_undo_12 : decode cX11_undo 12 = .ok (.iconst (-1), 1) := by decide +kernel
theorem dX11_undo_13 : decode cX11_undo 13 = .ok (.ireturn, 1) := by decide +kernel
theorem dX11_undo_14 : decode cX11_undo 14 = .ok (.aload_n 0, 1) := by decide +kernel
theorem dX11_undo_15 : decode cX11_undo 15 = .ok (.dup, 1) := by decide +kernel
theorem dX11_undo_16 : decode cX11_undo 16 = .ok (.getfield 252, 3) := by decide +kernel
theorem dX11_undo_19 : decode cX11_undo 19 = .ok (.iconst 1, 1) := by decide +kernel
theorem dX11_undo_20 : decode cX11_undo 20 = .ok (.isub, 1) := by decide +kernel
theorem dX11_undo_21 : decode cX11_undo 21 = .ok (.putfield 252, 3) := by decide +kernel
theorem dX11_undo_24 : decode cX11_undo 24 = .ok (.iconst 0, 1) := by decide +kernel
theorem dX11_undo_25 : decode cX11_undo 25 = .ok (.istore_n 1, 1) := by decide +kernel
theorem dX11_undo_26 : decode cX11_undo 26 = .ok (.iload_n 1, 1) := by decide +kernel
theorem dX11_undo_27 : decode cX11_undo 27 = .ok (.sipush 325, 3) := by decide +kernel
theorem dX11_undo_30 : decode cX11_undo 30 = .ok (.if_icmp .ge 30, 3) := by decide +kernel
theorem dX11_undo_33 : decode cX11_undo 33 = .ok (.aload_n 0, 1) := by decide +kernel
theorem dX11_undo_34 : decode cX11_undo 34 = .ok (.getfield 9, 3) := by decide +kernel
theorem dX11_undo_37 : decode cX11_undo 37 = .ok (.iload_n 1, 1) := by decide +kernel
theorem dX11_undo_38 : decode cX11_undo 38 = .ok (.aload_n 0, 1) := by decide +kernel
theorem dX11_undo_39 : decode cX11_undo 39 = .ok (.getfield 33, 3) := by decide +kernel
theorem dX11_undo_42 : decode cX11_undo 42 = .ok (.sipush 325, 3) := by decide +kernel
theorem dX11_undo_45 : decode cX11_undo 45 = .ok (.aload_n 0, 1) := by decide +kernel
theorem dX11_undo_46 : decode cX11_undo 46 = .ok (.getfield 252, 3) := by decide +kernel
theorem dX11_undo_49 : decode cX11_undo 49 = .ok (.imul, 1) := by decide +kernel
theorem dX11_undo_50 : decode cX11_undo 50 = .ok (.iload_n 1, 1) := by decide +kernel
theorem dX11_undo_51 : decode cX11_undo 51 = .ok (.iadd, 1) := by decide +kernel
theorem dX11_undo_52 : decode cX11_undo 52 = .ok (.iaload, 1) := by decide +kernel
theorem dX11_undo_53 : decode cX11_undo 53 = .ok (.iastore, 1) := by decide +kernel
theorem dX11_undo_54 : decode cX11_undo 54 = .ok (.iinc 1 1, 3) := by decide +kernel
theorem dX11_undo_57 : decode cX11_undo 57 = .ok (.goto (-31), 3) := by decide +kernel
theorem dX11_undo_60 : decode cX11_undo 60 = .ok (.aload_n 0, 1) := by decide +kernel
theorem dX11_undo_61 : decode cX11_undo 61 = .ok (.getfield 252, 3) := by decide +kernel
theorem dX11_undo_64 : decode cX11_undo 64 = .ok (.ireturn, 1) := by decide +kernel
def fX11_undo_L26 : Nat → AH → Nat → Int32 → Option (Int32 × AH)
  | 0, _, _, _ => none
  | n + 1, h, v0, v1 =>
    if 325 ≤ v1 then (
      (gI h 11 v0 18).bind fun x1 =>
      some ((x1, h))
    ) else (
      (gR h 11 v0 0).bind fun x2 =>
      (gR h 11 v0 17).bind fun x3 =>
      (gI h 11 v0 18).bind fun x4 =>
      (aI h 0 x3 ((325 * x4) + v1)).bind fun x5 =>
      (sI h 0 x2 v1 x5).bind fun h6 =>
      letF (v1 + 1 : Int32) fun x7 =>
      fX11_undo_L26 n h6 v0 x7
    )
def fX11_undo (h : AH) (a0 : Nat) : Option (Int32 × AH) :=
  if hasC h 11 a0 = true then (
    (pF h 11 a0 5 (.int 0)).bind fun h8 =>
    (gI h8 11 a0 18).bind fun x9 =>
    if x9 = 0 then (
      some (((-1), h8))
    ) else (
      (gI h8 11 a0 18).bind fun x10 =>
      (pF h8 11 a0 18 (.int (x10 - 1))).bind fun h11 =>
      fX11_undo_L26 FU h11 a0 0
    )
  ) else none
set_option maxHeartbeats 4000000 in
theorem gX11_undo_L26 {Y : YT} {X : XT} (C : CT Y X RX11 cX11_undo 2) (O : RO X 1 0 0) {r : Int32 × AH} (E : RX Y X (some .int) (some (.int r.1)) r.2 0 0) : ∀ (n : Nat) (h : AH) (v0 : Nat) (v1 : Int32), GO Y X 2 r h 0 0 26 [(0, .ref v0), (1, .int v1)] [] (fX11_undo_L26 n h v0 v1) := by
  intro n
  induction n with
  | zero => intros; exact go_none _ _ _
  | succ n ih =>
    intro h v0 v1
    rw [fX11_undo_L26]
    refine go_iload_n (pc := 26) C 1 dX11_undo_26 rfl ?_
    refine go_sipush (pc := 27) C dX11_undo_27 ks_325 ?_
    refine go_icmp_ge (pc := 30) C 60 dX11_undo_30 (by decide) (fun _ => ?_) (fun _ => ?_)
    · refine go_aload_n (pc := 60) C 0 dX11_undo_60 rfl ?_
      refine go_gI (pc := 61) C fdX11_252 dX11_undo_61 (fun x1 => ?_)
      exact go_iret (w := wIh) (pc := 64) C E ((x1, h)) x1 dX11_undo_64 rfl
    · refine go_aload_n (pc := 33) C 0 dX11_undo_33 rfl ?_
      refine go_gR (pc := 34) C fdX11_9 dX11_undo_34 (fun x2 => ?_)
      refine go_iload_n (pc := 37) C 1 dX11_undo_37 rfl ?_
      refine go_aload_n (pc := 38) C 0 dX11_undo_38 rfl ?_
      refine go_gR (pc := 39) C fdX11_33 dX11_undo_39 (fun x3 => ?_)
      refine go_sipush (pc := 42) C dX11_undo_42 ks_325 ?_
      refine go_aload_n (pc := 45) C 0 dX11_undo_45 rfl ?_
      refine go_gI (pc := 46) C fdX11_252 dX11_undo_46 (fun x4 => ?_)
      refine go_imul (pc := 49) C dX11_undo_49 ?_
      refine go_iload_n (pc := 50) C 1 dX11_undo_50 rfl ?_
      refine go_iadd (pc := 51) C dX11_undo_51 ?_
      refine go_iald (pc := 52) C dX11_undo_52 (fun x5 => ?_)
      refine go_iast (pc := 53) C dX11_undo_53 (fun h6 => ?_)
      refine go_iincL (pc := 54) C 1 dX11_undo_54 rfl ki_1 (by decide) (fun x7 => [(1, .int x7), (0, .ref v0)]) (fun _ => rfl) (fun x7 => ?_)
      refine go_goto (pc := 57) C 26 dX11_undo_57 (by decide) ?_
      refine go_sub (ls' := [(0, .ref v0), (1, .int x7)]) [1, 0] rfl ?_
      exact ih h6 v0 x7
set_option maxHeartbeats 4000000 in
theorem mX11_undo {h : AH} {a0 : Nat} {r : Int32 × AH} (hr : fX11_undo h a0 = some r) : hasC h 11 a0 = true ∧ MC yX11_undo cX11_undo 2 (some .int) 1 0 0 [.ref a0] h (some (.int r.1)) r.2 := by
  unfold fX11_undo at hr
  obtain ⟨hc, hr⟩ := if_some hr
  refine ⟨hc, mc_of (l0 := [(0, .ref a0)]) rfl pn_X11 (Nat.le_of_ble_eq_true rfl) (fun Y X C E O hnm => go_run hr ?_)⟩
  have C : CT Y X RX11 cX11_undo 2 := C
  refine go_aload_n (pc := 0) C 0 dX11_undo_0 rfl ?_
  refine go_iconst (pc := 1) C dX11_undo_1 ki_0 ?_
  refine go_pI (pc := 2) C fpX11_77 dX11_undo_2 (fun h8 => ?_)
  refine go_aload_n (pc := 5) C 0 dX11_undo_5 rfl ?_
  refine go_gI (pc := 6) C fdX11_252 dX11_undo_6 (fun x9 => ?_)
  refine go_if_ne (pc := 9) C 14 dX11_undo_9 (by decide) (fun _ => ?_) (fun _ => ?_)
  · refine go_iconst (pc := 12) C dX11_undo_12 ki_m1 ?_
    exact go_iret (w := wIh) (pc := 13) C E (((-1), h8)) ((-1)) dX11_undo_13 rfl
  · refine go_aload_n (pc := 14) C 0 dX11_undo_14 rfl ?_
    refine go_dup (pc := 15) C dX11_undo_15 rfl ?_
    refine go_gI (pc := 16) C fdX11_252 dX11_undo_16 (fun x10 => ?_)
    refine go_iconst (pc := 19) C dX11_undo_19 ki_1 ?_
    refine go_isub (pc := 20) C dX11_undo_20 ?_
    refine go_pI (pc := 21) C fpX11_252 dX11_undo_21 (fun h11 => ?_)
    refine go_iconst (pc := 24) C dX11_undo_24 ki_0 ?_
    refine go_istore_n (ls' := [(1, .int 0), (0, .ref a0)]) (pc := 25) C dX11_undo_25 (by decide) rfl ?_
    refine go_sub (ls' := [(0, .ref a0), (1, .int 0)]) [1, 0] rfl ?_
    refine gX11_undo_L26 C O E FU h11 a0 0
theorem dX11_chain_0 : decode cX11_chain 0 = .ok (.aload_n 0, 1) := by decide +kernel
theorem dX11_chain_1 : decode cX11_chain 1 = .ok (.iconst 0, 1) := by decide +kernel
theorem dX11_chain_2 : decode cX11_chain 2 = .ok (.putfield 77, 3) := by decide +kernel
theorem dX11_chain_5 : decode cX11_chain 5 = .ok (.aload_n 0, 1) := by decide +kernel
theorem dX11_chain_6 : decode cX11_chain 6 = .ok (.getfield 9, 3) := by decide +kernel
theorem dX11_chain_9 : decode cX11_chain 9 = .ok (.iload_n 1, 1) := by decide +kernel
theorem dX11_chain_10 : decode cX11_chain 10 = .ok (.invokestatic 106, 3) := by decide +kernel
theorem dX11_chain_13 : decode cX11_chain 13 = .ok (.ifCond .ne 5, 3) := by decide +kernel
theorem dX11_chain_16 : decode cX11_chain 16 = .ok (.iconst (-1), 1) := by decide +kernel
theorem dX11_chain_17 : decode cX11_chain 17 = .ok (.ireturn, 1) := by decide +kernel
theorem dX11_chain_18 : decode cX11_chain 18 = .ok (.aload_n 0, 1) := by decide +kernel
theorem dX11_chain_19 : decode cX11_chain 19 = .ok (.getfield 9, 3) := by decide +kernel
theorem dX11_chain_22 : decode cX11_chain 22 = .ok (.iload_n 1, 1) := by decide +kernel
theorem dX11_chain_23 : decode cX11_chain 23 = .ok (.invokestatic 116, 3) := by decide +kernel
theorem dX11_chain_26 : decode cX11_chain 26 = .ok (.istore_n 2, 1) := by decide +kernel
theorem dX11_chain_27 : decode cX11_chain 27 = .ok (.aload_n 0, 1) := by decide +kernel
theorem dX11_chain_28 : decode cX11_chain 28 = .ok (.iconst 0, 1) := by decide +kernel
theorem dX11_chain_29 : decode cX11_chain 29 = .ok (.putfield 81, 3) := by decide +kernel
theorem dX11_chain_32 : decode cX11_chain 32 = .ok (.iconst 0, 1) := by decide +kernel
theorem dX11_chain_33 : decode cX11_chain 33 = .ok (.istore_n 3, 1) := by decide +kernel
theorem dX11_chain_34 : decode cX11_chain 34 = .ok (.iload_n 3, 1) := by decide +kernel
theorem dX11_chain_35 : decode cX11_chain 35 = .ok (.iload_n 2, 1) := by decide +kernel
theorem dX11_chain_36 : decode cX11_chain 36 = .ok (.if_icmp .ge 23, 3) := by decide +kernel
theorem dX11_chain_39 : decode cX11_chain 39 = .ok (.aload_n 0, 1) := by decide +kernel
theorem dX11_chain_40 : decode cX11_chain 40 = .ok (.aload_n 0, 1) := by decide +kernel
theorem dX11_chain_41 : decode cX11_chain 41 = .ok (.getfield 9, 3) := by decide +kernel
theorem dX11_chain_44 : decode cX11_chain 44 = .ok (.iload_n 1, 1) := by decide +kernel
theorem dX11_chain_45 : decode cX11_chain 45 = .ok (.iload_n 3, 1) := by decide +kernel
theorem dX11_chain_46 : decode cX11_chain 46 = .ok (.invokestatic 119, 3) := by decide +kernel
theorem dX11_chain_49 : decode cX11_chain 49 = .ok (.i2l, 1) := by decide +kernel
theorem dX11_chain_50 : decode cX11_chain 50 = .ok (.invokevirtual 283, 3) := by decide +kernel
theorem dX11_chain_53 : decode cX11_chain 53 = .ok (.iinc 3 1, 3) := by decide +kernel
theorem dX11_chain_56 : decode cX11_chain 56 = .ok (.goto (-22), 3) := by decide +kernel
theorem dX11_chain_59 : decode cX11_chain 59 = .ok (.iload_n 2, 1) := by decide +kernel
theorem dX11_chain_60 : decode cX11_chain 60 = .ok (.ireturn, 1) := by decide +kernel
def fX11_chain_L34 : Nat → AH → Nat → Int32 → Int32 → Int32 → Option (Int32 × AH)
  | 0, _, _, _, _, _ => none
  | n + 1, h, v0, v1, v2, v3 =>
    if v2 ≤ v3 then (
      some ((v2, h))
    ) else (
      (gR h 11 v0 0).bind fun x1 =>
      (fX11_objectAt h x1 v1 v3).bind fun q2 =>
      (fX11_tell h v0 (Int32.toInt64 q2)).bind fun q3 =>
      letF (v3 + 1 : Int32) fun x4 =>
      fX11_chain_L34 n q3 v0 v1 v2 x4
    )
def fX11_chain (h : AH) (a0 : Nat) (a1 : Int32) : Option (Int32 × AH) :=
  if hasC h 11 a0 = true then (
    (pF h 11 a0 5 (.int 0)).bind fun h5 =>
    (gR h5 11 a0 0).bind fun x6 =>
    (fX11_isSpace h5 x6 a1).bind fun q7 =>
    if q7 = true then (
      (gR h5 11 a0 0).bind fun x8 =>
      (fX11_lengthOf h5 x8 a1).bind fun q9 =>
      (pF h5 11 a0 4 (.int 0)).bind fun h10 =>
      fX11_chain_L34 FU h10 a0 a1 q9 0
    ) else (
      some (((-1), h5))
    )
  ) else none
set_option maxHeartbeats 4000000 in
theorem gX11_chain_L34 {Y : YT} {X : XT} (C : CT Y X RX11 cX11_chain 4) (O : RO X 3 0 0) {r : Int32 × AH} (E : RX Y X (some .int) (some (.int r.1)) r.2 0 0) : ∀ (n : Nat) (h : AH) (v0 : Nat) (v1 : Int32) (v2 : Int32) (v3 : Int32), GO Y X 4 r h 0 0 34 [(0, .ref v0), (1, .int v1), (2, .int v2), (3, .int v3)] [] (fX11_chain_L34 n h v0 v1 v2 v3) := by
  intro n
  induction n with
  | zero => intros; exact go_none _ _ _
  | succ n ih =>
    intro h v0 v1 v2 v3
    rw [fX11_chain_L34]
    refine go_iload_n (pc := 34) C 3 dX11_chain_34 rfl ?_
    refine go_iload_n (pc := 35) C 2 dX11_chain_35 rfl ?_
    refine go_icmp_ge (pc := 36) C 59 dX11_chain_36 (by decide) (fun _ => ?_) (fun _ => ?_)
    · refine go_iload_n (pc := 59) C 2 dX11_chain_59 rfl ?_
      exact go_iret (w := wIh) (pc := 60) C E ((v2, h)) v2 dX11_chain_60 rfl
    · refine go_aload_n (pc := 39) C 0 dX11_chain_39 rfl ?_
      refine go_aload_n (pc := 40) C 0 dX11_chain_40 rfl ?_
      refine go_gR (pc := 41) C fdX11_9 dX11_chain_41 (fun x1 => ?_)
      refine go_iload_n (pc := 44) C 1 dX11_chain_44 rfl ?_
      refine go_iload_n (pc := 45) C 3 dX11_chain_45 rfl ?_
      refine go_bind (fun q2 hq2 => ?_)
      refine go_callS (rest := [.ref v0]) (st' := [.int q2, .ref v0]) (c' := 0) (s' := 0) (pc := 46) C O miX11_119 w_1608 [.ref x1, .int v1, .int v3] rfl (mX11_objectAt hq2) dX11_chain_46 ⟨by decide, by decide, by decide, by decide⟩ rfl (Nat.le_of_ble_eq_true rfl) rfl ⟨rfl, rfl⟩ ?_
      refine go_i2l (pc := 49) C dX11_chain_49 ?_
      refine go_bind (fun q3 hq3 => ?_)
      refine go_callV (rest := []) (st' := []) (c' := 0) (s' := 0) (pc := 50) C O miX11_283 mvX11_tell [.long (Int32.toInt64 q2)] rfl (mX11_tell hq3).1 (mX11_tell hq3).2 dX11_chain_50 ⟨by decide, by decide, by decide, by decide⟩ rfl (Nat.le_of_ble_eq_true rfl) rfl ⟨rfl, rfl⟩ ?_
      refine go_iincL (pc := 53) C 3 dX11_chain_53 rfl ki_1 (by decide) (fun x4 => [(3, .int x4), (0, .ref v0), (1, .int v1), (2, .int v2)]) (fun _ => rfl) (fun x4 => ?_)
      refine go_goto (pc := 56) C 34 dX11_chain_56 (by decide) ?_
      refine go_sub (ls' := [(0, .ref v0), (1, .int v1), (2, .int v2), (3, .int x4)]) [1, 2, 3, 0] rfl ?_
      exact ih q3 v0 v1 v2 x4
set_option maxHeartbeats 4000000 in
theorem mX11_chain {h : AH} {a0 : Nat} {a1 : Int32} {r : Int32 × AH} (hr : fX11_chain h a0 a1 = some r) : hasC h 11 a0 = true ∧ MC yX11_chain cX11_chain 4 (some .int) 3 0 0 [.ref a0, .int a1] h (some (.int r.1)) r.2 := by
  unfold fX11_chain at hr
  obtain ⟨hc, hr⟩ := if_some hr
  refine ⟨hc, mc_of (l0 := [(0, .ref a0), (1, .int a1)]) rfl pn_X11 (Nat.le_of_ble_eq_true rfl) (fun Y X C E O hnm => go_run hr ?_)⟩
  have C : CT Y X RX11 cX11_chain 4 := C
  refine go_aload_n (pc := 0) C 0 dX11_chain_0 rfl ?_
  refine go_iconst (pc := 1) C dX11_chain_1 ki_0 ?_
  refine go_pI (pc := 2) C fpX11_77 dX11_chain_2 (fun h5 => ?_)
  refine go_aload_n (pc := 5) C 0 dX11_chain_5 rfl ?_
  refine go_gR (pc := 6) C fdX11_9 dX11_chain_6 (fun x6 => ?_)
  refine go_iload_n (pc := 9) C 1 dX11_chain_9 rfl ?_
  refine go_bind (fun q7 hq7 => ?_)
  refine go_callS (rest := []) (st' := [.int (b2i q7)]) (c' := 0) (s' := 0) (pc := 10) C O miX11_106 w_1479 [.ref x6, .int a1] rfl (mX11_isSpace hq7) dX11_chain_10 ⟨by decide, by decide, by decide, by decide⟩ rfl (Nat.le_of_ble_eq_true rfl) rfl ⟨rfl, rfl⟩ ?_
  refine go_ifZ_ne (pc := 13) C 18 dX11_chain_13 (by decide) (fun _ => ?_) (fun _ => ?_)
  · refine go_aload_n (pc := 18) C 0 dX11_chain_18 rfl ?_
    refine go_gR (pc := 19) C fdX11_9 dX11_chain_19 (fun x8 => ?_)
    refine go_iload_n (pc := 22) C 1 dX11_chain_22 rfl ?_
    refine go_bind (fun q9 hq9 => ?_)
    refine go_callS (rest := []) (st' := [.int q9]) (c' := 0) (s' := 0) (pc := 23) C O miX11_116 w_1555 [.ref x8, .int a1] rfl (mX11_lengthOf hq9) dX11_chain_23 ⟨by decide, by decide, by decide, by decide⟩ rfl (Nat.le_of_ble_eq_true rfl) rfl ⟨rfl, rfl⟩ ?_
    refine go_istore_n (ls' := [(2, .int q9), (0, .ref a0), (1, .int a1)]) (pc := 26) C dX11_chain_26 (by decide) rfl ?_
    refine go_aload_n (pc := 27) C 1 dX11_chain_27 rfl ?_
    refine go_iconst (pc := 28) C dX11_chain_28 ki_0 ?_
    refine go_pI (pc := 29) C fpX11_81 dX11_chain_29 (fun h10 => ?_)
    refine go_iconst (pc := 32) C dX11_chain_32 ki_0 ?_
    refine go_istore_n (ls' := [(3, .int 0), (2, .int q9), (0, .ref a0), (1, .int a1)]) (pc := 33) C dX11_chain_33 (by decide) rfl ?_
    refine go_sub (ls' := [(0, .ref a0), (1, .int a1), (2, .int q9), (3, .int 0)]) [2, 3, 1, 0] rfl ?_
    refine gX11_chain_L34 C O E FU h10 a0 a1 q9 0
  · refine go_iconst (pc := 16) C dX11_chain_16 ki_m1 ?_
    exact go_iret (w := wIh) (pc := 17) C E (((-1), h5)) ((-1)) dX11_chain_17 rfl
theorem dX11_peeks_0 : decode cX11_peeks 0 = .ok (.aload_n 0, 1) := by decide +kernel
theorem dX11_peeks_1 : decode cX11_peeks 1 = .ok (.iconst 0, 1) := by decide +kernel
theorem dX11_peeks_2 : decode cX11_peeks 2 = .ok (.putfield 77, 3) := by decide +kernel
theorem dX11_peeks_5 : decode cX11_peeks 5 = .ok (.aload_n 0, 1) := by decide +kernel
theorem dX11_peeks_6 : decode cX11_peeks 6 = .ok (.getfield 9, 3) := by decide +kernel
theorem dX11_peeks_9 : decode cX11_peeks 9 = .ok (.iload_n 1, 1) := by decide +kernel
theorem dX11_peeks_10 : decode cX11_peeks 10 = .ok (.invokestatic 106, 3) := by decide +kernel
theorem dX11_peeks_13 : decode cX11_peeks 13 = .ok (.ifCond .eq 10, 3) := by decide +kernel
theorem dX11_peeks_16 : decode cX11_peeks 16 = .ok (.iload_n 2, 1) := by decide +kernel
theorem dX11_peeks_17 : decode cX11_peeks 17 = .ok (.invokestatic 249, 3) := by decide +kernel
theorem dX11_peeks_20 : decode cX11_peeks 20 = .ok (.ifCond .ne 5, 3) := by decide +kernel
theorem dX11_peeks_23 : decode cX11_peeks 23 = .ok (.iconst (-1), 1) := by decide +kernel
theorem dX11_peeks_24 : decode cX11_peeks 24 = .ok (.ireturn, 1) := by decide +kernel
theorem dX11_peeks_25 : decode cX11_peeks 25 = .ok (.aload_n 0, 1) := by decide +kernel
theorem dX11_peeks_26 : decode cX11_peeks 26 = .ok (.getfield 9, 3) := by decide +kernel
theorem dX11_peeks_29 : decode cX11_peeks 29 = .ok (.iload_n 1, 1) := by decide +kernel
theorem dX11_peeks_30 : decode cX11_peeks 30 = .ok (.iload_n 2, 1) := by decide +kernel
theorem dX11_peeks_31 : decode cX11_peeks 31 = .ok (.invokestatic 271, 3) := by decide +kernel
theorem dX11_peeks_34 : decode cX11_peeks 34 = .ok (.istore_n 3, 1) := by decide +kernel
theorem dX11_peeks_35 : decode cX11_peeks 35 = .ok (.iload_n 3, 1) := by decide +kernel
theorem dX11_peeks_36 : decode cX11_peeks 36 = .ok (.ifCond .ge 5, 3) := by decide +kernel
theorem dX11_peeks_39 : decode cX11_peeks 39 = .ok (.iload_n 3, 1) := by decide +kernel
theorem dX11_peeks_40 : decode cX11_peeks 40 = .ok (.ireturn, 1) := by decide +kernel
theorem dX11_peeks_41 : decode cX11_peeks 41 = .ok (.aload_n 0, 1) := by decide +kernel
theorem dX11_peeks_42 : decode cX11_peeks 42 = .ok (.iconst 0, 1) := by decide +kernel
theorem dX11_peeks_43 : decode cX11_peeks 43 = .ok (.putfield 81, 3) := by decide +kernel
theorem dX11_peeks_46 : decode cX11_peeks 46 = .ok (.aload_n 0, 1) := by decide +kernel
theorem dX11_peeks_47 : decode cX11_peeks 47 = .ok (.aload_n 0, 1) := by decide +kernel
theorem dX11_peeks_48 : decode cX11_peeks 48 = .ok (.getfield 9, 3) := by decide +kernel
theorem dX11_peeks_51 : decode cX11_peeks 51 = .ok (.iload_n 1, 1) := by decide +kernel
theorem dX11_peeks_52 : decode cX11_peeks 52 = .ok (.iload_n 2, 1) := by decide +kernel
theorem dX11_peeks_53 : decode cX11_peeks 53 = .ok (.invokestatic 259, 3) := by decide +kernel
theorem dX11_peeks_56 : decode cX11_peeks 56 = .ok (.i2l, 1) := by decide +kernel
theorem dX11_peeks_57 : decode cX11_peeks 57 = .ok (.invokevirtual 283, 3) := by decide +kernel
theorem dX11_peeks_60 : decode cX11_peeks 60 = .ok (.aload_n 0, 1) := by decide +kernel
theorem dX11_peeks_61 : decode cX11_peeks 61 = .ok (.getfield 9, 3) := by decide +kernel
theorem dX11_peeks_64 : decode cX11_peeks 64 = .ok (.iload_n 1, 1) := by decide +kernel
theorem dX11_peeks_65 : decode cX11_peeks 65 = .ok (.iload_n 2, 1) := by decide +kernel
theorem dX11_peeks_66 : decode cX11_peeks 66 = .ok (.invokestatic 268, 3) := by decide +kernel
theorem dX11_peeks_69 : decode cX11_peeks 69 = .ok (.ireturn, 1) := by decide +kernel
def fX11_peeks (h : AH) (a0 : Nat) (a1 : Int32) (a2 : Int32) : Option (Int32 × AH) :=
  if hasC h 11 a0 = true then (
    (pF h 11 a0 5 (.int 0)).bind fun h1 =>
    (gR h1 11 a0 0).bind fun x2 =>
    (fX11_isSpace h1 x2 a1).bind fun q3 =>
    if q3 = true then (
      (fX11_isPage h1 a2).bind fun q4 =>
      if q4 = true then (
        (gR h1 11 a0 0).bind fun x5 =>
        (fX11_refusesFetch h1 x5 a1 a2).bind fun q6 =>
        if 0 ≤ q6 then (
          (pF h1 11 a0 4 (.int 0)).bind fun h7 =>
          (gR h7 11 a0 0).bind fun x8 =>
          (fX11_placeOf h7 x8 a1 a2).bind fun q9 =>
          (fX11_tell h7 a0 (Int32.toInt64 q9)).bind fun q10 =>
          (gR q10 11 a0 0).bind fun x11 =>
          (fX11_fetchOf q10 x11 a1 a2).bind fun q12 =>
          some ((q12, q10))
        ) else (
          some ((q6, h1))
        )
      ) else (
        some (((-1), h1))
      )
    ) else (
      some (((-1), h1))
    )
  ) else none
set_option maxHeartbeats 4000000 in
theorem mX11_peeks {h : AH} {a0 : Nat} {a1 : Int32} {a2 : Int32} {r : Int32 × AH} (hr : fX11_peeks h a0 a1 a2 = some r) : hasC h 11 a0 = true ∧ MC yX11_peeks cX11_peeks 4 (some .int) 4 0 0 [.ref a0, .int a1, .int a2] h (some (.int r.1)) r.2 := by
  unfold fX11_peeks at hr
  obtain ⟨hc, hr⟩ := if_some hr
  refine ⟨hc, mc_of (l0 := [(0, .ref a0), (1, .int a1), (2, .int a2)]) rfl pn_X11 (Nat.le_of_ble_eq_true rfl) (fun Y X C E O hnm => go_run hr ?_)⟩
  have C : CT Y X RX11 cX11_peeks 4 := C
  refine go_aload_n (pc := 0) C 0 dX11_peeks_0 rfl ?_
  refine go_iconst (pc := 1) C dX11_peeks_1 ki_0 ?_
  refine go_pI (pc := 2) C fpX11_77 dX11_peeks_2 (fun h1 => ?_)
  refine go_aload_n (pc := 5) C 0 dX11_peeks_5 rfl ?_
  refine go_gR (pc := 6) C fdX11_9 dX11_peeks_6 (fun x2 => ?_)
  refine go_iload_n (pc := 9) C 1 dX11_peeks_9 rfl ?_
  refine go_bind (fun q3 hq3 => ?_)
  refine go_callS (rest := []) (st' := [.int (b2i q3)]) (c' := 0) (s' := 0) (pc := 10) C O miX11_106 w_1479 [.ref x2, .int a1] rfl (mX11_isSpace hq3) dX11_peeks_10 ⟨by decide, by decide, by decide, by decide⟩ rfl (Nat.le_of_ble_eq_true rfl) rfl ⟨rfl, rfl⟩ ?_
  refine go_ifZ_eq (pc := 13) C 23 dX11_peeks_13 (by decide) (fun _ => ?_) (fun _ => ?_)
  · refine go_iload_n (pc := 16) C 2 dX11_peeks_16 rfl ?_
    refine go_bind (fun q4 hq4 => ?_)
    refine go_callS (rest := []) (st' := [.int (b2i q4)]) (c' := 0) (s' := 0) (pc := 17) C O miX11_249 w_1585 [.int a2] rfl (mX11_isPage hq4) dX11_peeks_17 ⟨by decide, by decide, by decide, by decide⟩ rfl (Nat.le_of_ble_eq_true rfl) rfl ⟨rfl, rfl⟩ ?_
    refine go_ifZ_ne (pc := 20) C 25 dX11_peeks_20 (by decide) (fun _ => ?_) (fun _ => ?_)
    · refine go_aload_n (pc := 25) C 0 dX11_peeks_25 rfl ?_
      refine go_gR (pc := 26) C fdX11_9 dX11_peeks_26 (fun x5 => ?_)
      refine go_iload_n (pc := 29) C 1 dX11_peeks_29 rfl ?_
      refine go_iload_n (pc := 30) C 2 dX11_peeks_30 rfl ?_
      refine go_bind (fun q6 hq6 => ?_)
      refine go_callS (rest := []) (st' := [.int q6]) (c' := 0) (s' := 0) (pc := 31) C O miX11_271 w_1599 [.ref x5, .int a1, .int a2] rfl (mX11_refusesFetch hq6) dX11_peeks_31 ⟨by decide, by decide, by decide, by decide⟩ rfl (Nat.le_of_ble_eq_true rfl) rfl ⟨rfl, rfl⟩ ?_
      refine go_istore_n (ls' := [(3, .int q6), (0, .ref a0), (1, .int a1), (2, .int a2)]) (pc := 34) C dX11_peeks_34 (by decide) rfl ?_
      refine go_iload_n (pc := 35) C 0 dX11_peeks_35 rfl ?_
      refine go_if_ge (pc := 36) C 41 dX11_peeks_36 (by decide) (fun _ => ?_) (fun _ => ?_)
      · refine go_aload_n (pc := 41) C 1 dX11_peeks_41 rfl ?_
        refine go_iconst (pc := 42) C dX11_peeks_42 ki_0 ?_
        refine go_pI (pc := 43) C fpX11_81 dX11_peeks_43 (fun h7 => ?_)
        refine go_aload_n (pc := 46) C 1 dX11_peeks_46 rfl ?_
        refine go_aload_n (pc := 47) C 1 dX11_peeks_47 rfl ?_
        refine go_gR (pc := 48) C fdX11_9 dX11_peeks_48 (fun x8 => ?_)
        refine go_iload_n (pc := 51) C 2 dX11_peeks_51 rfl ?_
        refine go_iload_n (pc := 52) C 3 dX11_peeks_52 rfl ?_
        refine go_bind (fun q9 hq9 => ?_)
        refine go_callS (rest := [.ref a0]) (st' := [.int q9, .ref a0]) (c' := 0) (s' := 0) (pc := 53) C O miX11_259 w_1602 [.ref x8, .int a1, .int a2] rfl (mX11_placeOf hq9) dX11_peeks_53 ⟨by decide, by decide, by decide, by decide⟩ rfl (Nat.le_of_ble_eq_true rfl) rfl ⟨rfl, rfl⟩ ?_
        refine go_i2l (pc := 56) C dX11_peeks_56 ?_
        refine go_bind (fun q10 hq10 => ?_)
        refine go_callV (rest := []) (st' := []) (c' := 0) (s' := 0) (pc := 57) C O miX11_283 mvX11_tell [.long (Int32.toInt64 q9)] rfl (mX11_tell hq10).1 (mX11_tell hq10).2 dX11_peeks_57 ⟨by decide, by decide, by decide, by decide⟩ rfl (Nat.le_of_ble_eq_true rfl) rfl ⟨rfl, rfl⟩ ?_
        refine go_aload_n (pc := 60) C 1 dX11_peeks_60 rfl ?_
        refine go_gR (pc := 61) C fdX11_9 dX11_peeks_61 (fun x11 => ?_)
        refine go_iload_n (pc := 64) C 2 dX11_peeks_64 rfl ?_
        refine go_iload_n (pc := 65) C 3 dX11_peeks_65 rfl ?_
        refine go_bind (fun q12 hq12 => ?_)
        refine go_callS (rest := []) (st' := [.int q12]) (c' := 0) (s' := 0) (pc := 66) C O miX11_268 w_1617 [.ref x11, .int a1, .int a2] rfl (mX11_fetchOf hq12) dX11_peeks_66 ⟨by decide, by decide, by decide, by decide⟩ rfl (Nat.le_of_ble_eq_true rfl) rfl ⟨rfl, rfl⟩ ?_
        exact go_iret (w := wIh) (pc := 69) C E ((q12, q10)) q12 dX11_peeks_69 rfl
      · refine go_iload_n (pc := 39) C 0 dX11_peeks_39 rfl ?_
        exact go_iret (w := wIh) (pc := 40) C E ((q6, h1)) q6 dX11_peeks_40 rfl
    · refine go_iconst (pc := 23) C dX11_peeks_23 ki_m1 ?_
      exact go_iret (w := wIh) (pc := 24) C E (((-1), h1)) ((-1)) dX11_peeks_24 rfl
  · refine go_iconst (pc := 23) C dX11_peeks_23 ki_m1 ?_
    exact go_iret (w := wIh) (pc := 24) C E (((-1), h1)) ((-1)) dX11_peeks_24 rfl
theorem dX11_isInChain_0 : decode cX11_isInChain 0 = .ok (.aload_n 0, 1) := by decide +kernel
theorem dX11_isInChain_1 : decode cX11_isInChain 1 = .ok (.sipush 312, 3) := by decide +kernel
theorem dX11_isInChain_4 : decode cX11_isInChain 4 = .ok (.iload_n 1, 1) := by decide +kernel
theorem dX11_isInChain_5 : decode cX11_isInChain 5 = .ok (.iadd, 1) := by decide +kernel
theorem dX11_isInChain_6 : decode cX11_isInChain 6 = .ok (.iaload, 1) := by decide +kernel
theorem dX11_isInChain_7 : decode cX11_isInChain 7 = .ok (.istore_n 3, 1) := by decide +kernel
theorem dX11_isInChain_8 : decode cX11_isInChain 8 = .ok (.iload_n 3, 1) := by decide +kernel
theorem dX11_isInChain_9 : decode cX11_isInChain 9 = .ok (.iconst (-1), 1) := by decide +kernel
theorem dX11_isInChain_10 : decode cX11_isInChain 10 = .ok (.if_icmp .eq 21, 3) := by decide +kernel
theorem dX11_isInChain_13 : decode cX11_isInChain 13 = .ok (.iload_n 3, 1) := by decide +kernel
theorem dX11_isInChain_14 : decode cX11_isInChain 14 = .ok (.iload_n 2, 1) := by decide +kernel
theorem dX11_isInChain_15 : decode cX11_isInChain 15 = .ok (.if_icmp .ne 5, 3) := by decide +kernel
theorem dX11_isInChain_18 : decode cX11_isInChain 18 = .ok (.iconst 1, 1) := by decide +kernel
theorem dX11_isInChain_19 : decode cX11_isInChain 19 = .ok (.ireturn, 1) := by decide +kernel
theorem dX11_isInChain_20 : decode cX11_isInChain 20 = .ok (.aload_n 0, 1) := by decide +kernel
theorem dX11_isInChain_21 : decode cX11_isInChain 21 = .ok (.sipush 192, 3) := by decide +kernel
theorem dX11_isInChain_24 : decode cX11_isInChain 24 = .ok (.iload_n 3, 1) := by decide +kernel
theorem dX11_isInChain_25 : decode cX11_isInChain 25 = .ok (.iadd, 1) := by decide +kernel
theorem dX11_isInChain_26 : decode cX11_isInChain 26 = .ok (.iaload, 1) := by decide +kernel
theorem dX11_isInChain_27 : decode cX11_isInChain 27 = .ok (.istore_n 3, 1) := by decide +kernel
theorem dX11_isInChain_28 : decode cX11_isInChain 28 = .ok (.goto (-20), 3) := by decide +kernel
theorem dX11_isInChain_31 : decode cX11_isInChain 31 = .ok (.iconst 0, 1) := by decide +kernel
theorem dX11_isInChain_32 : decode cX11_isInChain 32 = .ok (.ireturn, 1) := by decide +kernel
def fX11_isInChain_L8 (h : AH) : Nat → Nat → Int32 → Int32 → Option (Bool)
  | 0, _, _, _ => none
  | n + 1, v0, v2, v3 =>
    if v3 = ((-1)) then (
      some false
    ) else (
      if v3 = v2 then (
        some true
      ) else (
        (aI h 0 v0 (192 + v3)).bind fun x1 =>
        fX11_isInChain_L8 h n v0 v2 x1
      )
    )
def fX11_isInChain (h : AH) (a0 : Nat) (a1 : Int32) (a2 : Int32) : Option (Bool) :=
  (aI h 0 a0 (312 + a1)).bind fun x2 =>
  fX11_isInChain_L8 h FU a0 a2 x2
set_option maxHeartbeats 4000000 in
theorem gX11_isInChain_L8 {Y : YT} {X : XT} (C : CT Y X RX11 cX11_isInChain 4) (O : RO X 1 0 0) {h : AH} {r : Bool} (E : RX Y X (some .boolean) (some (.int (b2i r))) h 0 0) : ∀ (n : Nat) (v0 : Nat) (v2 : Int32) (v3 : Int32), GO Y X 4 r h 0 0 8 [(0, .ref v0), (2, .int v2), (3, .int v3)] [] (fX11_isInChain_L8 h n v0 v2 v3) := by
  intro n
  induction n with
  | zero => intros; exact go_none _ _ _
  | succ n ih =>
    intro v0 v2 v3
    rw [fX11_isInChain_L8]
    refine go_iload_n (pc := 8) C 2 dX11_isInChain_8 rfl ?_
    refine go_iconst (pc := 9) C dX11_isInChain_9 ki_m1 ?_
    refine go_icmp_eq (pc := 10) C 31 dX11_isInChain_10 (by decide) (fun _ => ?_) (fun _ => ?_)
    · refine go_iconst (pc := 31) C dX11_isInChain_31 ki_0 ?_
      exact go_bret (w := (wZ h)) (pc := 32) C E false 0 false rfl dX11_isInChain_32 rfl
    · refine go_iload_n (pc := 13) C 2 dX11_isInChain_13 rfl ?_
      refine go_iload_n (pc := 14) C 1 dX11_isInChain_14 rfl ?_
      refine go_icmp_ne (pc := 15) C 20 dX11_isInChain_15 (by decide) (fun _ => ?_) (fun _ => ?_)
      · refine go_iconst (pc := 18) C dX11_isInChain_18 ki_1 ?_
        exact go_bret (w := (wZ h)) (pc := 19) C E true 1 true rfl dX11_isInChain_19 rfl
      · refine go_aload_n (pc := 20) C 0 dX11_isInChain_20 rfl ?_
        refine go_sipush (pc := 21) C dX11_isInChain_21 ks_192 ?_
        refine go_iload_n (pc := 24) C 2 dX11_isInChain_24 rfl ?_
        refine go_iadd (pc := 25) C dX11_isInChain_25 ?_
        refine go_iald (pc := 26) C dX11_isInChain_26 (fun x1 => ?_)
        refine go_istore_n (ls' := [(3, .int x1), (0, .ref v0), (2, .int v2)]) (pc := 27) C dX11_isInChain_27 (by decide) rfl ?_
        refine go_goto (pc := 28) C 8 dX11_isInChain_28 (by decide) ?_
        refine go_sub (ls' := [(0, .ref v0), (2, .int v2), (3, .int x1)]) [1, 2, 0] rfl ?_
        exact ih v0 v2 x1
set_option maxHeartbeats 4000000 in
theorem mX11_isInChain {h : AH} {a0 : Nat} {a1 : Int32} {a2 : Int32} {r : Bool} (hr : fX11_isInChain h a0 a1 a2 = some r) : MC yX11_isInChain cX11_isInChain 4 (some .boolean) 1 0 0 [.ref a0, .int a1, .int a2] h (some (.int (b2i r))) h := by
  unfold fX11_isInChain at hr
  refine mc_of (l0 := [(0, .ref a0), (1, .int a1), (2, .int a2)]) rfl pn_X11 (Nat.le_of_ble_eq_true rfl) (fun Y X C E O hnm => go_run hr ?_)
  have C : CT Y X RX11 cX11_isInChain 4 := C
  refine go_aload_n (pc := 0) C 0 dX11_isInChain_0 rfl ?_
  refine go_sipush (pc := 1) C dX11_isInChain_1 ks_312 ?_
  refine go_iload_n (pc := 4) C 1 dX11_isInChain_4 rfl ?_
  refine go_iadd (pc := 5) C dX11_isInChain_5 ?_
  refine go_iald (pc := 6) C dX11_isInChain_6 (fun x2 => ?_)
  refine go_istore_n (ls' := [(3, .int x2), (0, .ref a0), (1, .int a1), (2, .int a2)]) (pc := 7) C dX11_isInChain_7 (by decide) rfl ?_
  refine go_sub (ls' := [(0, .ref a0), (2, .int a2), (3, .int x2)]) [1, 3, 0] rfl ?_
  refine gX11_isInChain_L8 C O E FU a0 a2 x2
theorem dX11_inChains_0 : decode cX11_inChains 0 = .ok (.iconst 0, 1) := by decide +kernel
theorem dX11_inChains_1 : decode cX11_inChains 1 = .ok (.istore_n 2, 1) := by decide +kernel
theorem dX11_inChains_2 : decode cX11_inChains 2 = .ok (.iconst 0, 1) := by decide +kernel
theorem dX11_inChains_3 : decode cX11_inChains 3 = .ok (.istore_n 3, 1) := by decide +kernel
theorem dX11_inChains_4 : decode cX11_inChains 4 = .ok (.iload_n 3, 1) := by decide +kernel
theorem dX11_inChains_5 : decode cX11_inChains 5 = .ok (.bipush 6, 2) := by decide +kernel
theorem dX11_inChains_7 : decode cX11_inChains 7 = .ok (.if_icmp .ge 42, 3) := by decide +kernel
theorem dX11_inChains_10 : decode cX11_inChains 10 = .ok (.iload_n 2, 1) := by decide +kernel
theorem dX11_inChains_11 : decode cX11_inChains 11 = .ok (.aload_n 0, 1) := by decide +kernel
theorem dX11_inChains_12 : decode cX11_inChains 12 = .ok (.getfield 9, 3) := by decide +kernel
theorem dX11_inChains_15 : decode cX11_inChains 15 = .ok (.iload_n 3, 1) := by decide +kernel
theorem dX11_inChains_16 : decode cX11_inChains 16 = .ok (.invokestatic 106, 3) := by decide +kernel
theorem dX11_inChains_19 : decode cX11_inChains 19 = .ok (.ifCond .eq 21, 3) := by decide +kernel
theorem dX11_inChains_22 : decode cX11_inChains 22 = .ok (.aload_n 0, 1) := by decide +kernel
theorem dX11_inChains_23 : decode cX11_inChains 23 = .ok (.getfield 9, 3) := by decide +kernel
theorem dX11_inChains_26 : decode cX11_inChains 26 = .ok (.iload_n 3, 1) := by decide +kernel
theorem dX11_inChains_27 : decode cX11_inChains 27 = .ok (.iload_n 1, 1) := by decide +kernel
theorem dX11_inChains_28 : decode cX11_inChains 28 = .ok (.invokestatic 347, 3) := by decide +kernel
theorem dX11_inChains_31 : decode cX11_inChains 31 = .ok (.ifCond .eq 9, 3) := by decide +kernel
theorem dX11_inChains_34 : decode cX11_inChains 34 = .ok (.iconst 1, 1) := by decide +kernel
theorem dX11_inChains_35 : decode cX11_inChains 35 = .ok (.iload_n 3, 1) := by decide +kernel
theorem dX11_inChains_36 : decode cX11_inChains 36 = .ok (.ishl, 1) := by decide +kernel
theorem dX11_inChains_37 : decode cX11_inChains 37 = .ok (.goto 4, 3) := by decide +kernel
theorem dX11_inChains_40 : decode cX11_inChains 40 = .ok (.iconst 0, 1) := by decide +kernel
theorem dX11_inChains_41 : decode cX11_inChains 41 = .ok (.ior, 1) := by decide +kernel
theorem dX11_inChains_42 : decode cX11_inChains 42 = .ok (.istore_n 2, 1) := by decide +kernel
theorem dX11_inChains_43 : decode cX11_inChains 43 = .ok (.iinc 3 1, 3) := by decide +kernel
theorem dX11_inChains_46 : decode cX11_inChains 46 = .ok (.goto (-42), 3) := by decide +kernel
theorem dX11_inChains_49 : decode cX11_inChains 49 = .ok (.iload_n 2, 1) := by decide +kernel
theorem dX11_inChains_50 : decode cX11_inChains 50 = .ok (.ireturn, 1) := by decide +kernel
def fX11_inChains_J41 (h : AH) (k4 : Nat → Int32 → Int32 → Int32 → Option (Int32)) (v0 : Nat) (v1 : Int32) (v3 : Int32) (s0 : Int32) (s1 : Int32) : Option (Int32) :=
    letF (s1 ||| s0 : Int32) fun x1 =>
    letF (v3 + 1 : Int32) fun x2 =>
    k4 v0 v1 x1 x2
def fX11_inChains_L4 (h : AH) : Nat → Nat → Int32 → Int32 → Int32 → Option (Int32)
  | 0, _, _, _, _ => none
  | n + 1, v0, v1, v2, v3 =>
    if 6 ≤ v3 then (
      some v2
    ) else (
      (gR h 11 v0 0).bind fun x3 =>
      (fX11_isSpace h x3 v3).bind fun q4 =>
      if q4 = true then (
        (gR h 11 v0 0).bind fun x5 =>
        (fX11_isInChain h x5 v3 v1).bind fun q6 =>
        if q6 = true then (
          fX11_inChains_J41 h (fX11_inChains_L4 h n) v0 v1 v3 (1 <<< (v3 &&& 31)) v2
        ) else (
          fX11_inChains_J41 h (fX11_inChains_L4 h n) v0 v1 v3 0 v2
        )
      ) else (
        fX11_inChains_J41 h (fX11_inChains_L4 h n) v0 v1 v3 0 v2
      )
    )
def fX11_inChains (h : AH) (a0 : Nat) (a1 : Int32) : Option (Int32) :=
  if hasC h 11 a0 = true then (
    fX11_inChains_L4 h FU a0 a1 0 0
  ) else none
set_option maxHeartbeats 4000000 in
theorem gX11_inChains_J41 {Y : YT} {X : XT} (C : CT Y X RX11 cX11_inChains 4) (O : RO X 3 0 0) {h : AH} {r : Int32} (E : RX Y X (some .int) (some (.int r)) h 0 0) {k4 : Nat → Int32 → Int32 → Int32 → Option (Int32)} (hk4 : ∀ (v0 : Nat) (v1 : Int32) (v2 : Int32) (v3 : Int32), GO Y X 4 r h 0 0 4 [(0, .ref v0), (1, .int v1), (2, .int v2), (3, .int v3)] [] (k4 v0 v1 v2 v3)) : ∀ (v0 : Nat) (v1 : Int32) (v3 : Int32) (s0 : Int32) (s1 : Int32), GO Y X 4 r h 0 0 41 [(0, .ref v0), (1, .int v1), (3, .int v3)] [.int s0, .int s1] (fX11_inChains_J41 h k4 v0 v1 v3 s0 s1) := by
  intro v0 v1 v3 s0 s1
  unfold fX11_inChains_J41
  refine go_ior (pc := 41) C dX11_inChains_41 ?_
  refine go_istore_nL (pc := 42) C dX11_inChains_42 (by decide) (fun x1 => [(2, .int x1), (0, .ref v0), (1, .int v1), (3, .int v3)]) (fun _ => rfl) (fun x1 => ?_)
  refine go_iincL (pc := 43) C 3 dX11_inChains_43 rfl ki_1 (by decide) (fun x2 => [(3, .int x2), (2, .int x1), (0, .ref v0), (1, .int v1)]) (fun _ => rfl) (fun x2 => ?_)
  refine go_goto (pc := 46) C 4 dX11_inChains_46 (by decide) ?_
  refine go_sub (ls' := [(0, .ref v0), (1, .int v1), (2, .int x1), (3, .int x2)]) [2, 3, 1, 0] rfl ?_
  exact hk4 v0 v1 x1 x2
set_option maxHeartbeats 4000000 in
theorem gX11_inChains_L4 {Y : YT} {X : XT} (C : CT Y X RX11 cX11_inChains 4) (O : RO X 3 0 0) {h : AH} {r : Int32} (E : RX Y X (some .int) (some (.int r)) h 0 0) : ∀ (n : Nat) (v0 : Nat) (v1 : Int32) (v2 : Int32) (v3 : Int32), GO Y X 4 r h 0 0 4 [(0, .ref v0), (1, .int v1), (2, .int v2), (3, .int v3)] [] (fX11_inChains_L4 h n v0 v1 v2 v3) := by
  intro n
  induction n with
  | zero => intros; exact go_none _ _ _
  | succ n ih =>
    intro v0 v1 v2 v3
    rw [fX11_inChains_L4]
    refine go_iload_n (pc := 4) C 3 dX11_inChains_4 rfl ?_
    refine go_bipush (pc := 5) C dX11_inChains_5 kb_6 ?_
    refine go_icmp_ge (pc := 7) C 49 dX11_inChains_7 (by decide) (fun _ => ?_) (fun _ => ?_)
    · refine go_iload_n (pc := 49) C 2 dX11_inChains_49 rfl ?_
      exact go_iret (w := (wI h)) (pc := 50) C E v2 v2 dX11_inChains_50 rfl
    · refine go_iload_n (pc := 10) C 2 dX11_inChains_10 rfl ?_
      refine go_aload_n (pc := 11) C 0 dX11_inChains_11 rfl ?_
      refine go_gR (pc := 12) C fdX11_9 dX11_inChains_12 (fun x3 => ?_)
      refine go_iload_n (pc := 15) C 3 dX11_inChains_15 rfl ?_
      refine go_bind (fun q4 hq4 => ?_)
      refine go_callS (rest := [.int v2]) (st' := [.int (b2i q4), .int v2]) (c' := 0) (s' := 0) (pc := 16) C O miX11_106 w_1479 [.ref x3, .int v3] rfl (mX11_isSpace hq4) dX11_inChains_16 ⟨by decide, by decide, by decide, by decide⟩ rfl (Nat.le_of_ble_eq_true rfl) rfl ⟨rfl, rfl⟩ ?_
      refine go_ifZ_eq (pc := 19) C 40 dX11_inChains_19 (by decide) (fun _ => ?_) (fun _ => ?_)
      · refine go_aload_n (pc := 22) C 0 dX11_inChains_22 rfl ?_
        refine go_gR (pc := 23) C fdX11_9 dX11_inChains_23 (fun x5 => ?_)
        refine go_iload_n (pc := 26) C 3 dX11_inChains_26 rfl ?_
        refine go_iload_n (pc := 27) C 1 dX11_inChains_27 rfl ?_
        refine go_bind (fun q6 hq6 => ?_)
        refine go_callS (rest := [.int v2]) (st' := [.int (b2i q6), .int v2]) (c' := 0) (s' := 0) (pc := 28) C O miX11_347 w_1733 [.ref x5, .int v3, .int v1] rfl (mX11_isInChain hq6) dX11_inChains_28 ⟨by decide, by decide, by decide, by decide⟩ rfl (Nat.le_of_ble_eq_true rfl) rfl ⟨rfl, rfl⟩ ?_
        refine go_ifZ_eq (pc := 31) C 40 dX11_inChains_31 (by decide) (fun _ => ?_) (fun _ => ?_)
        · refine go_iconst (pc := 34) C dX11_inChains_34 ki_1 ?_
          refine go_iload_n (pc := 35) C 3 dX11_inChains_35 rfl ?_
          refine go_ishl (pc := 36) C dX11_inChains_36 ?_
          refine go_goto (pc := 37) C 41 dX11_inChains_37 (by decide) ?_
          refine go_sub (ls' := [(0, .ref v0), (1, .int v1), (3, .int v3)]) [0, 1, 3] rfl ?_
          refine gX11_inChains_J41 C O E (ih) v0 v1 v3 (1 <<< (v3 &&& 31)) v2
        · refine go_iconst (pc := 40) C dX11_inChains_40 ki_0 ?_
          refine go_sub (ls' := [(0, .ref v0), (1, .int v1), (3, .int v3)]) [0, 1, 3] rfl ?_
          refine gX11_inChains_J41 C O E (ih) v0 v1 v3 0 v2
      · refine go_iconst (pc := 40) C dX11_inChains_40 ki_0 ?_
        refine go_sub (ls' := [(0, .ref v0), (1, .int v1), (3, .int v3)]) [0, 1, 3] rfl ?_
        refine gX11_inChains_J41 C O E (ih) v0 v1 v3 0 v2
set_option maxHeartbeats 4000000 in
theorem mX11_inChains {h : AH} {a0 : Nat} {a1 : Int32} {r : Int32} (hr : fX11_inChains h a0 a1 = some r) : hasC h 11 a0 = true ∧ MC yX11_inChains cX11_inChains 4 (some .int) 3 0 0 [.ref a0, .int a1] h (some (.int r)) h := by
  unfold fX11_inChains at hr
  obtain ⟨hc, hr⟩ := if_some hr
  refine ⟨hc, mc_of (l0 := [(0, .ref a0), (1, .int a1)]) rfl pn_X11 (Nat.le_of_ble_eq_true rfl) (fun Y X C E O hnm => go_run hr ?_)⟩
  have C : CT Y X RX11 cX11_inChains 4 := C
  refine go_iconst (pc := 0) C dX11_inChains_0 ki_0 ?_
  refine go_istore_n (ls' := [(2, .int 0), (0, .ref a0), (1, .int a1)]) (pc := 1) C dX11_inChains_1 (by decide) rfl ?_
  refine go_iconst (pc := 2) C dX11_inChains_2 ki_0 ?_
  refine go_istore_n (ls' := [(3, .int 0), (2, .int 0), (0, .ref a0), (1, .int a1)]) (pc := 3) C dX11_inChains_3 (by decide) rfl ?_
  refine go_sub (ls' := [(0, .ref a0), (1, .int a1), (2, .int 0), (3, .int 0)]) [2, 3, 1, 0] rfl ?_
  refine gX11_inChains_L4 C O E FU a0 a1 0 0
theorem dX11_holders_0 : decode cX11_holders 0 = .ok (.aload_n 0, 1) := by decide +kernel
theorem dX11_holders_1 : decode cX11_holders 1 = .ok (.iconst 0, 1) := by decide +kernel
theorem dX11_holders_2 : decode cX11_holders 2 = .ok (.putfield 77, 3) := by decide +kernel
theorem dX11_holders_5 : decode cX11_holders 5 = .ok (.aload_n 0, 1) := by decide +kernel
theorem dX11_holders_6 : decode cX11_holders 6 = .ok (.iload_n 1, 1) := by decide +kernel
theorem dX11_holders_7 : decode cX11_holders 7 = .ok (.invokevirtual 242, 3) := by decide +kernel
theorem dX11_holders_10 : decode cX11_holders 10 = .ok (.ifCond .ne 5, 3) := by decide +kernel
theorem dX11_holders_13 : decode cX11_holders 13 = .ok (.iconst (-1), 1) := by decide +kernel
theorem dX11_holders_14 : decode cX11_holders 14 = .ok (.ireturn, 1) := by decide +kernel
theorem dX11_holders_15 : decode cX11_holders 15 = .ok (.aload_n 0, 1) := by decide +kernel
theorem dX11_holders_16 : decode cX11_holders 16 = .ok (.iconst 0, 1) := by decide +kernel
theorem dX11_holders_17 : decode cX11_holders 17 = .ok (.putfield 81, 3) := by decide +kernel
theorem dX11_holders_20 : decode cX11_holders 20 = .ok (.aload_n 0, 1) := by decide +kernel
theorem dX11_holders_21 : decode cX11_holders 21 = .ok (.aload_n 0, 1) := by decide +kernel
theorem dX11_holders_22 : decode cX11_holders 22 = .ok (.iload_n 1, 1) := by decide +kernel
theorem dX11_holders_23 : decode cX11_holders 23 = .ok (.invokevirtual 350, 3) := by decide +kernel
theorem dX11_holders_26 : decode cX11_holders 26 = .ok (.invokestatic 100, 3) := by decide +kernel
theorem dX11_holders_29 : decode cX11_holders 29 = .ok (.i2l, 1) := by decide +kernel
theorem dX11_holders_30 : decode cX11_holders 30 = .ok (.invokevirtual 283, 3) := by decide +kernel
theorem dX11_holders_33 : decode cX11_holders 33 = .ok (.aload_n 0, 1) := by decide +kernel
theorem dX11_holders_34 : decode cX11_holders 34 = .ok (.iload_n 1, 1) := by decide +kernel
theorem dX11_holders_35 : decode cX11_holders 35 = .ok (.invokevirtual 350, 3) := by decide +kernel
theorem dX11_holders_38 : decode cX11_holders 38 = .ok (.ireturn, 1) := by decide +kernel
def fX11_holders (h : AH) (a0 : Nat) (a1 : Int32) : Option (Int32 × AH) :=
  if hasC h 11 a0 = true then (
    (pF h 11 a0 5 (.int 0)).bind fun h1 =>
    (fX11_isObject h1 a0 a1).bind fun q2 =>
    if q2 = true then (
      (pF h1 11 a0 4 (.int 0)).bind fun h3 =>
      (fX11_inChains h3 a0 a1).bind fun q4 =>
      (fJ6_bitCount_0f7a4 h3 q4).bind fun q5 =>
      (fX11_tell h3 a0 (Int32.toInt64 q5)).bind fun q6 =>
      (fX11_inChains q6 a0 a1).bind fun q7 =>
      some ((q7, q6))
    ) else (
      some (((-1), h1))
    )
  ) else none
set_option maxHeartbeats 4000000 in
theorem mX11_holders {h : AH} {a0 : Nat} {a1 : Int32} {r : Int32 × AH} (hr : fX11_holders h a0 a1 = some r) : hasC h 11 a0 = true ∧ MC yX11_holders cX11_holders 2 (some .int) 4 0 0 [.ref a0, .int a1] h (some (.int r.1)) r.2 := by
  unfold fX11_holders at hr
  obtain ⟨hc, hr⟩ := if_some hr
  refine ⟨hc, mc_of (l0 := [(0, .ref a0), (1, .int a1)]) rfl pn_X11 (Nat.le_of_ble_eq_true rfl) (fun Y X C E O hnm => go_run hr ?_)⟩
  have C : CT Y X RX11 cX11_holders 2 := C
  refine go_aload_n (pc := 0) C 0 dX11_holders_0 rfl ?_
  refine go_iconst (pc := 1) C dX11_holders_1 ki_0 ?_
  refine go_pI (pc := 2) C fpX11_77 dX11_holders_2 (fun h1 => ?_)
  refine go_aload_n (pc := 5) C 0 dX11_holders_5 rfl ?_
  refine go_iload_n (pc := 6) C 1 dX11_holders_6 rfl ?_
  refine go_bind (fun q2 hq2 => ?_)
  refine go_callV (rest := []) (st' := [.int (b2i q2)]) (c' := 0) (s' := 0) (pc := 7) C O miX11_242 mvX11_isObject [.int a1] rfl (mX11_isObject hq2).1 (mX11_isObject hq2).2 dX11_holders_7 ⟨by decide, by decide, by decide, by decide⟩ rfl (Nat.le_of_ble_eq_true rfl) rfl ⟨rfl, rfl⟩ ?_
  refine go_ifZ_ne (pc := 10) C 15 dX11_holders_10 (by decide) (fun _ => ?_) (fun _ => ?_)
  · refine go_aload_n (pc := 15) C 0 dX11_holders_15 rfl ?_
    refine go_iconst (pc := 16) C dX11_holders_16 ki_0 ?_
    refine go_pI (pc := 17) C fpX11_81 dX11_holders_17 (fun h3 => ?_)
    refine go_aload_n (pc := 20) C 0 dX11_holders_20 rfl ?_
    refine go_aload_n (pc := 21) C 0 dX11_holders_21 rfl ?_
    refine go_iload_n (pc := 22) C 1 dX11_holders_22 rfl ?_
    refine go_bind (fun q4 hq4 => ?_)
    refine go_callV (rest := [.ref a0]) (st' := [.int q4, .ref a0]) (c' := 0) (s' := 0) (pc := 23) C O miX11_350 mvX11_inChains [.int a1] rfl (mX11_inChains hq4).1 (mX11_inChains hq4).2 dX11_holders_23 ⟨by decide, by decide, by decide, by decide⟩ rfl (Nat.le_of_ble_eq_true rfl) rfl ⟨rfl, rfl⟩ ?_
    refine go_bind (fun q5 hq5 => ?_)
    refine go_callS (rest := [.ref a0]) (st' := [.int q5, .ref a0]) (c' := 0) (s' := 0) (pc := 26) C O miX11_100 w_397 [.int q4] rfl (mJ6_bitCount_0f7a4 hq5) dX11_holders_26 ⟨by decide, by decide, by decide, by decide⟩ rfl (Nat.le_of_ble_eq_true rfl) rfl ⟨rfl, rfl⟩ ?_
    refine go_i2l (pc := 29) C dX11_holders_29 ?_
    refine go_bind (fun q6 hq6 => ?_)
    refine go_callV (rest := []) (st' := []) (c' := 0) (s' := 0) (pc := 30) C O miX11_283 mvX11_tell [.long (Int32.toInt64 q5)] rfl (mX11_tell hq6).1 (mX11_tell hq6).2 dX11_holders_30 ⟨by decide, by decide, by decide, by decide⟩ rfl (Nat.le_of_ble_eq_true rfl) rfl ⟨rfl, rfl⟩ ?_
    refine go_aload_n (pc := 33) C 0 dX11_holders_33 rfl ?_
    refine go_iload_n (pc := 34) C 1 dX11_holders_34 rfl ?_
    refine go_bind (fun q7 hq7 => ?_)
    refine go_callV (rest := []) (st' := [.int q7]) (c' := 0) (s' := 0) (pc := 35) C O miX11_350 mvX11_inChains [.int a1] rfl (mX11_inChains hq7).1 (mX11_inChains hq7).2 dX11_holders_35 ⟨by decide, by decide, by decide, by decide⟩ rfl (Nat.le_of_ble_eq_true rfl) rfl ⟨rfl, rfl⟩ ?_
    exact go_iret (w := wIh) (pc := 38) C E ((q7, q6)) q7 dX11_holders_38 rfl
  · refine go_iconst (pc := 13) C dX11_holders_13 ki_m1 ?_
    exact go_iret (w := wIh) (pc := 14) C E (((-1), h1)) ((-1)) dX11_holders_14 rfl
theorem dX11_areTwo_0 : decode cX11_areTwo 0 = .ok (.aload_n 0, 1) := by decide +kernel
theorem dX11_areTwo_1 : decode cX11_areTwo 1 = .ok (.getfield 9, 3) := by decide +kernel
theorem dX11_areTwo_4 : decode cX11_areTwo 4 = .ok (.iload_n 1, 1) := by decide +kernel
theorem dX11_areTwo_5 : decode cX11_areTwo 5 = .ok (.invokestatic 106, 3) := by decide +kernel
theorem dX11_areTwo_8 : decode cX11_areTwo 8 = .ok (.ifCond .eq 23, 3) := by decide +kernel
theorem dX11_areTwo_11 : decode cX11_areTwo 11 = .ok (.aload_n 0, 1) := by decide +kernel
theorem dX11_areTwo_12 : decode cX11_areTwo 12 = .ok (.getfield 9, 3) := by decide +kernel
theorem dX11_areTwo_15 : decode cX11_areTwo 15 = .ok (.iload_n 2, 1) := by decide +kernel
theorem dX11_areTwo_16 : decode cX11_areTwo 16 = .ok (.invokestatic 106, 3) := by decide +kernel
theorem dX11_areTwo_19 : decode cX11_areTwo 19 = .ok (.ifCond .eq 12, 3) := by decide +kernel
theorem dX11_areTwo_22 : decode cX11_areTwo 22 = .ok (.iload_n 1, 1) := by decide +kernel
theorem dX11_areTwo_23 : decode cX11_areTwo 23 = .ok (.iload_n 2, 1) := by decide +kernel
theorem dX11_areTwo_24 : decode cX11_areTwo 24 = .ok (.if_icmp .eq 7, 3) := by decide +kernel
theorem dX11_areTwo_27 : decode cX11_areTwo 27 = .ok (.iconst 1, 1) := by decide +kernel
theorem dX11_areTwo_28 : decode cX11_areTwo 28 = .ok (.goto 4, 3) := by decide +kernel
theorem dX11_areTwo_31 : decode cX11_areTwo 31 = .ok (.iconst 0, 1) := by decide +kernel
theorem dX11_areTwo_32 : decode cX11_areTwo 32 = .ok (.ireturn, 1) := by decide +kernel
def fX11_areTwo (h : AH) (a0 : Nat) (a1 : Int32) (a2 : Int32) : Option (Bool) :=
  if hasC h 11 a0 = true then (
    (gR h 11 a0 0).bind fun x1 =>
    (fX11_isSpace h x1 a1).bind fun q2 =>
    if q2 = true then (
      (gR h 11 a0 0).bind fun x3 =>
      (fX11_isSpace h x3 a2).bind fun q4 =>
      if q4 = true then (
        if a1 = a2 then (
          some false
        ) else (
          some true
        )
      ) else (
        some false
      )
    ) else (
      some false
    )
  ) else none
set_option maxHeartbeats 4000000 in
theorem mX11_areTwo {h : AH} {a0 : Nat} {a1 : Int32} {a2 : Int32} {r : Bool} (hr : fX11_areTwo h a0 a1 a2 = some r) : hasC h 11 a0 = true ∧ MC yX11_areTwo cX11_areTwo 3 (some .boolean) 3 0 0 [.ref a0, .int a1, .int a2] h (some (.int (b2i r))) h := by
  unfold fX11_areTwo at hr
  obtain ⟨hc, hr⟩ := if_some hr
  refine ⟨hc, mc_of (l0 := [(0, .ref a0), (1, .int a1), (2, .int a2)]) rfl pn_X11 (Nat.le_of_ble_eq_true rfl) (fun Y X C E O hnm => go_run hr ?_)⟩
  have C : CT Y X RX11 cX11_areTwo 3 := C
  refine go_aload_n (pc := 0) C 0 dX11_areTwo_0 rfl ?_
  refine go_gR (pc := 1) C fdX11_9 dX11_areTwo_1 (fun x1 => ?_)
  refine go_iload_n (pc := 4) C 1 dX11_areTwo_4 rfl ?_
  refine go_bind (fun q2 hq2 => ?_)
  refine go_callS (rest := []) (st' := [.int (b2i q2)]) (c' := 0) (s' := 0) (pc := 5) C O miX11_106 w_1479 [.ref x1, .int a1] rfl (mX11_isSpace hq2) dX11_areTwo_5 ⟨by decide, by decide, by decide, by decide⟩ rfl (Nat.le_of_ble_eq_true rfl) rfl ⟨rfl, rfl⟩ ?_
  refine go_ifZ_eq (pc := 8) C 31 dX11_areTwo_8 (by decide) (fun _ => ?_) (fun _ => ?_)
  · refine go_aload_n (pc := 11) C 0 dX11_areTwo_11 rfl ?_
    refine go_gR (pc := 12) C fdX11_9 dX11_areTwo_12 (fun x3 => ?_)
    refine go_iload_n (pc := 15) C 2 dX11_areTwo_15 rfl ?_
    refine go_bind (fun q4 hq4 => ?_)
    refine go_callS (rest := []) (st' := [.int (b2i q4)]) (c' := 0) (s' := 0) (pc := 16) C O miX11_106 w_1479 [.ref x3, .int a2] rfl (mX11_isSpace hq4) dX11_areTwo_16 ⟨by decide, by decide, by decide, by decide⟩ rfl (Nat.le_of_ble_eq_true rfl) rfl ⟨rfl, rfl⟩ ?_
    refine go_ifZ_eq (pc := 19) C 31 dX11_areTwo_19 (by decide) (fun _ => ?_) (fun _ => ?_)
    · refine go_iload_n (pc := 22) C 1 dX11_areTwo_22 rfl ?_
      refine go_iload_n (pc := 23) C 2 dX11_areTwo_23 rfl ?_
      refine go_icmp_eq (pc := 24) C 31 dX11_areTwo_24 (by decide) (fun _ => ?_) (fun _ => ?_)
      · refine go_iconst (pc := 31) C dX11_areTwo_31 ki_0 ?_
        exact go_bret (w := (wZ h)) (pc := 32) C E false 0 false rfl dX11_areTwo_32 rfl
      · refine go_iconst (pc := 27) C dX11_areTwo_27 ki_1 ?_
        refine go_goto (pc := 28) C 32 dX11_areTwo_28 (by decide) ?_
        exact go_bret (w := (wZ h)) (pc := 32) C E true 1 true rfl dX11_areTwo_32 rfl
    · refine go_iconst (pc := 31) C dX11_areTwo_31 ki_0 ?_
      exact go_bret (w := (wZ h)) (pc := 32) C E false 0 false rfl dX11_areTwo_32 rfl
  · refine go_iconst (pc := 31) C dX11_areTwo_31 ki_0 ?_
    exact go_bret (w := (wZ h)) (pc := 32) C E false 0 false rfl dX11_areTwo_32 rfl
theorem dX11_frameOf_0 : decode cX11_frameOf 0 = .ok (.aload_n 0, 1) := by decide +kernel
theorem dX11_frameOf_1 : decode cX11_frameOf 1 = .ok (.iload_n 1, 1) := by decide +kernel
theorem dX11_frameOf_2 : decode cX11_frameOf 2 = .ok (.iload_n 2, 1) := by decide +kernel
theorem dX11_frameOf_3 : decode cX11_frameOf 3 = .ok (.invokestatic 259, 3) := by decide +kernel
theorem dX11_frameOf_6 : decode cX11_frameOf 6 = .ok (.istore_n 3, 1) := by decide +kernel
theorem dX11_frameOf_7 : decode cX11_frameOf 7 = .ok (.iload_n 3, 1) := by decide +kernel
theorem dX11_frameOf_8 : decode cX11_frameOf 8 = .ok (.aload_n 0, 1) := by decide +kernel
theorem dX11_frameOf_9 : decode cX11_frameOf 9 = .ok (.iload_n 1, 1) := by decide +kernel
theorem dX11_frameOf_10 : decode cX11_frameOf 10 = .ok (.invokestatic 116, 3) := by decide +kernel
theorem dX11_frameOf_13 : decode cX11_frameOf 13 = .ok (.if_icmp .ne 7, 3) := by decide +kernel
theorem dX11_frameOf_16 : decode cX11_frameOf 16 = .ok (.iconst (-1), 1) := by decide +kernel
theorem dX11_frameOf_17 : decode cX11_frameOf 17 = .ok (.goto 9, 3) := by decide +kernel
theorem dX11_frameOf_20 : decode cX11_frameOf 20 = .ok (.aload_n 0, 1) := by decide +kernel
theorem dX11_frameOf_21 : decode cX11_frameOf 21 = .ok (.iload_n 1, 1) := by decide +kernel
theorem dX11_frameOf_22 : decode cX11_frameOf 22 = .ok (.iload_n 3, 1) := by decide +kernel
theorem dX11_frameOf_23 : decode cX11_frameOf 23 = .ok (.invokestatic 119, 3) := by decide +kernel
theorem dX11_frameOf_26 : decode cX11_frameOf 26 = .ok (.ireturn, 1) := by decide +kernel
def fX11_frameOf (h : AH) (a0 : Nat) (a1 : Int32) (a2 : Int32) : Option (Int32) :=
  (fX11_placeOf h a0 a1 a2).bind fun q1 =>
  (fX11_lengthOf h a0 a1).bind fun q2 =>
  if q1 = q2 then (
    some ((-1))
  ) else (
    (fX11_objectAt h a0 a1 q1).bind fun q3 =>
    some q3
  )
set_option maxHeartbeats 4000000 in
theorem mX11_frameOf {h : AH} {a0 : Nat} {a1 : Int32} {a2 : Int32} {r : Int32} (hr : fX11_frameOf h a0 a1 a2 = some r) : MC yX11_frameOf cX11_frameOf 4 (some .int) 3 0 0 [.ref a0, .int a1, .int a2] h (some (.int r)) h := by
  unfold fX11_frameOf at hr
  refine mc_of (l0 := [(0, .ref a0), (1, .int a1), (2, .int a2)]) rfl pn_X11 (Nat.le_of_ble_eq_true rfl) (fun Y X C E O hnm => go_run hr ?_)
  have C : CT Y X RX11 cX11_frameOf 4 := C
  refine go_aload_n (pc := 0) C 0 dX11_frameOf_0 rfl ?_
  refine go_iload_n (pc := 1) C 1 dX11_frameOf_1 rfl ?_
  refine go_iload_n (pc := 2) C 2 dX11_frameOf_2 rfl ?_
  refine go_bind (fun q1 hq1 => ?_)
  refine go_callS (rest := []) (st' := [.int q1]) (c' := 0) (s' := 0) (pc := 3) C O miX11_259 w_1602 [.ref a0, .int a1, .int a2] rfl (mX11_placeOf hq1) dX11_frameOf_3 ⟨by decide, by decide, by decide, by decide⟩ rfl (Nat.le_of_ble_eq_true rfl) rfl ⟨rfl, rfl⟩ ?_
  refine go_istore_n (ls' := [(3, .int q1), (0, .ref a0), (1, .int a1), (2, .int a2)]) (pc := 6) C dX11_frameOf_6 (by decide) rfl ?_
  refine go_iload_n (pc := 7) C 0 dX11_frameOf_7 rfl ?_
  refine go_aload_n (pc := 8) C 1 dX11_frameOf_8 rfl ?_
  refine go_iload_n (pc := 9) C 2 dX11_frameOf_9 rfl ?_
  refine go_bind (fun q2 hq2 => ?_)
  refine go_callS (rest := [.int q1]) (st' := [.int q2, .int q1]) (c' := 0) (s' := 0) (pc := 10) C O miX11_116 w_1555 [.ref a0, .int a1] rfl (mX11_lengthOf hq2) dX11_frameOf_10 ⟨by decide, by decide, by decide, by decide⟩ rfl (Nat.le_of_ble_eq_true rfl) rfl ⟨rfl, rfl⟩ ?_
  refine go_icmp_ne (pc := 13) C 20 dX11_frameOf_13 (by decide) (fun _ => ?_) (fun _ => ?_)
  · refine go_iconst (pc := 16) C dX11_frameOf_16 ki_m1 ?_
    refine go_goto (pc := 17) C 26 dX11_frameOf_17 (by decide) ?_
    exact go_iret (w := (wI h)) (pc := 26) C E ((-1)) ((-1)) dX11_frameOf_26 rfl
  · refine go_aload_n (pc := 20) C 1 dX11_frameOf_20 rfl ?_
    refine go_iload_n (pc := 21) C 2 dX11_frameOf_21 rfl ?_
    refine go_iload_n (pc := 22) C 0 dX11_frameOf_22 rfl ?_
    refine go_bind (fun q3 hq3 => ?_)
    refine go_callS (rest := []) (st' := [.int q3]) (c' := 0) (s' := 0) (pc := 23) C O miX11_119 w_1608 [.ref a0, .int a1, .int q1] rfl (mX11_objectAt hq3) dX11_frameOf_23 ⟨by decide, by decide, by decide, by decide⟩ rfl (Nat.le_of_ble_eq_true rfl) rfl ⟨rfl, rfl⟩ ?_
    exact go_iret (w := (wI h)) (pc := 26) C E q3 q3 dX11_frameOf_26 rfl
theorem dX11_tellBits_0 : decode cX11_tellBits 0 = .ok (.aload_n 0, 1) := by decide +kernel
theorem dX11_tellBits_1 : decode cX11_tellBits 1 = .ok (.iconst 0, 1) := by decide +kernel
theorem dX11_tellBits_2 : decode cX11_tellBits 2 = .ok (.putfield 81, 3) := by decide +kernel
theorem dX11_tellBits_5 : decode cX11_tellBits 5 = .ok (.aload_n 0, 1) := by decide +kernel
theorem dX11_tellBits_6 : decode cX11_tellBits 6 = .ok (.iload_n 1, 1) := by decide +kernel
theorem dX11_tellBits_7 : decode cX11_tellBits 7 = .ok (.invokestatic 100, 3) := by decide +kernel
theorem dX11_tellBits_10 : decode cX11_tellBits 10 = .ok (.i2l, 1) := by decide +kernel
theorem dX11_tellBits_11 : decode cX11_tellBits 11 = .ok (.invokevirtual 283, 3) := by decide +kernel
theorem dX11_tellBits_14 : decode cX11_tellBits 14 = .ok (.iload_n 1, 1) := by decide +kernel
theorem dX11_tellBits_15 : decode cX11_tellBits 15 = .ok (.ireturn, 1) := by decide +kernel
def fX11_tellBits (h : AH) (a0 : Nat) (a1 : Int32) : Option (Int32 × AH) :=
  if hasC h 11 a0 = true then (
    (pF h 11 a0 4 (.int 0)).bind fun h1 =>
    (fJ6_bitCount_0f7a4 h1 a1).bind fun q2 =>
    (fX11_tell h1 a0 (Int32.toInt64 q2)).bind fun q3 =>
    some ((a1, q3))
  ) else none
set_option maxHeartbeats 4000000 in
theorem mX11_tellBits {h : AH} {a0 : Nat} {a1 : Int32} {r : Int32 × AH} (hr : fX11_tellBits h a0 a1 = some r) : hasC h 11 a0 = true ∧ MC yX11_tellBits cX11_tellBits 2 (some .int) 2 0 0 [.ref a0, .int a1] h (some (.int r.1)) r.2 := by
  unfold fX11_tellBits at hr
  obtain ⟨hc, hr⟩ := if_some hr
  refine ⟨hc, mc_of (l0 := [(0, .ref a0), (1, .int a1)]) rfl pn_X11 (Nat.le_of_ble_eq_true rfl) (fun Y X C E O hnm => go_run hr ?_)⟩
  have C : CT Y X RX11 cX11_tellBits 2 := C
  refine go_aload_n (pc := 0) C 0 dX11_tellBits_0 rfl ?_
  refine go_iconst (pc := 1) C dX11_tellBits_1 ki_0 ?_
  refine go_pI (pc := 2) C fpX11_81 dX11_tellBits_2 (fun h1 => ?_)
  refine go_aload_n (pc := 5) C 0 dX11_tellBits_5 rfl ?_
  refine go_iload_n (pc := 6) C 1 dX11_tellBits_6 rfl ?_
  refine go_bind (fun q2 hq2 => ?_)
  refine go_callS (rest := [.ref a0]) (st' := [.int q2, .ref a0]) (c' := 0) (s' := 0) (pc := 7) C O miX11_100 w_397 [.int a1] rfl (mJ6_bitCount_0f7a4 hq2) dX11_tellBits_7 ⟨by decide, by decide, by decide, by decide⟩ rfl (Nat.le_of_ble_eq_true rfl) rfl ⟨rfl, rfl⟩ ?_
  refine go_i2l (pc := 10) C dX11_tellBits_10 ?_
  refine go_bind (fun q3 hq3 => ?_)
  refine go_callV (rest := []) (st' := []) (c' := 0) (s' := 0) (pc := 11) C O miX11_283 mvX11_tell [.long (Int32.toInt64 q2)] rfl (mX11_tell hq3).1 (mX11_tell hq3).2 dX11_tellBits_11 ⟨by decide, by decide, by decide, by decide⟩ rfl (Nat.le_of_ble_eq_true rfl) rfl ⟨rfl, rfl⟩ ?_
  refine go_iload_n (pc := 14) C 1 dX11_tellBits_14 rfl ?_
  exact go_iret (w := wIh) (pc := 15) C E ((a1, q3)) a1 dX11_tellBits_15 rfl
theorem dX11_shared_0 : decode cX11_shared 0 = .ok (.aload_n 0, 1) := by decide +kernel
theorem dX11_shared_1 : decode cX11_shared 1 = .ok (.iconst 0, 1) := by decide +kernel
theorem dX11_shared_2 : decode cX11_shared 2 = .ok (.putfield 77, 3) := by decide +kernel
theorem dX11_shared_5 : decode cX11_shared 5 = .ok (.aload_n 0, 1) := by decide +kernel
theorem dX11_shared_6 : decode cX11_shared 6 = .ok (.iload_n 1, 1) := by decide +kernel
theorem dX11_shared_7 : decode cX11_shared 7 = .ok (.iload_n 2, 1) := by decide +kernel
theorem dX11_shared_8 : decode cX11_shared 8 = .ok (.invokevirtual 353, 3) := by decide +kernel
theorem dX11_shared_11 : decode cX11_shared 11 = .ok (.ifCond .ne 5, 3) := by decide +kernel
theorem dX11_shared_14 : decode cX11_shared 14 = .ok (.iconst (-1), 1) := by decide +kernel
theorem dX11_shared_15 : decode cX11_shared 15 = .ok (.ireturn, 1) := by decide +kernel
theorem dX11_shared_16 : decode cX11_shared 16 = .ok (.iconst 0, 1) := by decide +kernel
theorem dX11_shared_17 : decode cX11_shared 17 = .ok (.istore_n 3, 1) := by decide +kernel
theorem dX11_shared_18 : decode cX11_shared 18 = .ok (.iconst 0, 1) := by decide +kernel
theorem dX11_shared_19 : decode cX11_shared 19 = .ok (.istore 4, 2) := by decide +kernel
theorem dX11_shared_21 : decode cX11_shared 21 = .ok (.iload 4, 2) := by decide +kernel
theorem dX11_shared_23 : decode cX11_shared 23 = .ok (.bipush 8, 2) := by decide +kernel
theorem dX11_shared_25 : decode cX11_shared 25 = .ok (.if_icmp .ge 57, 3) := by decide +kernel
theorem dX11_shared_28 : decode cX11_shared 28 = .ok (.iload_n 3, 1) := by decide +kernel
theorem dX11_shared_29 : decode cX11_shared 29 = .ok (.aload_n 0, 1) := by decide +kernel
theorem dX11_shared_30 : decode cX11_shared 30 = .ok (.getfield 9, 3) := by decide +kernel
theorem dX11_shared_33 : decode cX11_shared 33 = .ok (.iload_n 1, 1) := by decide +kernel
theorem dX11_shared_34 : decode cX11_shared 34 = .ok (.iload 4, 2) := by decide +kernel
theorem dX11_shared_36 : decode cX11_shared 36 = .ok (.invokestatic 356, 3) := by decide +kernel
theorem dX11_shared_39 : decode cX11_shared 39 = .ok (.iconst (-1), 1) := by decide +kernel
theorem dX11_shared_40 : decode cX11_shared 40 = .ok (.if_icmp .eq 33, 3) := by decide +kernel
theorem dX11_shared_43 : decode cX11_shared 43 = .ok (.aload_n 0, 1) := by decide +kernel
theorem dX11_shared_44 : decode cX11_shared 44 = .ok (.getfield 9, 3) := by decide +kernel
theorem dX11_shared_47 : decode cX11_shared 47 = .ok (.iload_n 1, 1) := by decide +kernel
theorem dX11_shared_48 : decode cX11_shared 48 = .ok (.iload 4, 2) := by decide +kernel
theorem dX11_shared_50 : decode cX11_shared 50 = .ok (.invokestatic 356, 3) := by decide +kernel
theorem dX11_shared_53 : decode cX11_shared 53 = .ok (.aload_n 0, 1) := by decide +kernel
theorem dX11_shared_54 : decode cX11_shared 54 = .ok (.getfield 9, 3) := by decide +kernel
theorem dX11_shared_57 : decode cX11_shared 57 = .ok (.iload_n 2, 1) := by decide +kernel
theorem dX11_shared_58 : decode cX11_shared 58 = .ok (.iload 4, 2) := by decide +kernel
theorem dX11_shared_60 : decode cX11_shared 60 = .ok (.invokestatic 356, 3) := by decide +kernel
theorem dX11_shared_63 : decode cX11_shared 63 = .ok (.if_icmp .ne 10, 3) := by decide +kernel
theorem dX11_shared_66 : decode cX11_shared 66 = .ok (.iconst 1, 1) := by decide +kernel
theorem dX11_shared_67 : decode cX11_shared 67 = .ok (.iload 4, 2) := by decide +kernel
theorem dX11_shared_69 : decode cX11_shared 69 = .ok (.ishl, 1) := by decide +kernel
theorem dX11_shared_70 : decode cX11_shared 70 = .ok (.goto 4, 3) := by decide +kernel
theorem dX11_shared_73 : decode cX11_shared 73 = .ok (.iconst 0, 1) := by decide +kernel
theorem dX11_shared_74 : decode cX11_shared 74 = .ok (.ior, 1) := by decide +kernel
theorem dX11_shared_75 : decode cX11_shared 75 = .ok (.istore_n 3, 1) := by decide +kernel
theorem dX11_shared_76 : decode cX11_shared 76 = .ok (.iinc 4 1, 3) := by decide +kernel
theorem dX11_shared_79 : decode cX11_shared 79 = .ok (.goto (-58), 3) := by decide +kernel
theorem dX11_shared_82 : decode cX11_shared 82 = .ok (.aload_n 0, 1) := by decide +kernel
theorem dX11_shared_83 : decode cX11_shared 83 = .ok (.iload_n 3, 1) := by decide +kernel
theorem dX11_shared_84 : decode cX11_shared 84 = .ok (.invokevirtual 359, 3) := by decide +kernel
theorem dX11_shared_87 : decode cX11_shared 87 = .ok (.ireturn, 1) := by decide +kernel
def fX11_shared_J74 (k21 : AH → Nat → Int32 → Int32 → Int32 → Int32 → Option (Int32 × AH)) (h : AH) (v0 : Nat) (v1 : Int32) (v2 : Int32) (v4 : Int32) (s0 : Int32) (s1 : Int32) : Option (Int32 × AH) :=
    letF (s1 ||| s0 : Int32) fun x1 =>
    letF (v4 + 1 : Int32) fun x2 =>
    k21 h v0 v1 v2 x1 x2
def fX11_shared_L21 (k82 : AH → Nat → Int32 → Option (Int32 × AH)) : Nat → AH → Nat → Int32 → Int32 → Int32 → Int32 → Option (Int32 × AH)
  | 0, _, _, _, _, _, _ => none
  | n + 1, h, v0, v1, v2, v3, v4 =>
    if 8 ≤ v4 then (
      k82 h v0 v3
    ) else (
      (gR h 11 v0 0).bind fun x3 =>
      (fX11_frameOf h x3 v1 v4).bind fun q4 =>
      if q4 = ((-1)) then (
        fX11_shared_J74 (fX11_shared_L21 k82 n) h v0 v1 v2 v4 0 v3
      ) else (
        (gR h 11 v0 0).bind fun x5 =>
        (fX11_frameOf h x5 v1 v4).bind fun q6 =>
        (gR h 11 v0 0).bind fun x7 =>
        (fX11_frameOf h x7 v2 v4).bind fun q8 =>
        if q6 = q8 then (
          fX11_shared_J74 (fX11_shared_L21 k82 n) h v0 v1 v2 v4 (1 <<< (v4 &&& 31)) v3
        ) else (
          fX11_shared_J74 (fX11_shared_L21 k82 n) h v0 v1 v2 v4 0 v3
        )
      )
    )
def fX11_shared (h : AH) (a0 : Nat) (a1 : Int32) (a2 : Int32) : Option (Int32 × AH) :=
  if hasC h 11 a0 = true then (
    (pF h 11 a0 5 (.int 0)).bind fun h9 =>
    (fX11_areTwo h9 a0 a1 a2).bind fun q10 =>
    if q10 = true then (
      fX11_shared_L21
        (fun h13 x11 x12 =>
          (fX11_tellBits h13 x11 x12).bind fun q14 =>
          some ((q14.1, q14.2)))
        FU h9 a0 a1 a2 0 0
    ) else (
      some (((-1), h9))
    )
  ) else none
set_option maxHeartbeats 4000000 in
theorem gX11_shared_J74 {Y : YT} {X : XT} (C : CT Y X RX11 cX11_shared 5) (O : RO X 4 0 0) {r : Int32 × AH} (E : RX Y X (some .int) (some (.int r.1)) r.2 0 0) {k21 : AH → Nat → Int32 → Int32 → Int32 → Int32 → Option (Int32 × AH)} (hk21 : ∀ (h : AH) (v0 : Nat) (v1 : Int32) (v2 : Int32) (v3 : Int32) (v4 : Int32), GO Y X 5 r h 0 0 21 [(0, .ref v0), (1, .int v1), (2, .int v2), (3, .int v3), (4, .int v4)] [] (k21 h v0 v1 v2 v3 v4)) : ∀ (h : AH) (v0 : Nat) (v1 : Int32) (v2 : Int32) (v4 : Int32) (s0 : Int32) (s1 : Int32), GO Y X 5 r h 0 0 74 [(0, .ref v0), (1, .int v1), (2, .int v2), (4, .int v4)] [.int s0, .int s1] (fX11_shared_J74 k21 h v0 v1 v2 v4 s0 s1) := by
  intro h v0 v1 v2 v4 s0 s1
  unfold fX11_shared_J74
  refine go_ior (pc := 74) C dX11_shared_74 ?_
  refine go_istore_nL (pc := 75) C dX11_shared_75 (by decide) (fun x1 => [(3, .int x1), (0, .ref v0), (1, .int v1), (2, .int v2), (4, .int v4)]) (fun _ => rfl) (fun x1 => ?_)
  refine go_iincL (pc := 76) C 4 dX11_shared_76 rfl ki_1 (by decide) (fun x2 => [(4, .int x2), (3, .int x1), (0, .ref v0), (1, .int v1), (2, .int v2)]) (fun _ => rfl) (fun x2 => ?_)
  refine go_goto (pc := 79) C 21 dX11_shared_79 (by decide) ?_
  refine go_sub (ls' := [(0, .ref v0), (1, .int v1), (2, .int v2), (3, .int x1), (4, .int x2)]) [2, 3, 4, 1, 0] rfl ?_
  exact hk21 h v0 v1 v2 x1 x2
set_option maxHeartbeats 4000000 in
theorem gX11_shared_L21 {Y : YT} {X : XT} (C : CT Y X RX11 cX11_shared 5) (O : RO X 4 0 0) {r : Int32 × AH} (E : RX Y X (some .int) (some (.int r.1)) r.2 0 0) {k82 : AH → Nat → Int32 → Option (Int32 × AH)} (hk82 : ∀ (h : AH) (v0 : Nat) (v3 : Int32), GO Y X 5 r h 0 0 82 [(0, .ref v0), (3, .int v3)] [] (k82 h v0 v3)) : ∀ (n : Nat) (h : AH) (v0 : Nat) (v1 : Int32) (v2 : Int32) (v3 : Int32) (v4 : Int32), GO Y X 5 r h 0 0 21 [(0, .ref v0), (1, .int v1), (2, .int v2), (3, .int v3), (4, .int v4)] [] (fX11_shared_L21 k82 n h v0 v1 v2 v3 v4) := by
  intro n
  induction n with
  | zero => intros; exact go_none _ _ _
  | succ n ih =>
    intro h v0 v1 v2 v3 v4
    rw [fX11_shared_L21]
    refine go_iload (pc := 21) C 4 dX11_shared_21 rfl ?_
    refine go_bipush (pc := 23) C dX11_shared_23 kb_8 ?_
    refine go_icmp_ge (pc := 25) C 82 dX11_shared_25 (by decide) (fun _ => ?_) (fun _ => ?_)
    · refine go_sub (ls' := [(0, .ref v0), (3, .int v3)]) [0, 3] rfl ?_
      exact hk82 h v0 v3
    · refine go_iload_n (pc := 28) C 3 dX11_shared_28 rfl ?_
      refine go_aload_n (pc := 29) C 0 dX11_shared_29 rfl ?_
      refine go_gR (pc := 30) C fdX11_9 dX11_shared_30 (fun x3 => ?_)
      refine go_iload_n (pc := 33) C 1 dX11_shared_33 rfl ?_
      refine go_iload (pc := 34) C 4 dX11_shared_34 rfl ?_
      refine go_bind (fun q4 hq4 => ?_)
      refine go_callS (rest := [.int v3]) (st' := [.int q4, .int v3]) (c' := 0) (s' := 0) (pc := 36) C O miX11_356 w_1744 [.ref x3, .int v1, .int v4] rfl (mX11_frameOf hq4) dX11_shared_36 ⟨by decide, by decide, by decide, by decide⟩ rfl (Nat.le_of_ble_eq_true rfl) rfl ⟨rfl, rfl⟩ ?_
      refine go_iconst (pc := 39) C dX11_shared_39 ki_m1 ?_
      refine go_icmp_eq (pc := 40) C 73 dX11_shared_40 (by decide) (fun _ => ?_) (fun _ => ?_)
      · refine go_iconst (pc := 73) C dX11_shared_73 ki_0 ?_
        refine go_sub (ls' := [(0, .ref v0), (1, .int v1), (2, .int v2), (4, .int v4)]) [0, 1, 2, 4] rfl ?_
        refine gX11_shared_J74 C O E (ih) h v0 v1 v2 v4 0 v3
      · refine go_aload_n (pc := 43) C 0 dX11_shared_43 rfl ?_
        refine go_gR (pc := 44) C fdX11_9 dX11_shared_44 (fun x5 => ?_)
        refine go_iload_n (pc := 47) C 1 dX11_shared_47 rfl ?_
        refine go_iload (pc := 48) C 4 dX11_shared_48 rfl ?_
        refine go_bind (fun q6 hq6 => ?_)
        refine go_callS (rest := [.int v3]) (st' := [.int q6, .int v3]) (c' := 0) (s' := 0) (pc := 50) C O miX11_356 w_1744 [.ref x5, .int v1, .int v4] rfl (mX11_frameOf hq6) dX11_shared_50 ⟨by decide, by decide, by decide, by decide⟩ rfl (Nat.le_of_ble_eq_true rfl) rfl ⟨rfl, rfl⟩ ?_
        refine go_aload_n (pc := 53) C 0 dX11_shared_53 rfl ?_
        refine go_gR (pc := 54) C fdX11_9 dX11_shared_54 (fun x7 => ?_)
        refine go_iload_n (pc := 57) C 2 dX11_shared_57 rfl ?_
        refine go_iload (pc := 58) C 4 dX11_shared_58 rfl ?_
        refine go_bind (fun q8 hq8 => ?_)
        refine go_callS (rest := [.int q6, .int v3]) (st' := [.int q8, .int q6, .int v3]) (c' := 0) (s' := 0) (pc := 60) C O miX11_356 w_1744 [.ref x7, .int v2, .int v4] rfl (mX11_frameOf hq8) dX11_shared_60 ⟨by decide, by decide, by decide, by decide⟩ rfl (Nat.le_of_ble_eq_true rfl) rfl ⟨rfl, rfl⟩ ?_
        refine go_icmp_ne (pc := 63) C 73 dX11_shared_63 (by decide) (fun _ => ?_) (fun _ => ?_)
        · refine go_iconst (pc := 66) C dX11_shared_66 ki_1 ?_
          refine go_iload (pc := 67) C 4 dX11_shared_67 rfl ?_
          refine go_ishl (pc := 69) C dX11_shared_69 ?_
          refine go_goto (pc := 70) C 74 dX11_shared_70 (by decide) ?_
          refine go_sub (ls' := [(0, .ref v0), (1, .int v1), (2, .int v2), (4, .int v4)]) [0, 1, 2, 4] rfl ?_
          refine gX11_shared_J74 C O E (ih) h v0 v1 v2 v4 (1 <<< (v4 &&& 31)) v3
        · refine go_iconst (pc := 73) C dX11_shared_73 ki_0 ?_
          refine go_sub (ls' := [(0, .ref v0), (1, .int v1), (2, .int v2), (4, .int v4)]) [0, 1, 2, 4] rfl ?_
          refine gX11_shared_J74 C O E (ih) h v0 v1 v2 v4 0 v3
set_option maxHeartbeats 4000000 in
theorem mX11_shared {h : AH} {a0 : Nat} {a1 : Int32} {a2 : Int32} {r : Int32 × AH} (hr : fX11_shared h a0 a1 a2 = some r) : hasC h 11 a0 = true ∧ MC yX11_shared cX11_shared 5 (some .int) 4 0 0 [.ref a0, .int a1, .int a2] h (some (.int r.1)) r.2 := by
  unfold fX11_shared at hr
  obtain ⟨hc, hr⟩ := if_some hr
  refine ⟨hc, mc_of (l0 := [(0, .ref a0), (1, .int a1), (2, .int a2)]) rfl pn_X11 (Nat.le_of_ble_eq_true rfl) (fun Y X C E O hnm => go_run hr ?_)⟩
  have C : CT Y X RX11 cX11_shared 5 := C
  refine go_aload_n (pc := 0) C 0 dX11_shared_0 rfl ?_
  refine go_iconst (pc := 1) C dX11_shared_1 ki_0 ?_
  refine go_pI (pc := 2) C fpX11_77 dX11_shared_2 (fun h9 => ?_)
  refine go_aload_n (pc := 5) C 0 dX11_shared_5 rfl ?_
  refine go_iload_n (pc := 6) C 1 dX11_shared_6 rfl ?_
  refine go_iload_n (pc := 7) C 2 dX11_shared_7 rfl ?_
  refine go_bind (fun q10 hq10 => ?_)
  refine go_callV (rest := []) (st' := [.int (b2i q10)]) (c' := 0) (s' := 0) (pc := 8) C O miX11_353 mvX11_areTwo [.int a1, .int a2] rfl (mX11_areTwo hq10).1 (mX11_areTwo hq10).2 dX11_shared_8 ⟨by decide, by decide, by decide, by decide⟩ rfl (Nat.le_of_ble_eq_true rfl) rfl ⟨rfl, rfl⟩ ?_
  refine go_ifZ_ne (pc := 11) C 16 dX11_shared_11 (by decide) (fun _ => ?_) (fun _ => ?_)
  · refine go_iconst (pc := 16) C dX11_shared_16 ki_0 ?_
    refine go_istore_n (ls' := [(3, .int 0), (0, .ref a0), (1, .int a1), (2, .int a2)]) (pc := 17) C dX11_shared_17 (by decide) rfl ?_
    refine go_iconst (pc := 18) C dX11_shared_18 ki_0 ?_
    refine go_istore (ls' := [(4, .int 0), (3, .int 0), (0, .ref a0), (1, .int a1), (2, .int a2)]) (pc := 19) C dX11_shared_19 (by decide) rfl ?_
    refine go_sub (ls' := [(0, .ref a0), (1, .int a1), (2, .int a2), (3, .int 0), (4, .int 0)]) [2, 3, 4, 1, 0] rfl ?_
    refine gX11_shared_L21 C O E (fun h13 x11 x12 => ?_) FU h9 a0 a1 a2 0 0
    · refine go_aload_n (pc := 82) C 0 dX11_shared_82 rfl ?_
      refine go_iload_n (pc := 83) C 1 dX11_shared_83 rfl ?_
      refine go_bind (fun q14 hq14 => ?_)
      refine go_callV (rest := []) (st' := [.int q14.1]) (c' := 0) (s' := 0) (pc := 84) C O miX11_359 mvX11_tellBits [.int x12] rfl (mX11_tellBits hq14).1 (mX11_tellBits hq14).2 dX11_shared_84 ⟨by decide, by decide, by decide, by decide⟩ rfl (Nat.le_of_ble_eq_true rfl) rfl ⟨rfl, rfl⟩ ?_
      exact go_iret (w := wIh) (pc := 87) C E ((q14.1, q14.2)) q14.1 dX11_shared_87 rfl
  · refine go_iconst (pc := 14) C dX11_shared_14 ki_m1 ?_
    exact go_iret (w := wIh) (pc := 15) C E (((-1), h9)) ((-1)) dX11_shared_15 rfl
