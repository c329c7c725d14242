/-! walks, by program: X11_fits X11_asks X11_saw X11_denies X11_tidiesBy X11_isLaw X11_laws X11_looks X11_worthBy X11_pages X11_gets X11_isBest X11_rests X11_layWritten X11_law X11_draw X11_years X11_keep X11_again -/
theorem dX11_fits_0 : decode cX11_fits 0 = .ok (.aload_n 0, 1) := by decide +kernel
theorem dX11_fits_1 : decode cX11_fits 1 = .ok (.iconst 0, 1) := by decide +kernel
theorem dX11_fits_2 : decode cX11_fits 2 = .ok (.putfield 77, 3) := by decide +kernel
theorem dX11_fits_5 : decode cX11_fits 5 = .ok (.aload_n 0, 1) := by decide +kernel
theorem dX11_fits_6 : decode cX11_fits 6 = .ok (.invokevirtual 391, 3) := by decide +kernel
theorem dX11_fits_9 : decode cX11_fits 9 = .ok (.istore_n 1, 1) := by decide +kernel
theorem dX11_fits_10 : decode cX11_fits 10 = .ok (.aload_n 0, 1) := by decide +kernel
theorem dX11_fits_11 : decode cX11_fits 11 = .ok (.iconst 0, 1) := by decide +kernel
theorem dX11_fits_12 : decode cX11_fits 12 = .ok (.putfield 81, 3) := by decide +kernel
theorem dX11_fits_15 : decode cX11_fits 15 = .ok (.iconst 0, 1) := by decide +kernel
theorem dX11_fits_16 : decode cX11_fits 16 = .ok (.istore_n 2, 1) := by decide +kernel
theorem dX11_fits_17 : decode cX11_fits 17 = .ok (.iload_n 2, 1) := by decide +kernel
theorem dX11_fits_18 : decode cX11_fits 18 = .ok (.sipush 192, 3) := by decide +kernel
theorem dX11_fits_21 : decode cX11_fits 21 = .ok (.if_icmp .ge 46, 3) := by decide +kernel
theorem dX11_fits_24 : decode cX11_fits 24 = .ok (.aload_n 0, 1) := by decide +kernel
theorem dX11_fits_25 : decode cX11_fits 25 = .ok (.getfield 81, 3) := by decide +kernel
theorem dX11_fits_28 : decode cX11_fits 28 = .ok (.ifCond .ne 39, 3) := by decide +kernel
theorem dX11_fits_31 : decode cX11_fits 31 = .ok (.aload_n 0, 1) := by decide +kernel
theorem dX11_fits_32 : decode cX11_fits 32 = .ok (.getfield 51, 3) := by decide +kernel
theorem dX11_fits_35 : decode cX11_fits 35 = .ok (.iload_n 2, 1) := by decide +kernel
theorem dX11_fits_36 : decode cX11_fits 36 = .ok (.baload, 1) := by decide +kernel
theorem dX11_fits_37 : decode cX11_fits 37 = .ok (.ifCond .ne 6, 3) := by decide +kernel
theorem dX11_fits_40 : decode cX11_fits 40 = .ok (.goto 21, 3) := by decide +kernel
theorem dX11_fits_43 : decode cX11_fits 43 = .ok (.aload_n 0, 1) := by decide +kernel
theorem dX11_fits_44 : decode cX11_fits 44 = .ok (.iload_n 2, 1) := by decide +kernel
theorem dX11_fits_45 : decode cX11_fits 45 = .ok (.bipush 8, 2) := by decide +kernel
theorem dX11_fits_47 : decode cX11_fits 47 = .ok (.idiv, 1) := by decide +kernel
theorem dX11_fits_48 : decode cX11_fits 48 = .ok (.i2l, 1) := by decide +kernel
theorem dX11_fits_49 : decode cX11_fits 49 = .ok (.invokevirtual 283, 3) := by decide +kernel
theorem dX11_fits_52 : decode cX11_fits 52 = .ok (.aload_n 0, 1) := by decide +kernel
theorem dX11_fits_53 : decode cX11_fits 53 = .ok (.iload_n 2, 1) := by decide +kernel
theorem dX11_fits_54 : decode cX11_fits 54 = .ok (.bipush 8, 2) := by decide +kernel
theorem dX11_fits_56 : decode cX11_fits 56 = .ok (.irem, 1) := by decide +kernel
theorem dX11_fits_57 : decode cX11_fits 57 = .ok (.i2l, 1) := by decide +kernel
theorem dX11_fits_58 : decode cX11_fits 58 = .ok (.invokevirtual 283, 3) := by decide +kernel
theorem dX11_fits_61 : decode cX11_fits 61 = .ok (.iinc 2 1, 3) := by decide +kernel
theorem dX11_fits_64 : decode cX11_fits 64 = .ok (.goto (-47), 3) := by decide +kernel
theorem dX11_fits_67 : decode cX11_fits 67 = .ok (.iload_n 1, 1) := by decide +kernel
theorem dX11_fits_68 : decode cX11_fits 68 = .ok (.ireturn, 1) := by decide +kernel
def fX11_fits_L17 : Nat → AH → Nat → Int32 → Int32 → Option (Int32 × AH)
  | 0, _, _, _, _ => none
  | n + 1, h, v0, v1, v2 =>
    if 192 ≤ v2 then (
      some ((v1, h))
    ) else (
      (gI h 11 v0 4).bind fun x1 =>
      if x1 = 0 then (
        (gR h 11 v0 27).bind fun x2 =>
        (aZ h x2 v2).bind fun x3 =>
        if x3 = true then (
          (jdiv v2 8).bind fun x4 =>
          (fX11_tell h v0 (Int32.toInt64 x4)).bind fun q5 =>
          (jrem v2 8).bind fun x6 =>
          (fX11_tell q5 v0 (Int32.toInt64 x6)).bind fun q7 =>
          letF (v2 + 1 : Int32) fun x8 =>
          fX11_fits_L17 n q7 v0 v1 x8
        ) else (
          letF (v2 + 1 : Int32) fun x9 =>
          fX11_fits_L17 n h v0 v1 x9
        )
      ) else (
        some ((v1, h))
      )
    )
def fX11_fits (h : AH) (a0 : Nat) : Option (Int32 × AH) :=
  if hasC h 11 a0 = true then (
    (pF h 11 a0 5 (.int 0)).bind fun h10 =>
    (fX11_layFits h10 a0).bind fun q11 =>
    (pF q11.2 11 a0 4 (.int 0)).bind fun h12 =>
    fX11_fits_L17 FU h12 a0 q11.1 0
  ) else none
set_option maxHeartbeats 4000000 in
theorem gX11_fits_L17 {Y : YT} {X : XT} (C : CT Y X RX11 cX11_fits 3) (O : RO X 8 0 0) {r : Int32 × AH} (E : RX Y X (some .int) (some (.int r.1)) r.2 0 0) : ∀ (n : Nat) (h : AH) (v0 : Nat) (v1 : Int32) (v2 : Int32), GO Y X 3 r h 0 0 17 [(0, .ref v0), (1, .int v1), (2, .int v2)] [] (fX11_fits_L17 n h v0 v1 v2) := by
  intro n
  induction n with
  | zero => intros; exact go_none _ _ _
  | succ n ih =>
    intro h v0 v1 v2
    rw [fX11_fits_L17]
    refine go_iload_n (pc := 17) C 2 dX11_fits_17 rfl ?_
    refine go_sipush (pc := 18) C dX11_fits_18 ks_192 ?_
    refine go_icmp_ge (pc := 21) C 67 dX11_fits_21 (by decide) (fun _ => ?_) (fun _ => ?_)
    · refine go_iload_n (pc := 67) C 1 dX11_fits_67 rfl ?_
      exact go_iret (w := wIh) (pc := 68) C E ((v1, h)) v1 dX11_fits_68 rfl
    · refine go_aload_n (pc := 24) C 0 dX11_fits_24 rfl ?_
      refine go_gI (pc := 25) C fdX11_81 dX11_fits_25 (fun x1 => ?_)
      refine go_if_ne (pc := 28) C 67 dX11_fits_28 (by decide) (fun _ => ?_) (fun _ => ?_)
      · refine go_aload_n (pc := 31) C 0 dX11_fits_31 rfl ?_
        refine go_gR (pc := 32) C fdX11_51 dX11_fits_32 (fun x2 => ?_)
        refine go_iload_n (pc := 35) C 2 dX11_fits_35 rfl ?_
        refine go_zald (pc := 36) C dX11_fits_36 (fun x3 => ?_)
        refine go_ifZ_ne (pc := 37) C 43 dX11_fits_37 (by decide) (fun _ => ?_) (fun _ => ?_)
        · refine go_aload_n (pc := 43) C 0 dX11_fits_43 rfl ?_
          refine go_iload_n (pc := 44) C 2 dX11_fits_44 rfl ?_
          refine go_bipush (pc := 45) C dX11_fits_45 kb_8 ?_
          refine go_idiv (pc := 47) C dX11_fits_47 (fun x4 => ?_)
          refine go_i2l (pc := 48) C dX11_fits_48 ?_
          refine go_bind (fun q5 hq5 => ?_)
          refine go_callV (rest := []) (st' := []) (c' := 0) (s' := 0) (pc := 49) C O miX11_283 mvX11_tell [.long (Int32.toInt64 x4)] rfl (mX11_tell hq5).1 (mX11_tell hq5).2 dX11_fits_49 ⟨by decide, by decide, by decide, by decide⟩ rfl (Nat.le_of_ble_eq_true rfl) rfl ⟨rfl, rfl⟩ ?_
          refine go_aload_n (pc := 52) C 0 dX11_fits_52 rfl ?_
          refine go_iload_n (pc := 53) C 2 dX11_fits_53 rfl ?_
          refine go_bipush (pc := 54) C dX11_fits_54 kb_8 ?_
          refine go_irem (pc := 56) C dX11_fits_56 (fun x6 => ?_)
          refine go_i2l (pc := 57) C dX11_fits_57 ?_
          refine go_bind (fun q7 hq7 => ?_)
          refine go_callV (rest := []) (st' := []) (c' := 0) (s' := 0) (pc := 58) C O miX11_283 mvX11_tell [.long (Int32.toInt64 x6)] rfl (mX11_tell hq7).1 (mX11_tell hq7).2 dX11_fits_58 ⟨by decide, by decide, by decide, by decide⟩ rfl (Nat.le_of_ble_eq_true rfl) rfl ⟨rfl, rfl⟩ ?_
          refine go_iincL (pc := 61) C 2 dX11_fits_61 rfl ki_1 (by decide) (fun x8 => [(2, .int x8), (0, .ref v0), (1, .int v1)]) (fun _ => rfl) (fun x8 => ?_)
          refine go_goto (pc := 64) C 17 dX11_fits_64 (by decide) ?_
          refine go_sub (ls' := [(0, .ref v0), (1, .int v1), (2, .int x8)]) [1, 2, 0] rfl ?_
          exact ih q7 v0 v1 x8
        · refine go_goto (pc := 40) C 61 dX11_fits_40 (by decide) ?_
          refine go_iincL (pc := 61) C 2 dX11_fits_61 rfl ki_1 (by decide) (fun x9 => [(2, .int x9), (0, .ref v0), (1, .int v1)]) (fun _ => rfl) (fun x9 => ?_)
          refine go_goto (pc := 64) C 17 dX11_fits_64 (by decide) ?_
          refine go_sub (ls' := [(0, .ref v0), (1, .int v1), (2, .int x9)]) [1, 2, 0] rfl ?_
          exact ih h v0 v1 x9
      · refine go_iload_n (pc := 67) C 1 dX11_fits_67 rfl ?_
        exact go_iret (w := wIh) (pc := 68) C E ((v1, h)) v1 dX11_fits_68 rfl
set_option maxHeartbeats 4000000 in
theorem mX11_fits {h : AH} {a0 : Nat} {r : Int32 × AH} (hr : fX11_fits h a0 = some r) : hasC h 11 a0 = true ∧ MC yX11_fits cX11_fits 3 (some .int) 8 0 0 [.ref a0] h (some (.int r.1)) r.2 := by
  unfold fX11_fits at hr
  obtain ⟨hc, hr⟩ := if_some hr
  refine ⟨hc, mc_of (l0 := [(0, .ref a0)]) rfl pn_X11 (Nat.le_of_ble_eq_true rfl) (fun Y X C E O hnm => go_run hr ?_)⟩
  have C : CT Y X RX11 cX11_fits 3 := C
  refine go_aload_n (pc := 0) C 0 dX11_fits_0 rfl ?_
  refine go_iconst (pc := 1) C dX11_fits_1 ki_0 ?_
  refine go_pI (pc := 2) C fpX11_77 dX11_fits_2 (fun h10 => ?_)
  refine go_aload_n (pc := 5) C 0 dX11_fits_5 rfl ?_
  refine go_bind (fun q11 hq11 => ?_)
  refine go_callV (rest := []) (st' := [.int q11.1]) (c' := 0) (s' := 0) (pc := 6) C O miX11_391 mvX11_layFits [] rfl (mX11_layFits hq11).1 (mX11_layFits hq11).2 dX11_fits_6 ⟨by decide, by decide, by decide, by decide⟩ rfl (Nat.le_of_ble_eq_true rfl) rfl ⟨rfl, rfl⟩ ?_
  refine go_istore_n (ls' := [(1, .int q11.1), (0, .ref a0)]) (pc := 9) C dX11_fits_9 (by decide) rfl ?_
  refine go_aload_n (pc := 10) C 1 dX11_fits_10 rfl ?_
  refine go_iconst (pc := 11) C dX11_fits_11 ki_0 ?_
  refine go_pI (pc := 12) C fpX11_81 dX11_fits_12 (fun h12 => ?_)
  refine go_iconst (pc := 15) C dX11_fits_15 ki_0 ?_
  refine go_istore_n (ls' := [(2, .int 0), (1, .int q11.1), (0, .ref a0)]) (pc := 16) C dX11_fits_16 (by decide) rfl ?_
  refine go_sub (ls' := [(0, .ref a0), (1, .int q11.1), (2, .int 0)]) [2, 1, 0] rfl ?_
  refine gX11_fits_L17 C O E FU h12 a0 q11.1 0
theorem dX11_asks_0 : decode cX11_asks 0 = .ok (.aload_n 0, 1) := by decide +kernel
theorem dX11_asks_1 : decode cX11_asks 1 = .ok (.iconst 0, 1) := by decide +kernel
theorem dX11_asks_2 : decode cX11_asks 2 = .ok (.putfield 77, 3) := by decide +kernel
theorem dX11_asks_5 : decode cX11_asks 5 = .ok (.aload_n 0, 1) := by decide +kernel
theorem dX11_asks_6 : decode cX11_asks 6 = .ok (.invokevirtual 391, 3) := by decide +kernel
theorem dX11_asks_9 : decode cX11_asks 9 = .ok (.istore_n 1, 1) := by decide +kernel
theorem dX11_asks_10 : decode cX11_asks 10 = .ok (.iload_n 1, 1) := by decide +kernel
theorem dX11_asks_11 : decode cX11_asks 11 = .ok (.ifCond .ne 6, 3) := by decide +kernel
theorem dX11_asks_14 : decode cX11_asks 14 = .ok (.bipush (-2), 2) := by decide +kernel
theorem dX11_asks_16 : decode cX11_asks 16 = .ok (.ireturn, 1) := by decide +kernel
theorem dX11_asks_17 : decode cX11_asks 17 = .ok (.iconst (-1), 1) := by decide +kernel
theorem dX11_asks_18 : decode cX11_asks 18 = .ok (.istore_n 2, 1) := by decide +kernel
theorem dX11_asks_19 : decode cX11_asks 19 = .ok (.ldc_w 394, 3) := by decide +kernel
theorem dX11_asks_22 : decode cX11_asks 22 = .ok (.istore_n 3, 1) := by decide +kernel
theorem dX11_asks_23 : decode cX11_asks 23 = .ok (.iconst 0, 1) := by decide +kernel
theorem dX11_asks_24 : decode cX11_asks 24 = .ok (.istore 4, 2) := by decide +kernel
theorem dX11_asks_26 : decode cX11_asks 26 = .ok (.iload 4, 2) := by decide +kernel
theorem dX11_asks_28 : decode cX11_asks 28 = .ok (.iconst 4, 1) := by decide +kernel
theorem dX11_asks_29 : decode cX11_asks 29 = .ok (.if_icmp .ge 124, 3) := by decide +kernel
theorem dX11_asks_32 : decode cX11_asks 32 = .ok (.iconst 0, 1) := by decide +kernel
theorem dX11_asks_33 : decode cX11_asks 33 = .ok (.istore 5, 2) := by decide +kernel
theorem dX11_asks_35 : decode cX11_asks 35 = .ok (.iload 5, 2) := by decide +kernel
theorem dX11_asks_37 : decode cX11_asks 37 = .ok (.iload 4, 2) := by decide +kernel
theorem dX11_asks_39 : decode cX11_asks 39 = .ok (.invokestatic 378, 3) := by decide +kernel
theorem dX11_asks_42 : decode cX11_asks 42 = .ok (.if_icmp .gt 105, 3) := by decide +kernel
theorem dX11_asks_45 : decode cX11_asks 45 = .ok (.iconst 0, 1) := by decide +kernel
theorem dX11_asks_46 : decode cX11_asks 46 = .ok (.istore 6, 2) := by decide +kernel
theorem dX11_asks_48 : decode cX11_asks 48 = .ok (.iconst 0, 1) := by decide +kernel
theorem dX11_asks_49 : decode cX11_asks 49 = .ok (.istore 7, 2) := by decide +kernel
theorem dX11_asks_51 : decode cX11_asks 51 = .ok (.iload 7, 2) := by decide +kernel
theorem dX11_asks_53 : decode cX11_asks 53 = .ok (.sipush 192, 3) := by decide +kernel
theorem dX11_asks_56 : decode cX11_asks 56 = .ok (.if_icmp .ge 50, 3) := by decide +kernel
theorem dX11_asks_59 : decode cX11_asks 59 = .ok (.iload 6, 2) := by decide +kernel
theorem dX11_asks_61 : decode cX11_asks 61 = .ok (.aload_n 0, 1) := by decide +kernel
theorem dX11_asks_62 : decode cX11_asks 62 = .ok (.getfield 51, 3) := by decide +kernel
theorem dX11_asks_65 : decode cX11_asks 65 = .ok (.iload 7, 2) := by decide +kernel
theorem dX11_asks_67 : decode cX11_asks 67 = .ok (.baload, 1) := by decide +kernel
theorem dX11_asks_68 : decode cX11_asks 68 = .ok (.ifCond .eq 28, 3) := by decide +kernel
theorem dX11_asks_71 : decode cX11_asks 71 = .ok (.aload_n 0, 1) := by decide +kernel
theorem dX11_asks_72 : decode cX11_asks 72 = .ok (.iload 7, 2) := by decide +kernel
theorem dX11_asks_74 : decode cX11_asks 74 = .ok (.bipush 8, 2) := by decide +kernel
theorem dX11_asks_76 : decode cX11_asks 76 = .ok (.idiv, 1) := by decide +kernel
theorem dX11_asks_77 : decode cX11_asks 77 = .ok (.iload 7, 2) := by decide +kernel
theorem dX11_asks_79 : decode cX11_asks 79 = .ok (.bipush 8, 2) := by decide +kernel
theorem dX11_asks_81 : decode cX11_asks 81 = .ok (.irem, 1) := by decide +kernel
theorem dX11_asks_82 : decode cX11_asks 82 = .ok (.iload 4, 2) := by decide +kernel
theorem dX11_asks_84 : decode cX11_asks 84 = .ok (.iload 5, 2) := by decide +kernel
theorem dX11_asks_86 : decode cX11_asks 86 = .ok (.invokevirtual 384, 3) := by decide +kernel
theorem dX11_asks_89 : decode cX11_asks 89 = .ok (.ifCond .eq 7, 3) := by decide +kernel
theorem dX11_asks_92 : decode cX11_asks 92 = .ok (.iconst 1, 1) := by decide +kernel
theorem dX11_asks_93 : decode cX11_asks 93 = .ok (.goto 4, 3) := by decide +kernel
theorem dX11_asks_96 : decode cX11_asks 96 = .ok (.iconst 0, 1) := by decide +kernel
theorem dX11_asks_97 : decode cX11_asks 97 = .ok (.iadd, 1) := by decide +kernel
theorem dX11_asks_98 : decode cX11_asks 98 = .ok (.istore 6, 2) := by decide +kernel
theorem dX11_asks_100 : decode cX11_asks 100 = .ok (.iinc 7 1, 3) := by decide +kernel
theorem dX11_asks_103 : decode cX11_asks 103 = .ok (.goto (-52), 3) := by decide +kernel
theorem dX11_asks_106 : decode cX11_asks 106 = .ok (.iload 6, 2) := by decide +kernel
theorem dX11_asks_108 : decode cX11_asks 108 = .ok (.iload_n 1, 1) := by decide +kernel
theorem dX11_asks_109 : decode cX11_asks 109 = .ok (.iload 6, 2) := by decide +kernel
theorem dX11_asks_111 : decode cX11_asks 111 = .ok (.isub, 1) := by decide +kernel
theorem dX11_asks_112 : decode cX11_asks 112 = .ok (.invokestatic 239, 3) := by decide +kernel
theorem dX11_asks_115 : decode cX11_asks 115 = .ok (.iload_n 3, 1) := by decide +kernel
theorem dX11_asks_116 : decode cX11_asks 116 = .ok (.if_icmp .lt 6, 3) := by decide +kernel
theorem dX11_asks_119 : decode cX11_asks 119 = .ok (.goto 22, 3) := by decide +kernel
theorem dX11_asks_122 : decode cX11_asks 122 = .ok (.bipush 100, 2) := by decide +kernel
theorem dX11_asks_124 : decode cX11_asks 124 = .ok (.iload 4, 2) := by decide +kernel
theorem dX11_asks_126 : decode cX11_asks 126 = .ok (.imul, 1) := by decide +kernel
theorem dX11_asks_127 : decode cX11_asks 127 = .ok (.iload 5, 2) := by decide +kernel
theorem dX11_asks_129 : decode cX11_asks 129 = .ok (.iadd, 1) := by decide +kernel
theorem dX11_asks_130 : decode cX11_asks 130 = .ok (.istore_n 2, 1) := by decide +kernel
theorem dX11_asks_131 : decode cX11_asks 131 = .ok (.iload 6, 2) := by decide +kernel
theorem dX11_asks_133 : decode cX11_asks 133 = .ok (.iload_n 1, 1) := by decide +kernel
theorem dX11_asks_134 : decode cX11_asks 134 = .ok (.iload 6, 2) := by decide +kernel
theorem dX11_asks_136 : decode cX11_asks 136 = .ok (.isub, 1) := by decide +kernel
theorem dX11_asks_137 : decode cX11_asks 137 = .ok (.invokestatic 239, 3) := by decide +kernel
theorem dX11_asks_140 : decode cX11_asks 140 = .ok (.istore_n 3, 1) := by decide +kernel
theorem dX11_asks_141 : decode cX11_asks 141 = .ok (.iinc 5 1, 3) := by decide +kernel
theorem dX11_asks_144 : decode cX11_asks 144 = .ok (.goto (-109), 3) := by decide +kernel
theorem dX11_asks_147 : decode cX11_asks 147 = .ok (.iinc 4 1, 3) := by decide +kernel
theorem dX11_asks_150 : decode cX11_asks 150 = .ok (.goto (-124), 3) := by decide +kernel
theorem dX11_asks_153 : decode cX11_asks 153 = .ok (.aload_n 0, 1) := by decide +kernel
theorem dX11_asks_154 : decode cX11_asks 154 = .ok (.iconst 0, 1) := by decide +kernel
theorem dX11_asks_155 : decode cX11_asks 155 = .ok (.putfield 81, 3) := by decide +kernel
theorem dX11_asks_158 : decode cX11_asks 158 = .ok (.aload_n 0, 1) := by decide +kernel
theorem dX11_asks_159 : decode cX11_asks 159 = .ok (.iload_n 3, 1) := by decide +kernel
theorem dX11_asks_160 : decode cX11_asks 160 = .ok (.i2l, 1) := by decide +kernel
theorem dX11_asks_161 : decode cX11_asks 161 = .ok (.invokevirtual 283, 3) := by decide +kernel
theorem dX11_asks_164 : decode cX11_asks 164 = .ok (.iload_n 2, 1) := by decide +kernel
theorem dX11_asks_165 : decode cX11_asks 165 = .ok (.ireturn, 1) := by decide +kernel
def fX11_asks_J97 (k51 : AH → Nat → Int32 → Int32 → Int32 → Int32 → Int32 → Int32 → Int32 → Option (Int32 × AH)) (h : AH) (v0 : Nat) (v1 : Int32) (v2 : Int32) (v3 : Int32) (v4 : Int32) (v5 : Int32) (v7 : Int32) (s0 : Int32) (s1 : Int32) : Option (Int32 × AH) :=
    letF (s1 + s0 : Int32) fun x1 =>
    letF (v7 + 1 : Int32) fun x2 =>
    k51 h v0 v1 v2 v3 v4 v5 x1 x2
def fX11_asks_L51 (k106 : AH → Nat → Int32 → Int32 → Int32 → Int32 → Int32 → Int32 → Option (Int32 × AH)) : Nat → AH → Nat → Int32 → Int32 → Int32 → Int32 → Int32 → Int32 → Int32 → Option (Int32 × AH)
  | 0, _, _, _, _, _, _, _, _, _ => none
  | n + 1, h, v0, v1, v2, v3, v4, v5, v6, v7 =>
    if 192 ≤ v7 then (
      k106 h v0 v1 v2 v3 v4 v5 v6
    ) else (
      (gR h 11 v0 27).bind fun x3 =>
      (aZ h x3 v7).bind fun x4 =>
      if x4 = true then (
        (jdiv v7 8).bind fun x5 =>
        (jrem v7 8).bind fun x6 =>
        (fX11_isSo h v0 x5 x6 v4 v5).bind fun q7 =>
        if q7 = true then (
          fX11_asks_J97 (fX11_asks_L51 k106 n) h v0 v1 v2 v3 v4 v5 v7 1 v6
        ) else (
          fX11_asks_J97 (fX11_asks_L51 k106 n) h v0 v1 v2 v3 v4 v5 v7 0 v6
        )
      ) else (
        fX11_asks_J97 (fX11_asks_L51 k106 n) h v0 v1 v2 v3 v4 v5 v7 0 v6
      )
    )
def fX11_asks_L35 (k147 : AH → Nat → Int32 → Int32 → Int32 → Int32 → Option (Int32 × AH)) : Nat → AH → Nat → Int32 → Int32 → Int32 → Int32 → Int32 → Option (Int32 × AH)
  | 0, _, _, _, _, _, _, _ => none
  | n + 1, h, v0, v1, v2, v3, v4, v5 =>
    (fX11_highOf h v4).bind fun q8 =>
    if q8 < v5 then (
      k147 h v0 v1 v2 v3 v4
    ) else (
      fX11_asks_L51
        (fun h16 x9 x10 x11 x12 x13 x14 x15 =>
          if (jmax x15 (x10 - x15)) < x12 then (
            letF ((100 * x13) + x14 : Int32) fun x17 =>
            letF (jmax x15 (x10 - x15) : Int32) fun x18 =>
            letF (x14 + 1 : Int32) fun x19 =>
            fX11_asks_L35 k147 n h16 x9 x10 x17 x18 x13 x19
          ) else (
            letF (x14 + 1 : Int32) fun x20 =>
            fX11_asks_L35 k147 n h16 x9 x10 x11 x12 x13 x20
          ))
        FU h v0 v1 v2 v3 v4 v5 0 0
    )
def fX11_asks_L26 (k153 : AH → Nat → Int32 → Int32 → Option (Int32 × AH)) : Nat → AH → Nat → Int32 → Int32 → Int32 → Int32 → Option (Int32 × AH)
  | 0, _, _, _, _, _, _ => none
  | n + 1, h, v0, v1, v2, v3, v4 =>
    if 4 ≤ v4 then (
      k153 h v0 v2 v3
    ) else (
      fX11_asks_L35
        (fun h26 x21 x22 x23 x24 x25 =>
          letF (x25 + 1 : Int32) fun x27 =>
          fX11_asks_L26 k153 n h26 x21 x22 x23 x24 x27)
        FU h v0 v1 v2 v3 v4 0
    )
def fX11_asks (h : AH) (a0 : Nat) : Option (Int32 × AH) :=
  if hasC h 11 a0 = true then (
    (pF h 11 a0 5 (.int 0)).bind fun h28 =>
    (fX11_layFits h28 a0).bind fun q29 =>
    if q29.1 = 0 then (
      some (((-2), q29.2))
    ) else (
      fX11_asks_L26
        (fun h33 x30 x31 x32 =>
          (pF h33 11 x30 4 (.int 0)).bind fun h34 =>
          (fX11_tell h34 x30 (Int32.toInt64 x32)).bind fun q35 =>
          some ((x31, q35)))
        FU q29.2 a0 q29.1 ((-1)) 1000000 0
    )
  ) else none
set_option maxHeartbeats 4000000 in
theorem gX11_asks_J97 {Y : YT} {X : XT} (C : CT Y X RX11 cX11_asks 8) (O : RO X 8 0 0) {r : Int32 × AH} (E : RX Y X (some .int) (some (.int r.1)) r.2 0 0) {k51 : AH → Nat → Int32 → Int32 → Int32 → Int32 → Int32 → Int32 → Int32 → Option (Int32 × AH)} (hk51 : ∀ (h : AH) (v0 : Nat) (v1 : Int32) (v2 : Int32) (v3 : Int32) (v4 : Int32) (v5 : Int32) (v6 : Int32) (v7 : Int32), GO Y X 8 r h 0 0 51 [(0, .ref v0), (1, .int v1), (2, .int v2), (3, .int v3), (4, .int v4), (5, .int v5), (6, .int v6), (7, .int v7)] [] (k51 h v0 v1 v2 v3 v4 v5 v6 v7)) : ∀ (h : AH) (v0 : Nat) (v1 : Int32) (v2 : Int32) (v3 : Int32) (v4 : Int32) (v5 : Int32) (v7 : Int32) (s0 : Int32) (s1 : Int32), GO Y X 8 r h 0 0 97 [(0, .ref v0), (1, .int v1), (2, .int v2), (3, .int v3), (4, .int v4), (5, .int v5), (7, .int v7)] [.int s0, .int s1] (fX11_asks_J97 k51 h v0 v1 v2 v3 v4 v5 v7 s0 s1) := by
  intro h v0 v1 v2 v3 v4 v5 v7 s0 s1
  unfold fX11_asks_J97
  refine go_iadd (pc := 97) C dX11_asks_97 ?_
  refine go_istoreL (pc := 98) C dX11_asks_98 (by decide) (fun x1 => [(6, .int x1), (0, .ref v0), (1, .int v1), (2, .int v2), (3, .int v3), (4, .int v4), (5, .int v5), (7, .int v7)]) (fun _ => rfl) (fun x1 => ?_)
  refine go_iincL (pc := 100) C 7 dX11_asks_100 rfl ki_1 (by decide) (fun x2 => [(7, .int x2), (6, .int x1), (0, .ref v0), (1, .int v1), (2, .int v2), (3, .int v3), (4, .int v4), (5, .int v5)]) (fun _ => rfl) (fun x2 => ?_)
  refine go_goto (pc := 103) C 51 dX11_asks_103 (by decide) ?_
  refine go_sub (ls' := [(0, .ref v0), (1, .int v1), (2, .int v2), (3, .int v3), (4, .int v4), (5, .int v5), (6, .int x1), (7, .int x2)]) [2, 3, 4, 5, 6, 7, 1, 0] rfl ?_
  exact hk51 h v0 v1 v2 v3 v4 v5 x1 x2
set_option maxHeartbeats 4000000 in
theorem gX11_asks_L51 {Y : YT} {X : XT} (C : CT Y X RX11 cX11_asks 8) (O : RO X 8 0 0) {r : Int32 × AH} (E : RX Y X (some .int) (some (.int r.1)) r.2 0 0) {k106 : AH → Nat → Int32 → Int32 → Int32 → Int32 → Int32 → Int32 → Option (Int32 × AH)} (hk106 : ∀ (h : AH) (v0 : Nat) (v1 : Int32) (v2 : Int32) (v3 : Int32) (v4 : Int32) (v5 : Int32) (v6 : Int32), GO Y X 8 r h 0 0 106 [(0, .ref v0), (1, .int v1), (2, .int v2), (3, .int v3), (4, .int v4), (5, .int v5), (6, .int v6)] [] (k106 h v0 v1 v2 v3 v4 v5 v6)) : ∀ (n : Nat) (h : AH) (v0 : Nat) (v1 : Int32) (v2 : Int32) (v3 : Int32) (v4 : Int32) (v5 : Int32) (v6 : Int32) (v7 : Int32), GO Y X 8 r h 0 0 51 [(0, .ref v0), (1, .int v1), (2, .int v2), (3, .int v3), (4, .int v4), (5, .int v5), (6, .int v6), (7, .int v7)] [] (fX11_asks_L51 k106 n h v0 v1 v2 v3 v4 v5 v6 v7) := by
  intro n
  induction n with
  | zero => intros; exact go_none _ _ _
  | succ n ih =>
    intro h v0 v1 v2 v3 v4 v5 v6 v7
    rw [fX11_asks_L51]
    refine go_iload (pc := 51) C 7 dX11_asks_51 rfl ?_
    refine go_sipush (pc := 53) C dX11_asks_53 ks_192 ?_
    refine go_icmp_ge (pc := 56) C 106 dX11_asks_56 (by decide) (fun _ => ?_) (fun _ => ?_)
    · refine go_sub (ls' := [(0, .ref v0), (1, .int v1), (2, .int v2), (3, .int v3), (4, .int v4), (5, .int v5), (6, .int v6)]) [0, 1, 2, 3, 4, 5, 6] rfl ?_
      exact hk106 h v0 v1 v2 v3 v4 v5 v6
    · refine go_iload (pc := 59) C 6 dX11_asks_59 rfl ?_
      refine go_aload_n (pc := 61) C 0 dX11_asks_61 rfl ?_
      refine go_gR (pc := 62) C fdX11_51 dX11_asks_62 (fun x3 => ?_)
      refine go_iload (pc := 65) C 7 dX11_asks_65 rfl ?_
      refine go_zald (pc := 67) C dX11_asks_67 (fun x4 => ?_)
      refine go_ifZ_eq (pc := 68) C 96 dX11_asks_68 (by decide) (fun _ => ?_) (fun _ => ?_)
      · refine go_aload_n (pc := 71) C 0 dX11_asks_71 rfl ?_
        refine go_iload (pc := 72) C 7 dX11_asks_72 rfl ?_
        refine go_bipush (pc := 74) C dX11_asks_74 kb_8 ?_
        refine go_idiv (pc := 76) C dX11_asks_76 (fun x5 => ?_)
        refine go_iload (pc := 77) C 7 dX11_asks_77 rfl ?_
        refine go_bipush (pc := 79) C dX11_asks_79 kb_8 ?_
        refine go_irem (pc := 81) C dX11_asks_81 (fun x6 => ?_)
        refine go_iload (pc := 82) C 4 dX11_asks_82 rfl ?_
        refine go_iload (pc := 84) C 5 dX11_asks_84 rfl ?_
        refine go_bind (fun q7 hq7 => ?_)
        refine go_callV (rest := [.int v6]) (st' := [.int (b2i q7), .int v6]) (c' := 0) (s' := 0) (pc := 86) C O miX11_384 mvX11_isSo [.int x5, .int x6, .int v4, .int v5] rfl (mX11_isSo hq7).1 (mX11_isSo hq7).2 dX11_asks_86 ⟨by decide, by decide, by decide, by decide⟩ rfl (Nat.le_of_ble_eq_true rfl) rfl ⟨rfl, rfl⟩ ?_
        refine go_ifZ_eq (pc := 89) C 96 dX11_asks_89 (by decide) (fun _ => ?_) (fun _ => ?_)
        · refine go_iconst (pc := 92) C dX11_asks_92 ki_1 ?_
          refine go_goto (pc := 93) C 97 dX11_asks_93 (by decide) ?_
          refine go_sub (ls' := [(0, .ref v0), (1, .int v1), (2, .int v2), (3, .int v3), (4, .int v4), (5, .int v5), (7, .int v7)]) [0, 1, 2, 3, 4, 5, 7] rfl ?_
          refine gX11_asks_J97 C O E (ih) h v0 v1 v2 v3 v4 v5 v7 1 v6
        · refine go_iconst (pc := 96) C dX11_asks_96 ki_0 ?_
          refine go_sub (ls' := [(0, .ref v0), (1, .int v1), (2, .int v2), (3, .int v3), (4, .int v4), (5, .int v5), (7, .int v7)]) [0, 1, 2, 3, 4, 5, 7] rfl ?_
          refine gX11_asks_J97 C O E (ih) h v0 v1 v2 v3 v4 v5 v7 0 v6
      · refine go_iconst (pc := 96) C dX11_asks_96 ki_0 ?_
        refine go_sub (ls' := [(0, .ref v0), (1, .int v1), (2, .int v2), (3, .int v3), (4, .int v4), (5, .int v5), (7, .int v7)]) [0, 1, 2, 3, 4, 5, 7] rfl ?_
        refine gX11_asks_J97 C O E (ih) h v0 v1 v2 v3 v4 v5 v7 0 v6
set_option maxHeartbeats 4000000 in
theorem gX11_asks_L35 {Y : YT} {X : XT} (C : CT Y X RX11 cX11_asks 8) (O : RO X 8 0 0) {r : Int32 × AH} (E : RX Y X (some .int) (some (.int r.1)) r.2 0 0) {k147 : AH → Nat → Int32 → Int32 → Int32 → Int32 → Option (Int32 × AH)} (hk147 : ∀ (h : AH) (v0 : Nat) (v1 : Int32) (v2 : Int32) (v3 : Int32) (v4 : Int32), GO Y X 8 r h 0 0 147 [(0, .ref v0), (1, .int v1), (2, .int v2), (3, .int v3), (4, .int v4)] [] (k147 h v0 v1 v2 v3 v4)) : ∀ (n : Nat) (h : AH) (v0 : Nat) (v1 : Int32) (v2 : Int32) (v3 : Int32) (v4 : Int32) (v5 : Int32), GO Y X 8 r h 0 0 35 [(0, .ref v0), (1, .int v1), (2, .int v2), (3, .int v3), (4, .int v4), (5, .int v5)] [] (fX11_asks_L35 k147 n h v0 v1 v2 v3 v4 v5) := by
  intro n
  induction n with
  | zero => intros; exact go_none _ _ _
  | succ n ih =>
    intro h v0 v1 v2 v3 v4 v5
    rw [fX11_asks_L35]
    refine go_iload (pc := 35) C 5 dX11_asks_35 rfl ?_
    refine go_iload (pc := 37) C 4 dX11_asks_37 rfl ?_
    refine go_bind (fun q8 hq8 => ?_)
    refine go_callS (rest := [.int v5]) (st' := [.int q8, .int v5]) (c' := 0) (s' := 0) (pc := 39) C O miX11_378 w_1810 [.int v4] rfl (mX11_highOf hq8) dX11_asks_39 ⟨by decide, by decide, by decide, by decide⟩ rfl (Nat.le_of_ble_eq_true rfl) rfl ⟨rfl, rfl⟩ ?_
    refine go_icmp_gt (pc := 42) C 147 dX11_asks_42 (by decide) (fun _ => ?_) (fun _ => ?_)
    · refine go_sub (ls' := [(0, .ref v0), (1, .int v1), (2, .int v2), (3, .int v3), (4, .int v4)]) [0, 1, 2, 3, 4] rfl ?_
      exact hk147 h v0 v1 v2 v3 v4
    · refine go_iconst (pc := 45) C dX11_asks_45 ki_0 ?_
      refine go_istore (ls' := [(6, .int 0), (0, .ref v0), (1, .int v1), (2, .int v2), (3, .int v3), (4, .int v4), (5, .int v5)]) (pc := 46) C dX11_asks_46 (by decide) rfl ?_
      refine go_iconst (pc := 48) C dX11_asks_48 ki_0 ?_
      refine go_istore (ls' := [(7, .int 0), (6, .int 0), (0, .ref v0), (1, .int v1), (2, .int v2), (3, .int v3), (4, .int v4), (5, .int v5)]) (pc := 49) C dX11_asks_49 (by decide) rfl ?_
      refine go_sub (ls' := [(0, .ref v0), (1, .int v1), (2, .int v2), (3, .int v3), (4, .int v4), (5, .int v5), (6, .int 0), (7, .int 0)]) [2, 3, 4, 5, 6, 7, 1, 0] rfl ?_
      refine gX11_asks_L51 C O E (fun h16 x9 x10 x11 x12 x13 x14 x15 => ?_) FU h v0 v1 v2 v3 v4 v5 0 0
      · refine go_iload (pc := 106) C 6 dX11_asks_106 rfl ?_
        refine go_iload_n (pc := 108) C 1 dX11_asks_108 rfl ?_
        refine go_iload (pc := 109) C 6 dX11_asks_109 rfl ?_
        refine go_isub (pc := 111) C dX11_asks_111 ?_
        refine go_mmax (pc := 112) C O w_1565 w_524 w_102 w_525 ⟨by decide, by decide, by decide⟩ (Nat.le_of_ble_eq_true rfl) dX11_asks_112 ?_
        refine go_iload_n (pc := 115) C 3 dX11_asks_115 rfl ?_
        refine go_icmp_lt (pc := 116) C 122 dX11_asks_116 (by decide) (fun _ => ?_) (fun _ => ?_)
        · refine go_bipush (pc := 122) C dX11_asks_122 kb_100 ?_
          refine go_iload (pc := 124) C 4 dX11_asks_124 rfl ?_
          refine go_imul (pc := 126) C dX11_asks_126 ?_
          refine go_iload (pc := 127) C 5 dX11_asks_127 rfl ?_
          refine go_iadd (pc := 129) C dX11_asks_129 ?_
          refine go_istore_nL (pc := 130) C dX11_asks_130 (by decide) (fun x17 => [(2, .int x17), (0, .ref x9), (1, .int x10), (3, .int x12), (4, .int x13), (5, .int x14), (6, .int x15)]) (fun _ => rfl) (fun x17 => ?_)
          refine go_iload (pc := 131) C 6 dX11_asks_131 rfl ?_
          refine go_iload_n (pc := 133) C 2 dX11_asks_133 rfl ?_
          refine go_iload (pc := 134) C 6 dX11_asks_134 rfl ?_
          refine go_isub (pc := 136) C dX11_asks_136 ?_
          refine go_mmax (pc := 137) C O w_1565 w_524 w_102 w_525 ⟨by decide, by decide, by decide⟩ (Nat.le_of_ble_eq_true rfl) dX11_asks_137 ?_
          refine go_istore_nL (pc := 140) C dX11_asks_140 (by decide) (fun x18 => [(3, .int x18), (2, .int x17), (0, .ref x9), (1, .int x10), (4, .int x13), (5, .int x14), (6, .int x15)]) (fun _ => rfl) (fun x18 => ?_)
          refine go_iincL (pc := 141) C 5 dX11_asks_141 rfl ki_1 (by decide) (fun x19 => [(5, .int x19), (3, .int x18), (2, .int x17), (0, .ref x9), (1, .int x10), (4, .int x13), (6, .int x15)]) (fun _ => rfl) (fun x19 => ?_)
          refine go_goto (pc := 144) C 35 dX11_asks_144 (by decide) ?_
          refine go_sub (ls' := [(0, .ref x9), (1, .int x10), (2, .int x17), (3, .int x18), (4, .int x13), (5, .int x19)]) [3, 4, 2, 1, 5, 0] rfl ?_
          exact ih h16 x9 x10 x17 x18 x13 x19
        · refine go_goto (pc := 119) C 141 dX11_asks_119 (by decide) ?_
          refine go_iincL (pc := 141) C 5 dX11_asks_141 rfl ki_1 (by decide) (fun x20 => [(5, .int x20), (0, .ref x9), (1, .int x10), (2, .int x11), (3, .int x12), (4, .int x13), (6, .int x15)]) (fun _ => rfl) (fun x20 => ?_)
          refine go_goto (pc := 144) C 35 dX11_asks_144 (by decide) ?_
          refine go_sub (ls' := [(0, .ref x9), (1, .int x10), (2, .int x11), (3, .int x12), (4, .int x13), (5, .int x20)]) [1, 2, 3, 4, 5, 0] rfl ?_
          exact ih h16 x9 x10 x11 x12 x13 x20
set_option maxHeartbeats 4000000 in
theorem gX11_asks_L26 {Y : YT} {X : XT} (C : CT Y X RX11 cX11_asks 8) (O : RO X 8 0 0) {r : Int32 × AH} (E : RX Y X (some .int) (some (.int r.1)) r.2 0 0) {k153 : AH → Nat → Int32 → Int32 → Option (Int32 × AH)} (hk153 : ∀ (h : AH) (v0 : Nat) (v2 : Int32) (v3 : Int32), GO Y X 8 r h 0 0 153 [(0, .ref v0), (2, .int v2), (3, .int v3)] [] (k153 h v0 v2 v3)) : ∀ (n : Nat) (h : AH) (v0 : Nat) (v1 : Int32) (v2 : Int32) (v3 : Int32) (v4 : Int32), GO Y X 8 r h 0 0 26 [(0, .ref v0), (1, .int v1), (2, .int v2), (3, .int v3), (4, .int v4)] [] (fX11_asks_L26 k153 n h v0 v1 v2 v3 v4) := by
  intro n
  induction n with
  | zero => intros; exact go_none _ _ _
  | succ n ih =>
    intro h v0 v1 v2 v3 v4
    rw [fX11_asks_L26]
    refine go_iload (pc := 26) C 4 dX11_asks_26 rfl ?_
    refine go_iconst (pc := 28) C dX11_asks_28 ki_4 ?_
    refine go_icmp_ge (pc := 29) C 153 dX11_asks_29 (by decide) (fun _ => ?_) (fun _ => ?_)
    · refine go_sub (ls' := [(0, .ref v0), (2, .int v2), (3, .int v3)]) [0, 2, 3] rfl ?_
      exact hk153 h v0 v2 v3
    · refine go_iconst (pc := 32) C dX11_asks_32 ki_0 ?_
      refine go_istore (ls' := [(5, .int 0), (0, .ref v0), (1, .int v1), (2, .int v2), (3, .int v3), (4, .int v4)]) (pc := 33) C dX11_asks_33 (by decide) rfl ?_
      refine go_sub (ls' := [(0, .ref v0), (1, .int v1), (2, .int v2), (3, .int v3), (4, .int v4), (5, .int 0)]) [1, 2, 3, 4, 5, 0] rfl ?_
      refine gX11_asks_L35 C O E (fun h26 x21 x22 x23 x24 x25 => ?_) FU h v0 v1 v2 v3 v4 0
      · refine go_iincL (pc := 147) C 4 dX11_asks_147 rfl ki_1 (by decide) (fun x27 => [(4, .int x27), (0, .ref x21), (1, .int x22), (2, .int x23), (3, .int x24)]) (fun _ => rfl) (fun x27 => ?_)
        refine go_goto (pc := 150) C 26 dX11_asks_150 (by decide) ?_
        refine go_sub (ls' := [(0, .ref x21), (1, .int x22), (2, .int x23), (3, .int x24), (4, .int x27)]) [1, 2, 3, 4, 0] rfl ?_
        exact ih h26 x21 x22 x23 x24 x27
set_option maxHeartbeats 4000000 in
theorem mX11_asks {h : AH} {a0 : Nat} {r : Int32 × AH} (hr : fX11_asks h a0 = some r) : hasC h 11 a0 = true ∧ MC yX11_asks cX11_asks 8 (some .int) 8 0 0 [.ref a0] h (some (.int r.1)) r.2 := by
  unfold fX11_asks at hr
  obtain ⟨hc, hr⟩ := if_some hr
  refine ⟨hc, mc_of (l0 := [(0, .ref a0)]) rfl pn_X11 (Nat.le_of_ble_eq_true rfl) (fun Y X C E O hnm => go_run hr ?_)⟩
  have C : CT Y X RX11 cX11_asks 8 := C
  refine go_aload_n (pc := 0) C 0 dX11_asks_0 rfl ?_
  refine go_iconst (pc := 1) C dX11_asks_1 ki_0 ?_
  refine go_pI (pc := 2) C fpX11_77 dX11_asks_2 (fun h28 => ?_)
  refine go_aload_n (pc := 5) C 0 dX11_asks_5 rfl ?_
  refine go_bind (fun q29 hq29 => ?_)
  refine go_callV (rest := []) (st' := [.int q29.1]) (c' := 0) (s' := 0) (pc := 6) C O miX11_391 mvX11_layFits [] rfl (mX11_layFits hq29).1 (mX11_layFits hq29).2 dX11_asks_6 ⟨by decide, by decide, by decide, by decide⟩ rfl (Nat.le_of_ble_eq_true rfl) rfl ⟨rfl, rfl⟩ ?_
  refine go_istore_n (ls' := [(1, .int q29.1), (0, .ref a0)]) (pc := 9) C dX11_asks_9 (by decide) rfl ?_
  refine go_iload_n (pc := 10) C 0 dX11_asks_10 rfl ?_
  refine go_if_ne (pc := 11) C 17 dX11_asks_11 (by decide) (fun _ => ?_) (fun _ => ?_)
  · refine go_bipush (pc := 14) C dX11_asks_14 kb_m2 ?_
    exact go_iret (w := wIh) (pc := 16) C E (((-2), q29.2)) ((-2)) dX11_asks_16 rfl
  · refine go_iconst (pc := 17) C dX11_asks_17 ki_m1 ?_
    refine go_istore_n (ls' := [(2, .int ((-1))), (1, .int q29.1), (0, .ref a0)]) (pc := 18) C dX11_asks_18 (by decide) rfl ?_
    refine go_ldcw (pc := 19) C w_1836 dX11_asks_19 ?_
    refine go_istore_n (ls' := [(3, .int 1000000), (2, .int ((-1))), (1, .int q29.1), (0, .ref a0)]) (pc := 22) C dX11_asks_22 (by decide) rfl ?_
    refine go_iconst (pc := 23) C dX11_asks_23 ki_0 ?_
    refine go_istore (ls' := [(4, .int 0), (3, .int 1000000), (2, .int ((-1))), (1, .int q29.1), (0, .ref a0)]) (pc := 24) C dX11_asks_24 (by decide) rfl ?_
    refine go_sub (ls' := [(0, .ref a0), (1, .int q29.1), (2, .int ((-1))), (3, .int 1000000), (4, .int 0)]) [4, 3, 2, 1, 0] rfl ?_
    refine gX11_asks_L26 C O E (fun h33 x30 x31 x32 => ?_) FU q29.2 a0 q29.1 ((-1)) 1000000 0
    · refine go_aload_n (pc := 153) C 0 dX11_asks_153 rfl ?_
      refine go_iconst (pc := 154) C dX11_asks_154 ki_0 ?_
      refine go_pI (pc := 155) C fpX11_81 dX11_asks_155 (fun h34 => ?_)
      refine go_aload_n (pc := 158) C 0 dX11_asks_158 rfl ?_
      refine go_iload_n (pc := 159) C 2 dX11_asks_159 rfl ?_
      refine go_i2l (pc := 160) C dX11_asks_160 ?_
      refine go_bind (fun q35 hq35 => ?_)
      refine go_callV (rest := []) (st' := []) (c' := 0) (s' := 0) (pc := 161) C O miX11_283 mvX11_tell [.long (Int32.toInt64 x32)] rfl (mX11_tell hq35).1 (mX11_tell hq35).2 dX11_asks_161 ⟨by decide, by decide, by decide, by decide⟩ rfl (Nat.le_of_ble_eq_true rfl) rfl ⟨rfl, rfl⟩ ?_
      refine go_iload_n (pc := 164) C 1 dX11_asks_164 rfl ?_
      exact go_iret (w := wIh) (pc := 165) C E ((x31, q35)) x31 dX11_asks_165 rfl
theorem dX11_saw_0 : decode cX11_saw 0 = .ok (.aload_n 0, 1) := by decide +kernel
theorem dX11_saw_1 : decode cX11_saw 1 = .ok (.iconst 0, 1) := by decide +kernel
theorem dX11_saw_2 : decode cX11_saw 2 = .ok (.putfield 77, 3) := by decide +kernel
theorem dX11_saw_5 : decode cX11_saw 5 = .ok (.iload_n 1, 1) := by decide +kernel
theorem dX11_saw_6 : decode cX11_saw 6 = .ok (.iconst 0, 1) := by decide +kernel
theorem dX11_saw_7 : decode cX11_saw 7 = .ok (.bipush 9, 2) := by decide +kernel
theorem dX11_saw_9 : decode cX11_saw 9 = .ok (.invokestatic 84, 3) := by decide +kernel
theorem dX11_saw_12 : decode cX11_saw 12 = .ok (.ifCond .eq 31, 3) := by decide +kernel
theorem dX11_saw_15 : decode cX11_saw 15 = .ok (.iload_n 2, 1) := by decide +kernel
theorem dX11_saw_16 : decode cX11_saw 16 = .ok (.iconst 0, 1) := by decide +kernel
theorem dX11_saw_17 : decode cX11_saw 17 = .ok (.bipush 8, 2) := by decide +kernel
theorem dX11_saw_19 : decode cX11_saw 19 = .ok (.invokestatic 84, 3) := by decide +kernel
theorem dX11_saw_22 : decode cX11_saw 22 = .ok (.ifCond .eq 21, 3) := by decide +kernel
theorem dX11_saw_25 : decode cX11_saw 25 = .ok (.iload_n 3, 1) := by decide +kernel
theorem dX11_saw_26 : decode cX11_saw 26 = .ok (.iconst 0, 1) := by decide +kernel
theorem dX11_saw_27 : decode cX11_saw 27 = .ok (.iconst 1, 1) := by decide +kernel
theorem dX11_saw_28 : decode cX11_saw 28 = .ok (.invokestatic 84, 3) := by decide +kernel
theorem dX11_saw_31 : decode cX11_saw 31 = .ok (.ifCond .eq 12, 3) := by decide +kernel
theorem dX11_saw_34 : decode cX11_saw 34 = .ok (.aload_n 0, 1) := by decide +kernel
theorem dX11_saw_35 : decode cX11_saw 35 = .ok (.getfield 395, 3) := by decide +kernel
theorem dX11_saw_38 : decode cX11_saw 38 = .ok (.bipush 10, 2) := by decide +kernel
theorem dX11_saw_40 : decode cX11_saw 40 = .ok (.if_icmp .ne 5, 3) := by decide +kernel
theorem dX11_saw_43 : decode cX11_saw 43 = .ok (.iconst (-1), 1) := by decide +kernel
theorem dX11_saw_44 : decode cX11_saw 44 = .ok (.ireturn, 1) := by decide +kernel
theorem dX11_saw_45 : decode cX11_saw 45 = .ok (.aload_n 0, 1) := by decide +kernel
theorem dX11_saw_46 : decode cX11_saw 46 = .ok (.getfield 55, 3) := by decide +kernel
theorem dX11_saw_49 : decode cX11_saw 49 = .ok (.aload_n 0, 1) := by decide +kernel
theorem dX11_saw_50 : decode cX11_saw 50 = .ok (.getfield 395, 3) := by decide +kernel
theorem dX11_saw_53 : decode cX11_saw 53 = .ok (.iload_n 1, 1) := by decide +kernel
theorem dX11_saw_54 : decode cX11_saw 54 = .ok (.iastore, 1) := by decide +kernel
theorem dX11_saw_55 : decode cX11_saw 55 = .ok (.aload_n 0, 1) := by decide +kernel
theorem dX11_saw_56 : decode cX11_saw 56 = .ok (.getfield 58, 3) := by decide +kernel
theorem dX11_saw_59 : decode cX11_saw 59 = .ok (.aload_n 0, 1) := by decide +kernel
theorem dX11_saw_60 : decode cX11_saw 60 = .ok (.getfield 395, 3) := by decide +kernel
theorem dX11_saw_63 : decode cX11_saw 63 = .ok (.iload_n 2, 1) := by decide +kernel
theorem dX11_saw_64 : decode cX11_saw 64 = .ok (.iastore, 1) := by decide +kernel
theorem dX11_saw_65 : decode cX11_saw 65 = .ok (.aload_n 0, 1) := by decide +kernel
theorem dX11_saw_66 : decode cX11_saw 66 = .ok (.getfield 61, 3) := by decide +kernel
theorem dX11_saw_69 : decode cX11_saw 69 = .ok (.aload_n 0, 1) := by decide +kernel
theorem dX11_saw_70 : decode cX11_saw 70 = .ok (.getfield 395, 3) := by decide +kernel
theorem dX11_saw_73 : decode cX11_saw 73 = .ok (.iload_n 3, 1) := by decide +kernel
theorem dX11_saw_74 : decode cX11_saw 74 = .ok (.iastore, 1) := by decide +kernel
theorem dX11_saw_75 : decode cX11_saw 75 = .ok (.aload_n 0, 1) := by decide +kernel
theorem dX11_saw_76 : decode cX11_saw 76 = .ok (.dup, 1) := by decide +kernel
theorem dX11_saw_77 : decode cX11_saw 77 = .ok (.getfield 395, 3) := by decide +kernel
theorem dX11_saw_80 : decode cX11_saw 80 = .ok (.iconst 1, 1) := by decide +kernel
theorem dX11_saw_81 : decode cX11_saw 81 = .ok (.iadd, 1) := by decide +kernel
theorem dX11_saw_82 : decode cX11_saw 82 = .ok (.putfield 395, 3) := by decide +kernel
theorem dX11_saw_85 : decode cX11_saw 85 = .ok (.aload_n 0, 1) := by decide +kernel
theorem dX11_saw_86 : decode cX11_saw 86 = .ok (.getfield 395, 3) := by decide +kernel
theorem dX11_saw_89 : decode cX11_saw 89 = .ok (.ireturn, 1) := by decide +kernel
def fX11_saw (h : AH) (a0 : Nat) (a1 : Int32) (a2 : Int32) (a3 : Int32) : Option (Int32 × AH) :=
  if hasC h 11 a0 = true then (
    (pF h 11 a0 5 (.int 0)).bind fun h1 =>
    (fX11_in h1 a1 0 9).bind fun q2 =>
    if q2 = true then (
      (fX11_in h1 a2 0 8).bind fun q3 =>
      if q3 = true then (
        (fX11_in h1 a3 0 1).bind fun q4 =>
        if q4 = true then (
          (gI h1 11 a0 31).bind fun x5 =>
          if x5 = 10 then (
            some (((-1), h1))
          ) else (
            (gR h1 11 a0 28).bind fun x6 =>
            (gI h1 11 a0 31).bind fun x7 =>
            (sI h1 0 x6 x7 a1).bind fun h8 =>
            (gR h8 11 a0 29).bind fun x9 =>
            (gI h8 11 a0 31).bind fun x10 =>
            (sI h8 0 x9 x10 a2).bind fun h11 =>
            (gR h11 11 a0 30).bind fun x12 =>
            (gI h11 11 a0 31).bind fun x13 =>
            (sI h11 0 x12 x13 a3).bind fun h14 =>
            (gI h14 11 a0 31).bind fun x15 =>
            (pF h14 11 a0 31 (.int (x15 + 1))).bind fun h16 =>
            (gI h16 11 a0 31).bind fun x17 =>
            some ((x17, h16))
          )
        ) else (
          some (((-1), h1))
        )
      ) else (
        some (((-1), h1))
      )
    ) else (
      some (((-1), h1))
    )
  ) else none
set_option maxHeartbeats 4000000 in
theorem mX11_saw {h : AH} {a0 : Nat} {a1 : Int32} {a2 : Int32} {a3 : Int32} {r : Int32 × AH} (hr : fX11_saw h a0 a1 a2 a3 = some r) : hasC h 11 a0 = true ∧ MC yX11_saw cX11_saw 4 (some .int) 2 0 0 [.ref a0, .int a1, .int a2, .int a3] h (some (.int r.1)) r.2 := by
  unfold fX11_saw at hr
  obtain ⟨hc, hr⟩ := if_some hr
  refine ⟨hc, mc_of (l0 := [(0, .ref a0), (1, .int a1), (2, .int a2), (3, .int a3)]) rfl pn_X11 (Nat.le_of_ble_eq_true rfl) (fun Y X C E O hnm => go_run hr ?_)⟩
  have C : CT Y X RX11 cX11_saw 4 := C
  refine go_aload_n (pc := 0) C 0 dX11_saw_0 rfl ?_
  refine go_iconst (pc := 1) C dX11_saw_1 ki_0 ?_
  refine go_pI (pc := 2) C fpX11_77 dX11_saw_2 (fun h1 => ?_)
  refine go_iload_n (pc := 5) C 1 dX11_saw_5 rfl ?_
  refine go_iconst (pc := 6) C dX11_saw_6 ki_0 ?_
  refine go_bipush (pc := 7) C dX11_saw_7 kb_9 ?_
  refine go_bind (fun q2 hq2 => ?_)
  refine go_callS (rest := []) (st' := [.int (b2i q2)]) (c' := 0) (s' := 0) (pc := 9) C O miX11_84 w_1437 [.int a1, .int 0, .int 9] rfl (mX11_in hq2) dX11_saw_9 ⟨by decide, by decide, by decide, by decide⟩ rfl (Nat.le_of_ble_eq_true rfl) rfl ⟨rfl, rfl⟩ ?_
  refine go_ifZ_eq (pc := 12) C 43 dX11_saw_12 (by decide) (fun _ => ?_) (fun _ => ?_)
  · refine go_iload_n (pc := 15) C 2 dX11_saw_15 rfl ?_
    refine go_iconst (pc := 16) C dX11_saw_16 ki_0 ?_
    refine go_bipush (pc := 17) C dX11_saw_17 kb_8 ?_
    refine go_bind (fun q3 hq3 => ?_)
    refine go_callS (rest := []) (st' := [.int (b2i q3)]) (c' := 0) (s' := 0) (pc := 19) C O miX11_84 w_1437 [.int a2, .int 0, .int 8] rfl (mX11_in hq3) dX11_saw_19 ⟨by decide, by decide, by decide, by decide⟩ rfl (Nat.le_of_ble_eq_true rfl) rfl ⟨rfl, rfl⟩ ?_
    refine go_ifZ_eq (pc := 22) C 43 dX11_saw_22 (by decide) (fun _ => ?_) (fun _ => ?_)
    · refine go_iload_n (pc := 25) C 3 dX11_saw_25 rfl ?_
      refine go_iconst (pc := 26) C dX11_saw_26 ki_0 ?_
      refine go_iconst (pc := 27) C dX11_saw_27 ki_1 ?_
      refine go_bind (fun q4 hq4 => ?_)
      refine go_callS (rest := []) (st' := [.int (b2i q4)]) (c' := 0) (s' := 0) (pc := 28) C O miX11_84 w_1437 [.int a3, .int 0, .int 1] rfl (mX11_in hq4) dX11_saw_28 ⟨by decide, by decide, by decide, by decide⟩ rfl (Nat.le_of_ble_eq_true rfl) rfl ⟨rfl, rfl⟩ ?_
      refine go_ifZ_eq (pc := 31) C 43 dX11_saw_31 (by decide) (fun _ => ?_) (fun _ => ?_)
      · refine go_aload_n (pc := 34) C 0 dX11_saw_34 rfl ?_
        refine go_gI (pc := 35) C fdX11_395 dX11_saw_35 (fun x5 => ?_)
        refine go_bipush (pc := 38) C dX11_saw_38 kb_10 ?_
        refine go_icmp_ne (pc := 40) C 45 dX11_saw_40 (by decide) (fun _ => ?_) (fun _ => ?_)
        · refine go_iconst (pc := 43) C dX11_saw_43 ki_m1 ?_
          exact go_iret (w := wIh) (pc := 44) C E (((-1), h1)) ((-1)) dX11_saw_44 rfl
        · refine go_aload_n (pc := 45) C 0 dX11_saw_45 rfl ?_
          refine go_gR (pc := 46) C fdX11_55 dX11_saw_46 (fun x6 => ?_)
          refine go_aload_n (pc := 49) C 0 dX11_saw_49 rfl ?_
          refine go_gI (pc := 50) C fdX11_395 dX11_saw_50 (fun x7 => ?_)
          refine go_iload_n (pc := 53) C 1 dX11_saw_53 rfl ?_
          refine go_iast (pc := 54) C dX11_saw_54 (fun h8 => ?_)
          refine go_aload_n (pc := 55) C 0 dX11_saw_55 rfl ?_
          refine go_gR (pc := 56) C fdX11_58 dX11_saw_56 (fun x9 => ?_)
          refine go_aload_n (pc := 59) C 0 dX11_saw_59 rfl ?_
          refine go_gI (pc := 60) C fdX11_395 dX11_saw_60 (fun x10 => ?_)
          refine go_iload_n (pc := 63) C 2 dX11_saw_63 rfl ?_
          refine go_iast (pc := 64) C dX11_saw_64 (fun h11 => ?_)
          refine go_aload_n (pc := 65) C 0 dX11_saw_65 rfl ?_
          refine go_gR (pc := 66) C fdX11_61 dX11_saw_66 (fun x12 => ?_)
          refine go_aload_n (pc := 69) C 0 dX11_saw_69 rfl ?_
          refine go_gI (pc := 70) C fdX11_395 dX11_saw_70 (fun x13 => ?_)
          refine go_iload_n (pc := 73) C 3 dX11_saw_73 rfl ?_
          refine go_iast (pc := 74) C dX11_saw_74 (fun h14 => ?_)
          refine go_aload_n (pc := 75) C 0 dX11_saw_75 rfl ?_
          refine go_dup (pc := 76) C dX11_saw_76 rfl ?_
          refine go_gI (pc := 77) C fdX11_395 dX11_saw_77 (fun x15 => ?_)
          refine go_iconst (pc := 80) C dX11_saw_80 ki_1 ?_
          refine go_iadd (pc := 81) C dX11_saw_81 ?_
          refine go_pI (pc := 82) C fpX11_395 dX11_saw_82 (fun h16 => ?_)
          refine go_aload_n (pc := 85) C 0 dX11_saw_85 rfl ?_
          refine go_gI (pc := 86) C fdX11_395 dX11_saw_86 (fun x17 => ?_)
          exact go_iret (w := wIh) (pc := 89) C E ((x17, h16)) x17 dX11_saw_89 rfl
      · refine go_iconst (pc := 43) C dX11_saw_43 ki_m1 ?_
        exact go_iret (w := wIh) (pc := 44) C E (((-1), h1)) ((-1)) dX11_saw_44 rfl
    · refine go_iconst (pc := 43) C dX11_saw_43 ki_m1 ?_
      exact go_iret (w := wIh) (pc := 44) C E (((-1), h1)) ((-1)) dX11_saw_44 rfl
  · refine go_iconst (pc := 43) C dX11_saw_43 ki_m1 ?_
    exact go_iret (w := wIh) (pc := 44) C E (((-1), h1)) ((-1)) dX11_saw_44 rfl
theorem dX11_denies_0 : decode cX11_denies 0 = .ok (.aload_n 0, 1) := by decide +kernel
theorem dX11_denies_1 : decode cX11_denies 1 = .ok (.iconst 0, 1) := by decide +kernel
theorem dX11_denies_2 : decode cX11_denies 2 = .ok (.putfield 77, 3) := by decide +kernel
theorem dX11_denies_5 : decode cX11_denies 5 = .ok (.aload_n 0, 1) := by decide +kernel
theorem dX11_denies_6 : decode cX11_denies 6 = .ok (.getfield 395, 3) := by decide +kernel
theorem dX11_denies_9 : decode cX11_denies 9 = .ok (.istore_n 1, 1) := by decide +kernel
theorem dX11_denies_10 : decode cX11_denies 10 = .ok (.aload_n 0, 1) := by decide +kernel
theorem dX11_denies_11 : decode cX11_denies 11 = .ok (.iconst 0, 1) := by decide +kernel
theorem dX11_denies_12 : decode cX11_denies 12 = .ok (.putfield 395, 3) := by decide +kernel
theorem dX11_denies_15 : decode cX11_denies 15 = .ok (.iload_n 1, 1) := by decide +kernel
theorem dX11_denies_16 : decode cX11_denies 16 = .ok (.ireturn, 1) := by decide +kernel
def fX11_denies (h : AH) (a0 : Nat) : Option (Int32 × AH) :=
  if hasC h 11 a0 = true then (
    (pF h 11 a0 5 (.int 0)).bind fun h1 =>
    (gI h1 11 a0 31).bind fun x2 =>
    (pF h1 11 a0 31 (.int 0)).bind fun h3 =>
    some ((x2, h3))
  ) else none
set_option maxHeartbeats 4000000 in
theorem mX11_denies {h : AH} {a0 : Nat} {r : Int32 × AH} (hr : fX11_denies h a0 = some r) : hasC h 11 a0 = true ∧ MC yX11_denies cX11_denies 2 (some .int) 1 0 0 [.ref a0] h (some (.int r.1)) r.2 := by
  unfold fX11_denies at hr
  obtain ⟨hc, hr⟩ := if_some hr
  refine ⟨hc, mc_of (l0 := [(0, .ref a0)]) rfl pn_X11 (Nat.le_of_ble_eq_true rfl) (fun Y X C E O hnm => go_run hr ?_)⟩
  have C : CT Y X RX11 cX11_denies 2 := C
  refine go_aload_n (pc := 0) C 0 dX11_denies_0 rfl ?_
  refine go_iconst (pc := 1) C dX11_denies_1 ki_0 ?_
  refine go_pI (pc := 2) C fpX11_77 dX11_denies_2 (fun h1 => ?_)
  refine go_aload_n (pc := 5) C 0 dX11_denies_5 rfl ?_
  refine go_gI (pc := 6) C fdX11_395 dX11_denies_6 (fun x2 => ?_)
  refine go_istore_n (ls' := [(1, .int x2), (0, .ref a0)]) (pc := 9) C dX11_denies_9 (by decide) rfl ?_
  refine go_aload_n (pc := 10) C 1 dX11_denies_10 rfl ?_
  refine go_iconst (pc := 11) C dX11_denies_11 ki_0 ?_
  refine go_pI (pc := 12) C fpX11_395 dX11_denies_12 (fun h3 => ?_)
  refine go_iload_n (pc := 15) C 0 dX11_denies_15 rfl ?_
  exact go_iret (w := wIh) (pc := 16) C E ((x2, h3)) x2 dX11_denies_16 rfl
theorem dX11_tidiesBy_0 : decode cX11_tidiesBy 0 = .ok (.iload_n 1, 1) := by decide +kernel
theorem dX11_tidiesBy_1 : decode cX11_tidiesBy 1 = .ok (.iload_n 0, 1) := by decide +kernel
theorem dX11_tidiesBy_2 : decode cX11_tidiesBy 2 = .ok (.bipush 7, 2) := by decide +kernel
theorem dX11_tidiesBy_4 : decode cX11_tidiesBy 4 = .ok (.idiv, 1) := by decide +kernel
theorem dX11_tidiesBy_5 : decode cX11_tidiesBy 5 = .ok (.if_icmp .le 15, 3) := by decide +kernel
theorem dX11_tidiesBy_8 : decode cX11_tidiesBy 8 = .ok (.iload_n 2, 1) := by decide +kernel
theorem dX11_tidiesBy_9 : decode cX11_tidiesBy 9 = .ok (.iload_n 0, 1) := by decide +kernel
theorem dX11_tidiesBy_10 : decode cX11_tidiesBy 10 = .ok (.bipush 7, 2) := by decide +kernel
theorem dX11_tidiesBy_12 : decode cX11_tidiesBy 12 = .ok (.irem, 1) := by decide +kernel
theorem dX11_tidiesBy_13 : decode cX11_tidiesBy 13 = .ok (.if_icmp .lt 7, 3) := by decide +kernel
theorem dX11_tidiesBy_16 : decode cX11_tidiesBy 16 = .ok (.iconst 1, 1) := by decide +kernel
theorem dX11_tidiesBy_17 : decode cX11_tidiesBy 17 = .ok (.goto 4, 3) := by decide +kernel
theorem dX11_tidiesBy_20 : decode cX11_tidiesBy 20 = .ok (.iconst 0, 1) := by decide +kernel
theorem dX11_tidiesBy_21 : decode cX11_tidiesBy 21 = .ok (.ireturn, 1) := by decide +kernel
def fX11_tidiesBy (h : AH) (a0 : Int32) (a1 : Int32) (a2 : Int32) : Option (Bool) :=
  (jdiv a0 7).bind fun x1 =>
  if a1 ≤ x1 then (
    some false
  ) else (
    (jrem a0 7).bind fun x2 =>
    if a2 < x2 then (
      some false
    ) else (
      some true
    )
  )
set_option maxHeartbeats 4000000 in
theorem mX11_tidiesBy {h : AH} {a0 : Int32} {a1 : Int32} {a2 : Int32} {r : Bool} (hr : fX11_tidiesBy h a0 a1 a2 = some r) : MC yX11_tidiesBy cX11_tidiesBy 3 (some .boolean) 1 0 0 [.int a0, .int a1, .int a2] h (some (.int (b2i r))) h := by
  unfold fX11_tidiesBy at hr
  refine mc_of (l0 := [(0, .int a0), (1, .int a1), (2, .int a2)]) rfl pn_X11 (Nat.le_of_ble_eq_true rfl) (fun Y X C E O hnm => go_run hr ?_)
  have C : CT Y X RX11 cX11_tidiesBy 3 := C
  refine go_iload_n (pc := 0) C 1 dX11_tidiesBy_0 rfl ?_
  refine go_iload_n (pc := 1) C 0 dX11_tidiesBy_1 rfl ?_
  refine go_bipush (pc := 2) C dX11_tidiesBy_2 kb_7 ?_
  refine go_idiv (pc := 4) C dX11_tidiesBy_4 (fun x1 => ?_)
  refine go_icmp_le (pc := 5) C 20 dX11_tidiesBy_5 (by decide) (fun _ => ?_) (fun _ => ?_)
  · refine go_iconst (pc := 20) C dX11_tidiesBy_20 ki_0 ?_
    exact go_bret (w := (wZ h)) (pc := 21) C E false 0 false rfl dX11_tidiesBy_21 rfl
  · refine go_iload_n (pc := 8) C 2 dX11_tidiesBy_8 rfl ?_
    refine go_iload_n (pc := 9) C 0 dX11_tidiesBy_9 rfl ?_
    refine go_bipush (pc := 10) C dX11_tidiesBy_10 kb_7 ?_
    refine go_irem (pc := 12) C dX11_tidiesBy_12 (fun x2 => ?_)
    refine go_icmp_lt (pc := 13) C 20 dX11_tidiesBy_13 (by decide) (fun _ => ?_) (fun _ => ?_)
    · refine go_iconst (pc := 20) C dX11_tidiesBy_20 ki_0 ?_
      exact go_bret (w := (wZ h)) (pc := 21) C E false 0 false rfl dX11_tidiesBy_21 rfl
    · refine go_iconst (pc := 16) C dX11_tidiesBy_16 ki_1 ?_
      refine go_goto (pc := 17) C 21 dX11_tidiesBy_17 (by decide) ?_
      exact go_bret (w := (wZ h)) (pc := 21) C E true 1 true rfl dX11_tidiesBy_21 rfl
theorem dX11_isLaw_0 : decode cX11_isLaw 0 = .ok (.iconst 0, 1) := by decide +kernel
theorem dX11_isLaw_1 : decode cX11_isLaw 1 = .ok (.istore_n 2, 1) := by decide +kernel
theorem dX11_isLaw_2 : decode cX11_isLaw 2 = .ok (.iload_n 2, 1) := by decide +kernel
theorem dX11_isLaw_3 : decode cX11_isLaw 3 = .ok (.aload_n 0, 1) := by decide +kernel
theorem dX11_isLaw_4 : decode cX11_isLaw 4 = .ok (.getfield 395, 3) := by decide +kernel
theorem dX11_isLaw_7 : decode cX11_isLaw 7 = .ok (.if_icmp .ge 45, 3) := by decide +kernel
theorem dX11_isLaw_10 : decode cX11_isLaw 10 = .ok (.iload_n 1, 1) := by decide +kernel
theorem dX11_isLaw_11 : decode cX11_isLaw 11 = .ok (.aload_n 0, 1) := by decide +kernel
theorem dX11_isLaw_12 : decode cX11_isLaw 12 = .ok (.getfield 55, 3) := by decide +kernel
theorem dX11_isLaw_15 : decode cX11_isLaw 15 = .ok (.iload_n 2, 1) := by decide +kernel
theorem dX11_isLaw_16 : decode cX11_isLaw 16 = .ok (.iaload, 1) := by decide +kernel
theorem dX11_isLaw_17 : decode cX11_isLaw 17 = .ok (.aload_n 0, 1) := by decide +kernel
theorem dX11_isLaw_18 : decode cX11_isLaw 18 = .ok (.getfield 58, 3) := by decide +kernel
theorem dX11_isLaw_21 : decode cX11_isLaw 21 = .ok (.iload_n 2, 1) := by decide +kernel
theorem dX11_isLaw_22 : decode cX11_isLaw 22 = .ok (.iaload, 1) := by decide +kernel
theorem dX11_isLaw_23 : decode cX11_isLaw 23 = .ok (.invokestatic 398, 3) := by decide +kernel
theorem dX11_isLaw_26 : decode cX11_isLaw 26 = .ok (.aload_n 0, 1) := by decide +kernel
theorem dX11_isLaw_27 : decode cX11_isLaw 27 = .ok (.getfield 61, 3) := by decide +kernel
theorem dX11_isLaw_30 : decode cX11_isLaw 30 = .ok (.iload_n 2, 1) := by decide +kernel
theorem dX11_isLaw_31 : decode cX11_isLaw 31 = .ok (.iaload, 1) := by decide +kernel
theorem dX11_isLaw_32 : decode cX11_isLaw 32 = .ok (.iconst 1, 1) := by decide +kernel
theorem dX11_isLaw_33 : decode cX11_isLaw 33 = .ok (.if_icmp .ne 7, 3) := by decide +kernel
theorem dX11_isLaw_36 : decode cX11_isLaw 36 = .ok (.iconst 1, 1) := by decide +kernel
theorem dX11_isLaw_37 : decode cX11_isLaw 37 = .ok (.goto 4, 3) := by decide +kernel
theorem dX11_isLaw_40 : decode cX11_isLaw 40 = .ok (.iconst 0, 1) := by decide +kernel
theorem dX11_isLaw_41 : decode cX11_isLaw 41 = .ok (.if_icmp .eq 5, 3) := by decide +kernel
theorem dX11_isLaw_44 : decode cX11_isLaw 44 = .ok (.iconst 0, 1) := by decide +kernel
theorem dX11_isLaw_45 : decode cX11_isLaw 45 = .ok (.ireturn, 1) := by decide +kernel
theorem dX11_isLaw_46 : decode cX11_isLaw 46 = .ok (.iinc 2 1, 3) := by decide +kernel
theorem dX11_isLaw_49 : decode cX11_isLaw 49 = .ok (.goto (-47), 3) := by decide +kernel
theorem dX11_isLaw_52 : decode cX11_isLaw 52 = .ok (.iconst 1, 1) := by decide +kernel
theorem dX11_isLaw_53 : decode cX11_isLaw 53 = .ok (.ireturn, 1) := by decide +kernel
def fX11_isLaw_J41 (h : AH) (k2 : Nat → Int32 → Int32 → Option (Bool)) (v0 : Nat) (v1 : Int32) (v2 : Int32) (s0 : Int32) (s1 : Bool) : Option (Bool) :=
    if (b2i s1) = s0 then (
      letF (v2 + 1 : Int32) fun x1 =>
      k2 v0 v1 x1
    ) else (
      some false
    )
def fX11_isLaw_L2 (h : AH) : Nat → Nat → Int32 → Int32 → Option (Bool)
  | 0, _, _, _ => none
  | n + 1, v0, v1, v2 =>
    (gI h 11 v0 31).bind fun x2 =>
    if x2 ≤ v2 then (
      some true
    ) else (
      (gR h 11 v0 28).bind fun x3 =>
      (aI h 0 x3 v2).bind fun x4 =>
      (gR h 11 v0 29).bind fun x5 =>
      (aI h 0 x5 v2).bind fun x6 =>
      (fX11_tidiesBy h v1 x4 x6).bind fun q7 =>
      (gR h 11 v0 30).bind fun x8 =>
      (aI h 0 x8 v2).bind fun x9 =>
      if x9 = 1 then (
        fX11_isLaw_J41 h (fX11_isLaw_L2 h n) v0 v1 v2 1 q7
      ) else (
        fX11_isLaw_J41 h (fX11_isLaw_L2 h n) v0 v1 v2 0 q7
      )
    )
def fX11_isLaw (h : AH) (a0 : Nat) (a1 : Int32) : Option (Bool) :=
  if hasC h 11 a0 = true then (
    fX11_isLaw_L2 h FU a0 a1 0
  ) else none
set_option maxHeartbeats 4000000 in
theorem gX11_isLaw_J41 {Y : YT} {X : XT} (C : CT Y X RX11 cX11_isLaw 3) (O : RO X 2 0 0) {h : AH} {r : Bool} (E : RX Y X (some .boolean) (some (.int (b2i r))) h 0 0) {k2 : Nat → Int32 → Int32 → Option (Bool)} (hk2 : ∀ (v0 : Nat) (v1 : Int32) (v2 : Int32), GO Y X 3 r h 0 0 2 [(0, .ref v0), (1, .int v1), (2, .int v2)] [] (k2 v0 v1 v2)) : ∀ (v0 : Nat) (v1 : Int32) (v2 : Int32) (s0 : Int32) (s1 : Bool), GO Y X 3 r h 0 0 41 [(0, .ref v0), (1, .int v1), (2, .int v2)] [.int s0, .int (b2i s1)] (fX11_isLaw_J41 h k2 v0 v1 v2 s0 s1) := by
  intro v0 v1 v2 s0 s1
  unfold fX11_isLaw_J41
  refine go_icmp_eq (pc := 41) C 46 dX11_isLaw_41 (by decide) (fun _ => ?_) (fun _ => ?_)
  · refine go_iincL (pc := 46) C 2 dX11_isLaw_46 rfl ki_1 (by decide) (fun x1 => [(2, .int x1), (0, .ref v0), (1, .int v1)]) (fun _ => rfl) (fun x1 => ?_)
    refine go_goto (pc := 49) C 2 dX11_isLaw_49 (by decide) ?_
    refine go_sub (ls' := [(0, .ref v0), (1, .int v1), (2, .int x1)]) [1, 2, 0] rfl ?_
    exact hk2 v0 v1 x1
  · refine go_iconst (pc := 44) C dX11_isLaw_44 ki_0 ?_
    exact go_bret (w := (wZ h)) (pc := 45) C E false 0 false rfl dX11_isLaw_45 rfl
set_option maxHeartbeats 4000000 in
theorem gX11_isLaw_L2 {Y : YT} {X : XT} (C : CT Y X RX11 cX11_isLaw 3) (O : RO X 2 0 0) {h : AH} {r : Bool} (E : RX Y X (some .boolean) (some (.int (b2i r))) h 0 0) : ∀ (n : Nat) (v0 : Nat) (v1 : Int32) (v2 : Int32), GO Y X 3 r h 0 0 2 [(0, .ref v0), (1, .int v1), (2, .int v2)] [] (fX11_isLaw_L2 h n v0 v1 v2) := by
  intro n
  induction n with
  | zero => intros; exact go_none _ _ _
  | succ n ih =>
    intro v0 v1 v2
    rw [fX11_isLaw_L2]
    refine go_iload_n (pc := 2) C 2 dX11_isLaw_2 rfl ?_
    refine go_aload_n (pc := 3) C 0 dX11_isLaw_3 rfl ?_
    refine go_gI (pc := 4) C fdX11_395 dX11_isLaw_4 (fun x2 => ?_)
    refine go_icmp_ge (pc := 7) C 52 dX11_isLaw_7 (by decide) (fun _ => ?_) (fun _ => ?_)
    · refine go_iconst (pc := 52) C dX11_isLaw_52 ki_1 ?_
      exact go_bret (w := (wZ h)) (pc := 53) C E true 1 true rfl dX11_isLaw_53 rfl
    · refine go_iload_n (pc := 10) C 1 dX11_isLaw_10 rfl ?_
      refine go_aload_n (pc := 11) C 0 dX11_isLaw_11 rfl ?_
      refine go_gR (pc := 12) C fdX11_55 dX11_isLaw_12 (fun x3 => ?_)
      refine go_iload_n (pc := 15) C 2 dX11_isLaw_15 rfl ?_
      refine go_iald (pc := 16) C dX11_isLaw_16 (fun x4 => ?_)
      refine go_aload_n (pc := 17) C 0 dX11_isLaw_17 rfl ?_
      refine go_gR (pc := 18) C fdX11_58 dX11_isLaw_18 (fun x5 => ?_)
      refine go_iload_n (pc := 21) C 2 dX11_isLaw_21 rfl ?_
      refine go_iald (pc := 22) C dX11_isLaw_22 (fun x6 => ?_)
      refine go_bind (fun q7 hq7 => ?_)
      refine go_callS (rest := []) (st' := [.int (b2i q7)]) (c' := 0) (s' := 0) (pc := 23) C O miX11_398 w_1854 [.int v1, .int x4, .int x6] rfl (mX11_tidiesBy hq7) dX11_isLaw_23 ⟨by decide, by decide, by decide, by decide⟩ rfl (Nat.le_of_ble_eq_true rfl) rfl ⟨rfl, rfl⟩ ?_
      refine go_aload_n (pc := 26) C 0 dX11_isLaw_26 rfl ?_
      refine go_gR (pc := 27) C fdX11_61 dX11_isLaw_27 (fun x8 => ?_)
      refine go_iload_n (pc := 30) C 2 dX11_isLaw_30 rfl ?_
      refine go_iald (pc := 31) C dX11_isLaw_31 (fun x9 => ?_)
      refine go_iconst (pc := 32) C dX11_isLaw_32 ki_1 ?_
      refine go_icmp_ne (pc := 33) C 40 dX11_isLaw_33 (by decide) (fun _ => ?_) (fun _ => ?_)
      · refine go_iconst (pc := 36) C dX11_isLaw_36 ki_1 ?_
        refine go_goto (pc := 37) C 41 dX11_isLaw_37 (by decide) ?_
        refine go_sub (ls' := [(0, .ref v0), (1, .int v1), (2, .int v2)]) [0, 1, 2] rfl ?_
        refine gX11_isLaw_J41 C O E (ih) v0 v1 v2 1 q7
      · refine go_iconst (pc := 40) C dX11_isLaw_40 ki_0 ?_
        refine go_sub (ls' := [(0, .ref v0), (1, .int v1), (2, .int v2)]) [0, 1, 2] rfl ?_
        refine gX11_isLaw_J41 C O E (ih) v0 v1 v2 0 q7
set_option maxHeartbeats 4000000 in
theorem mX11_isLaw {h : AH} {a0 : Nat} {a1 : Int32} {r : Bool} (hr : fX11_isLaw h a0 a1 = some r) : hasC h 11 a0 = true ∧ MC yX11_isLaw cX11_isLaw 3 (some .boolean) 2 0 0 [.ref a0, .int a1] h (some (.int (b2i r))) h := by
  unfold fX11_isLaw at hr
  obtain ⟨hc, hr⟩ := if_some hr
  refine ⟨hc, mc_of (l0 := [(0, .ref a0), (1, .int a1)]) rfl pn_X11 (Nat.le_of_ble_eq_true rfl) (fun Y X C E O hnm => go_run hr ?_)⟩
  have C : CT Y X RX11 cX11_isLaw 3 := C
  refine go_iconst (pc := 0) C dX11_isLaw_0 ki_0 ?_
  refine go_istore_n (ls' := [(2, .int 0), (0, .ref a0), (1, .int a1)]) (pc := 1) C dX11_isLaw_1 (by decide) rfl ?_
  refine go_sub (ls' := [(0, .ref a0), (1, .int a1), (2, .int 0)]) [1, 2, 0] rfl ?_
  refine gX11_isLaw_L2 C O E FU a0 a1 0
theorem dX11_laws_0 : decode cX11_laws 0 = .ok (.aload_n 0, 1) := by decide +kernel
theorem dX11_laws_1 : decode cX11_laws 1 = .ok (.iconst 0, 1) := by decide +kernel
theorem dX11_laws_2 : decode cX11_laws 2 = .ok (.putfield 77, 3) := by decide +kernel
theorem dX11_laws_5 : decode cX11_laws 5 = .ok (.iconst 0, 1) := by decide +kernel
theorem dX11_laws_6 : decode cX11_laws 6 = .ok (.istore_n 1, 1) := by decide +kernel
theorem dX11_laws_7 : decode cX11_laws 7 = .ok (.aload_n 0, 1) := by decide +kernel
theorem dX11_laws_8 : decode cX11_laws 8 = .ok (.iconst 0, 1) := by decide +kernel
theorem dX11_laws_9 : decode cX11_laws 9 = .ok (.putfield 81, 3) := by decide +kernel
theorem dX11_laws_12 : decode cX11_laws 12 = .ok (.iconst 0, 1) := by decide +kernel
theorem dX11_laws_13 : decode cX11_laws 13 = .ok (.istore_n 2, 1) := by decide +kernel
theorem dX11_laws_14 : decode cX11_laws 14 = .ok (.iload_n 2, 1) := by decide +kernel
theorem dX11_laws_15 : decode cX11_laws 15 = .ok (.bipush 49, 2) := by decide +kernel
theorem dX11_laws_17 : decode cX11_laws 17 = .ok (.if_icmp .ge 45, 3) := by decide +kernel
theorem dX11_laws_20 : decode cX11_laws 20 = .ok (.aload_n 0, 1) := by decide +kernel
theorem dX11_laws_21 : decode cX11_laws 21 = .ok (.iload_n 2, 1) := by decide +kernel
theorem dX11_laws_22 : decode cX11_laws 22 = .ok (.invokevirtual 401, 3) := by decide +kernel
theorem dX11_laws_25 : decode cX11_laws 25 = .ok (.ifCond .ne 6, 3) := by decide +kernel
theorem dX11_laws_28 : decode cX11_laws 28 = .ok (.goto 28, 3) := by decide +kernel
theorem dX11_laws_31 : decode cX11_laws 31 = .ok (.iload_n 1, 1) := by decide +kernel
theorem dX11_laws_32 : decode cX11_laws 32 = .ok (.ifCond .ne 21, 3) := by decide +kernel
theorem dX11_laws_35 : decode cX11_laws 35 = .ok (.aload_n 0, 1) := by decide +kernel
theorem dX11_laws_36 : decode cX11_laws 36 = .ok (.iload_n 2, 1) := by decide +kernel
theorem dX11_laws_37 : decode cX11_laws 37 = .ok (.bipush 7, 2) := by decide +kernel
theorem dX11_laws_39 : decode cX11_laws 39 = .ok (.idiv, 1) := by decide +kernel
theorem dX11_laws_40 : decode cX11_laws 40 = .ok (.i2l, 1) := by decide +kernel
theorem dX11_laws_41 : decode cX11_laws 41 = .ok (.invokevirtual 283, 3) := by decide +kernel
theorem dX11_laws_44 : decode cX11_laws 44 = .ok (.aload_n 0, 1) := by decide +kernel
theorem dX11_laws_45 : decode cX11_laws 45 = .ok (.iload_n 2, 1) := by decide +kernel
theorem dX11_laws_46 : decode cX11_laws 46 = .ok (.bipush 7, 2) := by decide +kernel
theorem dX11_laws_48 : decode cX11_laws 48 = .ok (.irem, 1) := by decide +kernel
theorem dX11_laws_49 : decode cX11_laws 49 = .ok (.i2l, 1) := by decide +kernel
theorem dX11_laws_50 : decode cX11_laws 50 = .ok (.invokevirtual 283, 3) := by decide +kernel
theorem dX11_laws_53 : decode cX11_laws 53 = .ok (.iinc 1 1, 3) := by decide +kernel
theorem dX11_laws_56 : decode cX11_laws 56 = .ok (.iinc 2 1, 3) := by decide +kernel
theorem dX11_laws_59 : decode cX11_laws 59 = .ok (.goto (-45), 3) := by decide +kernel
theorem dX11_laws_62 : decode cX11_laws 62 = .ok (.iload_n 1, 1) := by decide +kernel
theorem dX11_laws_63 : decode cX11_laws 63 = .ok (.ireturn, 1) := by decide +kernel
def fX11_laws_L14 : Nat → AH → Nat → Int32 → Int32 → Option (Int32 × AH)
  | 0, _, _, _, _ => none
  | n + 1, h, v0, v1, v2 =>
    if 49 ≤ v2 then (
      some ((v1, h))
    ) else (
      (fX11_isLaw h v0 v2).bind fun q1 =>
      if q1 = true then (
        if v1 = 0 then (
          (jdiv v2 7).bind fun x2 =>
          (fX11_tell h v0 (Int32.toInt64 x2)).bind fun q3 =>
          (jrem v2 7).bind fun x4 =>
          (fX11_tell q3 v0 (Int32.toInt64 x4)).bind fun q5 =>
          letF (v1 + 1 : Int32) fun x6 =>
          letF (v2 + 1 : Int32) fun x7 =>
          fX11_laws_L14 n q5 v0 x6 x7
        ) else (
          letF (v1 + 1 : Int32) fun x8 =>
          letF (v2 + 1 : Int32) fun x9 =>
          fX11_laws_L14 n h v0 x8 x9
        )
      ) else (
        letF (v2 + 1 : Int32) fun x10 =>
        fX11_laws_L14 n h v0 v1 x10
      )
    )
def fX11_laws (h : AH) (a0 : Nat) : Option (Int32 × AH) :=
  if hasC h 11 a0 = true then (
    (pF h 11 a0 5 (.int 0)).bind fun h11 =>
    (pF h11 11 a0 4 (.int 0)).bind fun h12 =>
    fX11_laws_L14 FU h12 a0 0 0
  ) else none
set_option maxHeartbeats 4000000 in
theorem gX11_laws_L14 {Y : YT} {X : XT} (C : CT Y X RX11 cX11_laws 3) (O : RO X 3 0 0) {r : Int32 × AH} (E : RX Y X (some .int) (some (.int r.1)) r.2 0 0) : ∀ (n : Nat) (h : AH) (v0 : Nat) (v1 : Int32) (v2 : Int32), GO Y X 3 r h 0 0 14 [(0, .ref v0), (1, .int v1), (2, .int v2)] [] (fX11_laws_L14 n h v0 v1 v2) := by
  intro n
  induction n with
  | zero => intros; exact go_none _ _ _
  | succ n ih =>
    intro h v0 v1 v2
    rw [fX11_laws_L14]
    refine go_iload_n (pc := 14) C 2 dX11_laws_14 rfl ?_
    refine go_bipush (pc := 15) C dX11_laws_15 kb_49 ?_
    refine go_icmp_ge (pc := 17) C 62 dX11_laws_17 (by decide) (fun _ => ?_) (fun _ => ?_)
    · refine go_iload_n (pc := 62) C 1 dX11_laws_62 rfl ?_
      exact go_iret (w := wIh) (pc := 63) C E ((v1, h)) v1 dX11_laws_63 rfl
    · refine go_aload_n (pc := 20) C 0 dX11_laws_20 rfl ?_
      refine go_iload_n (pc := 21) C 2 dX11_laws_21 rfl ?_
      refine go_bind (fun q1 hq1 => ?_)
      refine go_callV (rest := []) (st' := [.int (b2i q1)]) (c' := 0) (s' := 0) (pc := 22) C O miX11_401 mvX11_isLaw [.int v2] rfl (mX11_isLaw hq1).1 (mX11_isLaw hq1).2 dX11_laws_22 ⟨by decide, by decide, by decide, by decide⟩ rfl (Nat.le_of_ble_eq_true rfl) rfl ⟨rfl, rfl⟩ ?_
      refine go_ifZ_ne (pc := 25) C 31 dX11_laws_25 (by decide) (fun _ => ?_) (fun _ => ?_)
      · refine go_iload_n (pc := 31) C 1 dX11_laws_31 rfl ?_
        refine go_if_ne (pc := 32) C 53 dX11_laws_32 (by decide) (fun _ => ?_) (fun _ => ?_)
        · refine go_aload_n (pc := 35) C 0 dX11_laws_35 rfl ?_
          refine go_iload_n (pc := 36) C 2 dX11_laws_36 rfl ?_
          refine go_bipush (pc := 37) C dX11_laws_37 kb_7 ?_
          refine go_idiv (pc := 39) C dX11_laws_39 (fun x2 => ?_)
          refine go_i2l (pc := 40) C dX11_laws_40 ?_
          refine go_bind (fun q3 hq3 => ?_)
          refine go_callV (rest := []) (st' := []) (c' := 0) (s' := 0) (pc := 41) C O miX11_283 mvX11_tell [.long (Int32.toInt64 x2)] rfl (mX11_tell hq3).1 (mX11_tell hq3).2 dX11_laws_41 ⟨by decide, by decide, by decide, by decide⟩ rfl (Nat.le_of_ble_eq_true rfl) rfl ⟨rfl, rfl⟩ ?_
          refine go_aload_n (pc := 44) C 0 dX11_laws_44 rfl ?_
          refine go_iload_n (pc := 45) C 2 dX11_laws_45 rfl ?_
          refine go_bipush (pc := 46) C dX11_laws_46 kb_7 ?_
          refine go_irem (pc := 48) C dX11_laws_48 (fun x4 => ?_)
          refine go_i2l (pc := 49) C dX11_laws_49 ?_
          refine go_bind (fun q5 hq5 => ?_)
          refine go_callV (rest := []) (st' := []) (c' := 0) (s' := 0) (pc := 50) C O miX11_283 mvX11_tell [.long (Int32.toInt64 x4)] rfl (mX11_tell hq5).1 (mX11_tell hq5).2 dX11_laws_50 ⟨by decide, by decide, by decide, by decide⟩ rfl (Nat.le_of_ble_eq_true rfl) rfl ⟨rfl, rfl⟩ ?_
          refine go_iincL (pc := 53) C 1 dX11_laws_53 rfl ki_1 (by decide) (fun x6 => [(1, .int x6), (0, .ref v0), (2, .int v2)]) (fun _ => rfl) (fun x6 => ?_)
          refine go_iincL (pc := 56) C 2 dX11_laws_56 rfl ki_1 (by decide) (fun x7 => [(2, .int x7), (1, .int x6), (0, .ref v0)]) (fun _ => rfl) (fun x7 => ?_)
          refine go_goto (pc := 59) C 14 dX11_laws_59 (by decide) ?_
          refine go_sub (ls' := [(0, .ref v0), (1, .int x6), (2, .int x7)]) [2, 1, 0] rfl ?_
          exact ih q5 v0 x6 x7
        · refine go_iincL (pc := 53) C 1 dX11_laws_53 rfl ki_1 (by decide) (fun x8 => [(1, .int x8), (0, .ref v0), (2, .int v2)]) (fun _ => rfl) (fun x8 => ?_)
          refine go_iincL (pc := 56) C 2 dX11_laws_56 rfl ki_1 (by decide) (fun x9 => [(2, .int x9), (1, .int x8), (0, .ref v0)]) (fun _ => rfl) (fun x9 => ?_)
          refine go_goto (pc := 59) C 14 dX11_laws_59 (by decide) ?_
          refine go_sub (ls' := [(0, .ref v0), (1, .int x8), (2, .int x9)]) [2, 1, 0] rfl ?_
          exact ih h v0 x8 x9
      · refine go_goto (pc := 28) C 56 dX11_laws_28 (by decide) ?_
        refine go_iincL (pc := 56) C 2 dX11_laws_56 rfl ki_1 (by decide) (fun x10 => [(2, .int x10), (0, .ref v0), (1, .int v1)]) (fun _ => rfl) (fun x10 => ?_)
        refine go_goto (pc := 59) C 14 dX11_laws_59 (by decide) ?_
        refine go_sub (ls' := [(0, .ref v0), (1, .int v1), (2, .int x10)]) [1, 2, 0] rfl ?_
        exact ih h v0 v1 x10
set_option maxHeartbeats 4000000 in
theorem mX11_laws {h : AH} {a0 : Nat} {r : Int32 × AH} (hr : fX11_laws h a0 = some r) : hasC h 11 a0 = true ∧ MC yX11_laws cX11_laws 3 (some .int) 3 0 0 [.ref a0] h (some (.int r.1)) r.2 := by
  unfold fX11_laws at hr
  obtain ⟨hc, hr⟩ := if_some hr
  refine ⟨hc, mc_of (l0 := [(0, .ref a0)]) rfl pn_X11 (Nat.le_of_ble_eq_true rfl) (fun Y X C E O hnm => go_run hr ?_)⟩
  have C : CT Y X RX11 cX11_laws 3 := C
  refine go_aload_n (pc := 0) C 0 dX11_laws_0 rfl ?_
  refine go_iconst (pc := 1) C dX11_laws_1 ki_0 ?_
  refine go_pI (pc := 2) C fpX11_77 dX11_laws_2 (fun h11 => ?_)
  refine go_iconst (pc := 5) C dX11_laws_5 ki_0 ?_
  refine go_istore_n (ls' := [(1, .int 0), (0, .ref a0)]) (pc := 6) C dX11_laws_6 (by decide) rfl ?_
  refine go_aload_n (pc := 7) C 1 dX11_laws_7 rfl ?_
  refine go_iconst (pc := 8) C dX11_laws_8 ki_0 ?_
  refine go_pI (pc := 9) C fpX11_81 dX11_laws_9 (fun h12 => ?_)
  refine go_iconst (pc := 12) C dX11_laws_12 ki_0 ?_
  refine go_istore_n (ls' := [(2, .int 0), (1, .int 0), (0, .ref a0)]) (pc := 13) C dX11_laws_13 (by decide) rfl ?_
  refine go_sub (ls' := [(0, .ref a0), (1, .int 0), (2, .int 0)]) [2, 1, 0] rfl ?_
  refine gX11_laws_L14 C O E FU h12 a0 0 0
theorem dX11_looks_0 : decode cX11_looks 0 = .ok (.aload_n 0, 1) := by decide +kernel
theorem dX11_looks_1 : decode cX11_looks 1 = .ok (.iconst 0, 1) := by decide +kernel
theorem dX11_looks_2 : decode cX11_looks 2 = .ok (.putfield 77, 3) := by decide +kernel
theorem dX11_looks_5 : decode cX11_looks 5 = .ok (.iconst (-1), 1) := by decide +kernel
theorem dX11_looks_6 : decode cX11_looks 6 = .ok (.istore_n 1, 1) := by decide +kernel
theorem dX11_looks_7 : decode cX11_looks 7 = .ok (.ldc_w 394, 3) := by decide +kernel
theorem dX11_looks_10 : decode cX11_looks 10 = .ok (.istore_n 2, 1) := by decide +kernel
theorem dX11_looks_11 : decode cX11_looks 11 = .ok (.iconst 0, 1) := by decide +kernel
theorem dX11_looks_12 : decode cX11_looks 12 = .ok (.istore_n 3, 1) := by decide +kernel
theorem dX11_looks_13 : decode cX11_looks 13 = .ok (.iload_n 3, 1) := by decide +kernel
theorem dX11_looks_14 : decode cX11_looks 14 = .ok (.bipush 9, 2) := by decide +kernel
theorem dX11_looks_16 : decode cX11_looks 16 = .ok (.if_icmp .gt 109, 3) := by decide +kernel
theorem dX11_looks_19 : decode cX11_looks 19 = .ok (.iconst 0, 1) := by decide +kernel
theorem dX11_looks_20 : decode cX11_looks 20 = .ok (.istore 4, 2) := by decide +kernel
theorem dX11_looks_22 : decode cX11_looks 22 = .ok (.iload 4, 2) := by decide +kernel
theorem dX11_looks_24 : decode cX11_looks 24 = .ok (.bipush 8, 2) := by decide +kernel
theorem dX11_looks_26 : decode cX11_looks 26 = .ok (.if_icmp .gt 93, 3) := by decide +kernel
theorem dX11_looks_29 : decode cX11_looks 29 = .ok (.iconst 0, 1) := by decide +kernel
theorem dX11_looks_30 : decode cX11_looks 30 = .ok (.istore 5, 2) := by decide +kernel
theorem dX11_looks_32 : decode cX11_looks 32 = .ok (.iconst 0, 1) := by decide +kernel
theorem dX11_looks_33 : decode cX11_looks 33 = .ok (.istore 6, 2) := by decide +kernel
theorem dX11_looks_35 : decode cX11_looks 35 = .ok (.iconst 0, 1) := by decide +kernel
theorem dX11_looks_36 : decode cX11_looks 36 = .ok (.istore 7, 2) := by decide +kernel
theorem dX11_looks_38 : decode cX11_looks 38 = .ok (.iload 7, 2) := by decide +kernel
theorem dX11_looks_40 : decode cX11_looks 40 = .ok (.bipush 49, 2) := by decide +kernel
theorem dX11_looks_42 : decode cX11_looks 42 = .ok (.if_icmp .ge 41, 3) := by decide +kernel
theorem dX11_looks_45 : decode cX11_looks 45 = .ok (.aload_n 0, 1) := by decide +kernel
theorem dX11_looks_46 : decode cX11_looks 46 = .ok (.iload 7, 2) := by decide +kernel
theorem dX11_looks_48 : decode cX11_looks 48 = .ok (.invokevirtual 401, 3) := by decide +kernel
theorem dX11_looks_51 : decode cX11_looks 51 = .ok (.ifCond .ne 6, 3) := by decide +kernel
theorem dX11_looks_54 : decode cX11_looks 54 = .ok (.goto 23, 3) := by decide +kernel
theorem dX11_looks_57 : decode cX11_looks 57 = .ok (.iload 7, 2) := by decide +kernel
theorem dX11_looks_59 : decode cX11_looks 59 = .ok (.iload_n 3, 1) := by decide +kernel
theorem dX11_looks_60 : decode cX11_looks 60 = .ok (.iload 4, 2) := by decide +kernel
theorem dX11_looks_62 : decode cX11_looks 62 = .ok (.invokestatic 398, 3) := by decide +kernel
theorem dX11_looks_65 : decode cX11_looks 65 = .ok (.ifCond .eq 9, 3) := by decide +kernel
theorem dX11_looks_68 : decode cX11_looks 68 = .ok (.iinc 5 1, 3) := by decide +kernel
theorem dX11_looks_71 : decode cX11_looks 71 = .ok (.goto 6, 3) := by decide +kernel
theorem dX11_looks_74 : decode cX11_looks 74 = .ok (.iinc 6 1, 3) := by decide +kernel
theorem dX11_looks_77 : decode cX11_looks 77 = .ok (.iinc 7 1, 3) := by decide +kernel
theorem dX11_looks_80 : decode cX11_looks 80 = .ok (.goto (-42), 3) := by decide +kernel
theorem dX11_looks_83 : decode cX11_looks 83 = .ok (.iload 5, 2) := by decide +kernel
theorem dX11_looks_85 : decode cX11_looks 85 = .ok (.iload 6, 2) := by decide +kernel
theorem dX11_looks_87 : decode cX11_looks 87 = .ok (.invokestatic 239, 3) := by decide +kernel
theorem dX11_looks_90 : decode cX11_looks 90 = .ok (.iload_n 2, 1) := by decide +kernel
theorem dX11_looks_91 : decode cX11_looks 91 = .ok (.if_icmp .lt 6, 3) := by decide +kernel
theorem dX11_looks_94 : decode cX11_looks 94 = .ok (.goto 19, 3) := by decide +kernel
theorem dX11_looks_97 : decode cX11_looks 97 = .ok (.bipush 10, 2) := by decide +kernel
theorem dX11_looks_99 : decode cX11_looks 99 = .ok (.iload_n 3, 1) := by decide +kernel
theorem dX11_looks_100 : decode cX11_looks 100 = .ok (.imul, 1) := by decide +kernel
theorem dX11_looks_101 : decode cX11_looks 101 = .ok (.iload 4, 2) := by decide +kernel
theorem dX11_looks_103 : decode cX11_looks 103 = .ok (.iadd, 1) := by decide +kernel
theorem dX11_looks_104 : decode cX11_looks 104 = .ok (.istore_n 1, 1) := by decide +kernel
theorem dX11_looks_105 : decode cX11_looks 105 = .ok (.iload 5, 2) := by decide +kernel
theorem dX11_looks_107 : decode cX11_looks 107 = .ok (.iload 6, 2) := by decide +kernel
theorem dX11_looks_109 : decode cX11_looks 109 = .ok (.invokestatic 239, 3) := by decide +kernel
theorem dX11_looks_112 : decode cX11_looks 112 = .ok (.istore_n 2, 1) := by decide +kernel
theorem dX11_looks_113 : decode cX11_looks 113 = .ok (.iinc 4 1, 3) := by decide +kernel
theorem dX11_looks_116 : decode cX11_looks 116 = .ok (.goto (-94), 3) := by decide +kernel
theorem dX11_looks_119 : decode cX11_looks 119 = .ok (.iinc 3 1, 3) := by decide +kernel
theorem dX11_looks_122 : decode cX11_looks 122 = .ok (.goto (-109), 3) := by decide +kernel
theorem dX11_looks_125 : decode cX11_looks 125 = .ok (.iload_n 2, 1) := by decide +kernel
theorem dX11_looks_126 : decode cX11_looks 126 = .ok (.ifCond .ne 6, 3) := by decide +kernel
theorem dX11_looks_129 : decode cX11_looks 129 = .ok (.bipush (-2), 2) := by decide +kernel
theorem dX11_looks_131 : decode cX11_looks 131 = .ok (.ireturn, 1) := by decide +kernel
theorem dX11_looks_132 : decode cX11_looks 132 = .ok (.aload_n 0, 1) := by decide +kernel
theorem dX11_looks_133 : decode cX11_looks 133 = .ok (.iconst 0, 1) := by decide +kernel
theorem dX11_looks_134 : decode cX11_looks 134 = .ok (.putfield 81, 3) := by decide +kernel
theorem dX11_looks_137 : decode cX11_looks 137 = .ok (.aload_n 0, 1) := by decide +kernel
theorem dX11_looks_138 : decode cX11_looks 138 = .ok (.iload_n 2, 1) := by decide +kernel
theorem dX11_looks_139 : decode cX11_looks 139 = .ok (.i2l, 1) := by decide +kernel
theorem dX11_looks_140 : decode cX11_looks 140 = .ok (.invokevirtual 283, 3) := by decide +kernel
theorem dX11_looks_143 : decode cX11_looks 143 = .ok (.iload_n 1, 1) := by decide +kernel
theorem dX11_looks_144 : decode cX11_looks 144 = .ok (.ireturn, 1) := by decide +kernel
def fX11_looks_L38 (k83 : AH → Nat → Int32 → Int32 → Int32 → Int32 → Int32 → Int32 → Option (Int32 × AH)) : Nat → AH → Nat → Int32 → Int32 → Int32 → Int32 → Int32 → Int32 → Int32 → Option (Int32 × AH)
  | 0, _, _, _, _, _, _, _, _, _ => none
  | n + 1, h, v0, v1, v2, v3, v4, v5, v6, v7 =>
    if 49 ≤ v7 then (
      k83 h v0 v1 v2 v3 v4 v5 v6
    ) else (
      (fX11_isLaw h v0 v7).bind fun q1 =>
      if q1 = true then (
        (fX11_tidiesBy h v7 v3 v4).bind fun q2 =>
        if q2 = true then (
          letF (v5 + 1 : Int32) fun x3 =>
          letF (v7 + 1 : Int32) fun x4 =>
          fX11_looks_L38 k83 n h v0 v1 v2 v3 v4 x3 v6 x4
        ) else (
          letF (v6 + 1 : Int32) fun x5 =>
          letF (v7 + 1 : Int32) fun x6 =>
          fX11_looks_L38 k83 n h v0 v1 v2 v3 v4 v5 x5 x6
        )
      ) else (
        letF (v7 + 1 : Int32) fun x7 =>
        fX11_looks_L38 k83 n h v0 v1 v2 v3 v4 v5 v6 x7
      )
    )
def fX11_looks_L22 (k119 : AH → Nat → Int32 → Int32 → Int32 → Option (Int32 × AH)) : Nat → AH → Nat → Int32 → Int32 → Int32 → Int32 → Option (Int32 × AH)
  | 0, _, _, _, _, _, _ => none
  | n + 1, h, v0, v1, v2, v3, v4 =>
    if 8 < v4 then (
      k119 h v0 v1 v2 v3
    ) else (
      fX11_looks_L38
        (fun h15 x8 x9 x10 x11 x12 x13 x14 =>
          if (jmax x13 x14) < x10 then (
            letF ((10 * x11) + x12 : Int32) fun x16 =>
            letF (jmax x13 x14 : Int32) fun x17 =>
            letF (x12 + 1 : Int32) fun x18 =>
            fX11_looks_L22 k119 n h15 x8 x16 x17 x11 x18
          ) else (
            letF (x12 + 1 : Int32) fun x19 =>
            fX11_looks_L22 k119 n h15 x8 x9 x10 x11 x19
          ))
        FU h v0 v1 v2 v3 v4 0 0 0
    )
def fX11_looks_L13 (k125 : AH → Nat → Int32 → Int32 → Option (Int32 × AH)) : Nat → AH → Nat → Int32 → Int32 → Int32 → Option (Int32 × AH)
  | 0, _, _, _, _, _ => none
  | n + 1, h, v0, v1, v2, v3 =>
    if 9 < v3 then (
      k125 h v0 v1 v2
    ) else (
      fX11_looks_L22
        (fun h24 x20 x21 x22 x23 =>
          letF (x23 + 1 : Int32) fun x25 =>
          fX11_looks_L13 k125 n h24 x20 x21 x22 x25)
        FU h v0 v1 v2 v3 0
    )
def fX11_looks (h : AH) (a0 : Nat) : Option (Int32 × AH) :=
  if hasC h 11 a0 = true then (
    (pF h 11 a0 5 (.int 0)).bind fun h26 =>
    fX11_looks_L13
      (fun h30 x27 x28 x29 =>
        if x29 = 0 then (
          some (((-2), h30))
        ) else (
          (pF h30 11 x27 4 (.int 0)).bind fun h31 =>
          (fX11_tell h31 x27 (Int32.toInt64 x29)).bind fun q32 =>
          some ((x28, q32))
        ))
      FU h26 a0 ((-1)) 1000000 0
  ) else none
set_option maxHeartbeats 4000000 in
theorem gX11_looks_L38 {Y : YT} {X : XT} (C : CT Y X RX11 cX11_looks 8) (O : RO X 3 0 0) {r : Int32 × AH} (E : RX Y X (some .int) (some (.int r.1)) r.2 0 0) {k83 : AH → Nat → Int32 → Int32 → Int32 → Int32 → Int32 → Int32 → Option (Int32 × AH)} (hk83 : ∀ (h : AH) (v0 : Nat) (v1 : Int32) (v2 : Int32) (v3 : Int32) (v4 : Int32) (v5 : Int32) (v6 : Int32), GO Y X 8 r h 0 0 83 [(0, .ref v0), (1, .int v1), (2, .int v2), (3, .int v3), (4, .int v4), (5, .int v5), (6, .int v6)] [] (k83 h v0 v1 v2 v3 v4 v5 v6)) : ∀ (n : Nat) (h : AH) (v0 : Nat) (v1 : Int32) (v2 : Int32) (v3 : Int32) (v4 : Int32) (v5 : Int32) (v6 : Int32) (v7 : Int32), GO Y X 8 r h 0 0 38 [(0, .ref v0), (1, .int v1), (2, .int v2), (3, .int v3), (4, .int v4), (5, .int v5), (6, .int v6), (7, .int v7)] [] (fX11_looks_L38 k83 n h v0 v1 v2 v3 v4 v5 v6 v7) := by
  intro n
  induction n with
  | zero => intros; exact go_none _ _ _
  | succ n ih =>
    intro h v0 v1 v2 v3 v4 v5 v6 v7
    rw [fX11_looks_L38]
    refine go_iload (pc := 38) C 7 dX11_looks_38 rfl ?_
    refine go_bipush (pc := 40) C dX11_looks_40 kb_49 ?_
    refine go_icmp_ge (pc := 42) C 83 dX11_looks_42 (by decide) (fun _ => ?_) (fun _ => ?_)
    · refine go_sub (ls' := [(0, .ref v0), (1, .int v1), (2, .int v2), (3, .int v3), (4, .int v4), (5, .int v5), (6, .int v6)]) [0, 1, 2, 3, 4, 5, 6] rfl ?_
      exact hk83 h v0 v1 v2 v3 v4 v5 v6
    · refine go_aload_n (pc := 45) C 0 dX11_looks_45 rfl ?_
      refine go_iload (pc := 46) C 7 dX11_looks_46 rfl ?_
      refine go_bind (fun q1 hq1 => ?_)
      refine go_callV (rest := []) (st' := [.int (b2i q1)]) (c' := 0) (s' := 0) (pc := 48) C O miX11_401 mvX11_isLaw [.int v7] rfl (mX11_isLaw hq1).1 (mX11_isLaw hq1).2 dX11_looks_48 ⟨by decide, by decide, by decide, by decide⟩ rfl (Nat.le_of_ble_eq_true rfl) rfl ⟨rfl, rfl⟩ ?_
      refine go_ifZ_ne (pc := 51) C 57 dX11_looks_51 (by decide) (fun _ => ?_) (fun _ => ?_)
      · refine go_iload (pc := 57) C 7 dX11_looks_57 rfl ?_
        refine go_iload_n (pc := 59) C 3 dX11_looks_59 rfl ?_
        refine go_iload (pc := 60) C 4 dX11_looks_60 rfl ?_
        refine go_bind (fun q2 hq2 => ?_)
        refine go_callS (rest := []) (st' := [.int (b2i q2)]) (c' := 0) (s' := 0) (pc := 62) C O miX11_398 w_1854 [.int v7, .int v3, .int v4] rfl (mX11_tidiesBy hq2) dX11_looks_62 ⟨by decide, by decide, by decide, by decide⟩ rfl (Nat.le_of_ble_eq_true rfl) rfl ⟨rfl, rfl⟩ ?_
        refine go_ifZ_eq (pc := 65) C 74 dX11_looks_65 (by decide) (fun _ => ?_) (fun _ => ?_)
        · refine go_iincL (pc := 68) C 5 dX11_looks_68 rfl ki_1 (by decide) (fun x3 => [(5, .int x3), (0, .ref v0), (1, .int v1), (2, .int v2), (3, .int v3), (4, .int v4), (6, .int v6), (7, .int v7)]) (fun _ => rfl) (fun x3 => ?_)
          refine go_goto (pc := 71) C 77 dX11_looks_71 (by decide) ?_
          refine go_iincL (pc := 77) C 7 dX11_looks_77 rfl ki_1 (by decide) (fun x4 => [(7, .int x4), (5, .int x3), (0, .ref v0), (1, .int v1), (2, .int v2), (3, .int v3), (4, .int v4), (6, .int v6)]) (fun _ => rfl) (fun x4 => ?_)
          refine go_goto (pc := 80) C 38 dX11_looks_80 (by decide) ?_
          refine go_sub (ls' := [(0, .ref v0), (1, .int v1), (2, .int v2), (3, .int v3), (4, .int v4), (5, .int x3), (6, .int v6), (7, .int x4)]) [2, 3, 4, 5, 6, 1, 7, 0] rfl ?_
          exact ih h v0 v1 v2 v3 v4 x3 v6 x4
        · refine go_iincL (pc := 74) C 6 dX11_looks_74 rfl ki_1 (by decide) (fun x5 => [(6, .int x5), (0, .ref v0), (1, .int v1), (2, .int v2), (3, .int v3), (4, .int v4), (5, .int v5), (7, .int v7)]) (fun _ => rfl) (fun x5 => ?_)
          refine go_iincL (pc := 77) C 7 dX11_looks_77 rfl ki_1 (by decide) (fun x6 => [(7, .int x6), (6, .int x5), (0, .ref v0), (1, .int v1), (2, .int v2), (3, .int v3), (4, .int v4), (5, .int v5)]) (fun _ => rfl) (fun x6 => ?_)
          refine go_goto (pc := 80) C 38 dX11_looks_80 (by decide) ?_
          refine go_sub (ls' := [(0, .ref v0), (1, .int v1), (2, .int v2), (3, .int v3), (4, .int v4), (5, .int v5), (6, .int x5), (7, .int x6)]) [2, 3, 4, 5, 6, 7, 1, 0] rfl ?_
          exact ih h v0 v1 v2 v3 v4 v5 x5 x6
      · refine go_goto (pc := 54) C 77 dX11_looks_54 (by decide) ?_
        refine go_iincL (pc := 77) C 7 dX11_looks_77 rfl ki_1 (by decide) (fun x7 => [(7, .int x7), (0, .ref v0), (1, .int v1), (2, .int v2), (3, .int v3), (4, .int v4), (5, .int v5), (6, .int v6)]) (fun _ => rfl) (fun x7 => ?_)
        refine go_goto (pc := 80) C 38 dX11_looks_80 (by decide) ?_
        refine go_sub (ls' := [(0, .ref v0), (1, .int v1), (2, .int v2), (3, .int v3), (4, .int v4), (5, .int v5), (6, .int v6), (7, .int x7)]) [1, 2, 3, 4, 5, 6, 7, 0] rfl ?_
        exact ih h v0 v1 v2 v3 v4 v5 v6 x7
set_option maxHeartbeats 4000000 in
theorem gX11_looks_L22 {Y : YT} {X : XT} (C : CT Y X RX11 cX11_looks 8) (O : RO X 3 0 0) {r : Int32 × AH} (E : RX Y X (some .int) (some (.int r.1)) r.2 0 0) {k119 : AH → Nat → Int32 → Int32 → Int32 → Option (Int32 × AH)} (hk119 : ∀ (h : AH) (v0 : Nat) (v1 : Int32) (v2 : Int32) (v3 : Int32), GO Y X 8 r h 0 0 119 [(0, .ref v0), (1, .int v1), (2, .int v2), (3, .int v3)] [] (k119 h v0 v1 v2 v3)) : ∀ (n : Nat) (h : AH) (v0 : Nat) (v1 : Int32) (v2 : Int32) (v3 : Int32) (v4 : Int32), GO Y X 8 r h 0 0 22 [(0, .ref v0), (1, .int v1), (2, .int v2), (3, .int v3), (4, .int v4)] [] (fX11_looks_L22 k119 n h v0 v1 v2 v3 v4) := by
  intro n
  induction n with
  | zero => intros; exact go_none _ _ _
  | succ n ih =>
    intro h v0 v1 v2 v3 v4
    rw [fX11_looks_L22]
    refine go_iload (pc := 22) C 4 dX11_looks_22 rfl ?_
    refine go_bipush (pc := 24) C dX11_looks_24 kb_8 ?_
    refine go_icmp_gt (pc := 26) C 119 dX11_looks_26 (by decide) (fun _ => ?_) (fun _ => ?_)
    · refine go_sub (ls' := [(0, .ref v0), (1, .int v1), (2, .int v2), (3, .int v3)]) [0, 1, 2, 3] rfl ?_
      exact hk119 h v0 v1 v2 v3
    · refine go_iconst (pc := 29) C dX11_looks_29 ki_0 ?_
      refine go_istore (ls' := [(5, .int 0), (0, .ref v0), (1, .int v1), (2, .int v2), (3, .int v3), (4, .int v4)]) (pc := 30) C dX11_looks_30 (by decide) rfl ?_
      refine go_iconst (pc := 32) C dX11_looks_32 ki_0 ?_
      refine go_istore (ls' := [(6, .int 0), (5, .int 0), (0, .ref v0), (1, .int v1), (2, .int v2), (3, .int v3), (4, .int v4)]) (pc := 33) C dX11_looks_33 (by decide) rfl ?_
      refine go_iconst (pc := 35) C dX11_looks_35 ki_0 ?_
      refine go_istore (ls' := [(7, .int 0), (6, .int 0), (5, .int 0), (0, .ref v0), (1, .int v1), (2, .int v2), (3, .int v3), (4, .int v4)]) (pc := 36) C dX11_looks_36 (by decide) rfl ?_
      refine go_sub (ls' := [(0, .ref v0), (1, .int v1), (2, .int v2), (3, .int v3), (4, .int v4), (5, .int 0), (6, .int 0), (7, .int 0)]) [3, 4, 5, 6, 7, 2, 1, 0] rfl ?_
      refine gX11_looks_L38 C O E (fun h15 x8 x9 x10 x11 x12 x13 x14 => ?_) FU h v0 v1 v2 v3 v4 0 0 0
      · refine go_iload (pc := 83) C 5 dX11_looks_83 rfl ?_
        refine go_iload (pc := 85) C 6 dX11_looks_85 rfl ?_
        refine go_mmax (pc := 87) C O w_1565 w_524 w_102 w_525 ⟨by decide, by decide, by decide⟩ (Nat.le_of_ble_eq_true rfl) dX11_looks_87 ?_
        refine go_iload_n (pc := 90) C 2 dX11_looks_90 rfl ?_
        refine go_icmp_lt (pc := 91) C 97 dX11_looks_91 (by decide) (fun _ => ?_) (fun _ => ?_)
        · refine go_bipush (pc := 97) C dX11_looks_97 kb_10 ?_
          refine go_iload_n (pc := 99) C 3 dX11_looks_99 rfl ?_
          refine go_imul (pc := 100) C dX11_looks_100 ?_
          refine go_iload (pc := 101) C 4 dX11_looks_101 rfl ?_
          refine go_iadd (pc := 103) C dX11_looks_103 ?_
          refine go_istore_nL (pc := 104) C dX11_looks_104 (by decide) (fun x16 => [(1, .int x16), (0, .ref x8), (2, .int x10), (3, .int x11), (4, .int x12), (5, .int x13), (6, .int x14)]) (fun _ => rfl) (fun x16 => ?_)
          refine go_iload (pc := 105) C 5 dX11_looks_105 rfl ?_
          refine go_iload (pc := 107) C 6 dX11_looks_107 rfl ?_
          refine go_mmax (pc := 109) C O w_1565 w_524 w_102 w_525 ⟨by decide, by decide, by decide⟩ (Nat.le_of_ble_eq_true rfl) dX11_looks_109 ?_
          refine go_istore_nL (pc := 112) C dX11_looks_112 (by decide) (fun x17 => [(2, .int x17), (1, .int x16), (0, .ref x8), (3, .int x11), (4, .int x12), (5, .int x13), (6, .int x14)]) (fun _ => rfl) (fun x17 => ?_)
          refine go_iincL (pc := 113) C 4 dX11_looks_113 rfl ki_1 (by decide) (fun x18 => [(4, .int x18), (2, .int x17), (1, .int x16), (0, .ref x8), (3, .int x11), (5, .int x13), (6, .int x14)]) (fun _ => rfl) (fun x18 => ?_)
          refine go_goto (pc := 116) C 22 dX11_looks_116 (by decide) ?_
          refine go_sub (ls' := [(0, .ref x8), (1, .int x16), (2, .int x17), (3, .int x11), (4, .int x18)]) [3, 2, 1, 4, 0] rfl ?_
          exact ih h15 x8 x16 x17 x11 x18
        · refine go_goto (pc := 94) C 113 dX11_looks_94 (by decide) ?_
          refine go_iincL (pc := 113) C 4 dX11_looks_113 rfl ki_1 (by decide) (fun x19 => [(4, .int x19), (0, .ref x8), (1, .int x9), (2, .int x10), (3, .int x11), (5, .int x13), (6, .int x14)]) (fun _ => rfl) (fun x19 => ?_)
          refine go_goto (pc := 116) C 22 dX11_looks_116 (by decide) ?_
          refine go_sub (ls' := [(0, .ref x8), (1, .int x9), (2, .int x10), (3, .int x11), (4, .int x19)]) [1, 2, 3, 4, 0] rfl ?_
          exact ih h15 x8 x9 x10 x11 x19
set_option maxHeartbeats 4000000 in
theorem gX11_looks_L13 {Y : YT} {X : XT} (C : CT Y X RX11 cX11_looks 8) (O : RO X 3 0 0) {r : Int32 × AH} (E : RX Y X (some .int) (some (.int r.1)) r.2 0 0) {k125 : AH → Nat → Int32 → Int32 → Option (Int32 × AH)} (hk125 : ∀ (h : AH) (v0 : Nat) (v1 : Int32) (v2 : Int32), GO Y X 8 r h 0 0 125 [(0, .ref v0), (1, .int v1), (2, .int v2)] [] (k125 h v0 v1 v2)) : ∀ (n : Nat) (h : AH) (v0 : Nat) (v1 : Int32) (v2 : Int32) (v3 : Int32), GO Y X 8 r h 0 0 13 [(0, .ref v0), (1, .int v1), (2, .int v2), (3, .int v3)] [] (fX11_looks_L13 k125 n h v0 v1 v2 v3) := by
  intro n
  induction n with
  | zero => intros; exact go_none _ _ _
  | succ n ih =>
    intro h v0 v1 v2 v3
    rw [fX11_looks_L13]
    refine go_iload_n (pc := 13) C 3 dX11_looks_13 rfl ?_
    refine go_bipush (pc := 14) C dX11_looks_14 kb_9 ?_
    refine go_icmp_gt (pc := 16) C 125 dX11_looks_16 (by decide) (fun _ => ?_) (fun _ => ?_)
    · refine go_sub (ls' := [(0, .ref v0), (1, .int v1), (2, .int v2)]) [0, 1, 2] rfl ?_
      exact hk125 h v0 v1 v2
    · refine go_iconst (pc := 19) C dX11_looks_19 ki_0 ?_
      refine go_istore (ls' := [(4, .int 0), (0, .ref v0), (1, .int v1), (2, .int v2), (3, .int v3)]) (pc := 20) C dX11_looks_20 (by decide) rfl ?_
      refine go_sub (ls' := [(0, .ref v0), (1, .int v1), (2, .int v2), (3, .int v3), (4, .int 0)]) [1, 2, 3, 4, 0] rfl ?_
      refine gX11_looks_L22 C O E (fun h24 x20 x21 x22 x23 => ?_) FU h v0 v1 v2 v3 0
      · refine go_iincL (pc := 119) C 3 dX11_looks_119 rfl ki_1 (by decide) (fun x25 => [(3, .int x25), (0, .ref x20), (1, .int x21), (2, .int x22)]) (fun _ => rfl) (fun x25 => ?_)
        refine go_goto (pc := 122) C 13 dX11_looks_122 (by decide) ?_
        refine go_sub (ls' := [(0, .ref x20), (1, .int x21), (2, .int x22), (3, .int x25)]) [1, 2, 3, 0] rfl ?_
        exact ih h24 x20 x21 x22 x25
set_option maxHeartbeats 4000000 in
theorem mX11_looks {h : AH} {a0 : Nat} {r : Int32 × AH} (hr : fX11_looks h a0 = some r) : hasC h 11 a0 = true ∧ MC yX11_looks cX11_looks 8 (some .int) 3 0 0 [.ref a0] h (some (.int r.1)) r.2 := by
  unfold fX11_looks at hr
  obtain ⟨hc, hr⟩ := if_some hr
  refine ⟨hc, mc_of (l0 := [(0, .ref a0)]) rfl pn_X11 (Nat.le_of_ble_eq_true rfl) (fun Y X C E O hnm => go_run hr ?_)⟩
  have C : CT Y X RX11 cX11_looks 8 := C
  refine go_aload_n (pc := 0) C 0 dX11_looks_0 rfl ?_
  refine go_iconst (pc := 1) C dX11_looks_1 ki_0 ?_
  refine go_pI (pc := 2) C fpX11_77 dX11_looks_2 (fun h26 => ?_)
  refine go_iconst (pc := 5) C dX11_looks_5 ki_m1 ?_
  refine go_istore_n (ls' := [(1, .int ((-1))), (0, .ref a0)]) (pc := 6) C dX11_looks_6 (by decide) rfl ?_
  refine go_ldcw (pc := 7) C w_1836 dX11_looks_7 ?_
  refine go_istore_n (ls' := [(2, .int 1000000), (1, .int ((-1))), (0, .ref a0)]) (pc := 10) C dX11_looks_10 (by decide) rfl ?_
  refine go_iconst (pc := 11) C dX11_looks_11 ki_0 ?_
  refine go_istore_n (ls' := [(3, .int 0), (2, .int 1000000), (1, .int ((-1))), (0, .ref a0)]) (pc := 12) C dX11_looks_12 (by decide) rfl ?_
  refine go_sub (ls' := [(0, .ref a0), (1, .int ((-1))), (2, .int 1000000), (3, .int 0)]) [3, 2, 1, 0] rfl ?_
  refine gX11_looks_L13 C O E (fun h30 x27 x28 x29 => ?_) FU h26 a0 ((-1)) 1000000 0
  · refine go_iload_n (pc := 125) C 2 dX11_looks_125 rfl ?_
    refine go_if_ne (pc := 126) C 132 dX11_looks_126 (by decide) (fun _ => ?_) (fun _ => ?_)
    · refine go_bipush (pc := 129) C dX11_looks_129 kb_m2 ?_
      exact go_iret (w := wIh) (pc := 131) C E (((-2), h30)) ((-2)) dX11_looks_131 rfl
    · refine go_aload_n (pc := 132) C 0 dX11_looks_132 rfl ?_
      refine go_iconst (pc := 133) C dX11_looks_133 ki_0 ?_
      refine go_pI (pc := 134) C fpX11_81 dX11_looks_134 (fun h31 => ?_)
      refine go_aload_n (pc := 137) C 0 dX11_looks_137 rfl ?_
      refine go_iload_n (pc := 138) C 2 dX11_looks_138 rfl ?_
      refine go_i2l (pc := 139) C dX11_looks_139 ?_
      refine go_bind (fun q32 hq32 => ?_)
      refine go_callV (rest := []) (st' := []) (c' := 0) (s' := 0) (pc := 140) C O miX11_283 mvX11_tell [.long (Int32.toInt64 x29)] rfl (mX11_tell hq32).1 (mX11_tell hq32).2 dX11_looks_140 ⟨by decide, by decide, by decide, by decide⟩ rfl (Nat.le_of_ble_eq_true rfl) rfl ⟨rfl, rfl⟩ ?_
      refine go_iload_n (pc := 143) C 1 dX11_looks_143 rfl ?_
      exact go_iret (w := wIh) (pc := 144) C E ((x28, q32)) x28 dX11_looks_144 rfl
theorem dX11_worthBy_0 : decode cX11_worthBy 0 = .ok (.iconst 0, 1) := by decide +kernel
theorem dX11_worthBy_1 : decode cX11_worthBy 1 = .ok (.istore_n 2, 1) := by decide +kernel
theorem dX11_worthBy_2 : decode cX11_worthBy 2 = .ok (.iconst 1, 1) := by decide +kernel
theorem dX11_worthBy_3 : decode cX11_worthBy 3 = .ok (.istore_n 3, 1) := by decide +kernel
theorem dX11_worthBy_4 : decode cX11_worthBy 4 = .ok (.iload_n 3, 1) := by decide +kernel
theorem dX11_worthBy_5 : decode cX11_worthBy 5 = .ok (.iconst 3, 1) := by decide +kernel
theorem dX11_worthBy_6 : decode cX11_worthBy 6 = .ok (.iload_n 1, 1) := by decide +kernel
theorem dX11_worthBy_7 : decode cX11_worthBy 7 = .ok (.invokestatic 233, 3) := by decide +kernel
theorem dX11_worthBy_10 : decode cX11_worthBy 10 = .ok (.if_icmp .gt 50, 3) := by decide +kernel
theorem dX11_worthBy_13 : decode cX11_worthBy 13 = .ok (.iconst 0, 1) := by decide +kernel
theorem dX11_worthBy_14 : decode cX11_worthBy 14 = .ok (.istore 4, 2) := by decide +kernel
theorem dX11_worthBy_16 : decode cX11_worthBy 16 = .ok (.iload 4, 2) := by decide +kernel
theorem dX11_worthBy_18 : decode cX11_worthBy 18 = .ok (.iload_n 1, 1) := by decide +kernel
theorem dX11_worthBy_19 : decode cX11_worthBy 19 = .ok (.iload_n 3, 1) := by decide +kernel
theorem dX11_worthBy_20 : decode cX11_worthBy 20 = .ok (.isub, 1) := by decide +kernel
theorem dX11_worthBy_21 : decode cX11_worthBy 21 = .ok (.if_icmp .gt 33, 3) := by decide +kernel
theorem dX11_worthBy_24 : decode cX11_worthBy 24 = .ok (.iload_n 2, 1) := by decide +kernel
theorem dX11_worthBy_25 : decode cX11_worthBy 25 = .ok (.iconst 1, 1) := by decide +kernel
theorem dX11_worthBy_26 : decode cX11_worthBy 26 = .ok (.aload_n 0, 1) := by decide +kernel
theorem dX11_worthBy_27 : decode cX11_worthBy 27 = .ok (.getfield 64, 3) := by decide +kernel
theorem dX11_worthBy_30 : decode cX11_worthBy 30 = .ok (.iload 4, 2) := by decide +kernel
theorem dX11_worthBy_32 : decode cX11_worthBy 32 = .ok (.iaload, 1) := by decide +kernel
theorem dX11_worthBy_33 : decode cX11_worthBy 33 = .ok (.aload_n 0, 1) := by decide +kernel
theorem dX11_worthBy_34 : decode cX11_worthBy 34 = .ok (.getfield 64, 3) := by decide +kernel
theorem dX11_worthBy_37 : decode cX11_worthBy 37 = .ok (.iload_n 1, 1) := by decide +kernel
theorem dX11_worthBy_38 : decode cX11_worthBy 38 = .ok (.iload_n 3, 1) := by decide +kernel
theorem dX11_worthBy_39 : decode cX11_worthBy 39 = .ok (.isub, 1) := by decide +kernel
theorem dX11_worthBy_40 : decode cX11_worthBy 40 = .ok (.iload 4, 2) := by decide +kernel
theorem dX11_worthBy_42 : decode cX11_worthBy 42 = .ok (.isub, 1) := by decide +kernel
theorem dX11_worthBy_43 : decode cX11_worthBy 43 = .ok (.iaload, 1) := by decide +kernel
theorem dX11_worthBy_44 : decode cX11_worthBy 44 = .ok (.ixor, 1) := by decide +kernel
theorem dX11_worthBy_45 : decode cX11_worthBy 45 = .ok (.ishl, 1) := by decide +kernel
theorem dX11_worthBy_46 : decode cX11_worthBy 46 = .ok (.ior, 1) := by decide +kernel
theorem dX11_worthBy_47 : decode cX11_worthBy 47 = .ok (.istore_n 2, 1) := by decide +kernel
theorem dX11_worthBy_48 : decode cX11_worthBy 48 = .ok (.iinc 4 1, 3) := by decide +kernel
theorem dX11_worthBy_51 : decode cX11_worthBy 51 = .ok (.goto (-35), 3) := by decide +kernel
theorem dX11_worthBy_54 : decode cX11_worthBy 54 = .ok (.iinc 3 1, 3) := by decide +kernel
theorem dX11_worthBy_57 : decode cX11_worthBy 57 = .ok (.goto (-53), 3) := by decide +kernel
theorem dX11_worthBy_60 : decode cX11_worthBy 60 = .ok (.iconst 0, 1) := by decide +kernel
theorem dX11_worthBy_61 : decode cX11_worthBy 61 = .ok (.istore_n 3, 1) := by decide +kernel
theorem dX11_worthBy_62 : decode cX11_worthBy 62 = .ok (.iload_n 2, 1) := by decide +kernel
theorem dX11_worthBy_63 : decode cX11_worthBy 63 = .ok (.iload_n 3, 1) := by decide +kernel
theorem dX11_worthBy_64 : decode cX11_worthBy 64 = .ok (.invokestatic 312, 3) := by decide +kernel
theorem dX11_worthBy_67 : decode cX11_worthBy 67 = .ok (.ifCond .eq 9, 3) := by decide +kernel
theorem dX11_worthBy_70 : decode cX11_worthBy 70 = .ok (.iinc 3 1, 3) := by decide +kernel
theorem dX11_worthBy_73 : decode cX11_worthBy 73 = .ok (.goto (-11), 3) := by decide +kernel
theorem dX11_worthBy_76 : decode cX11_worthBy 76 = .ok (.iload_n 3, 1) := by decide +kernel
theorem dX11_worthBy_77 : decode cX11_worthBy 77 = .ok (.ireturn, 1) := by decide +kernel
def fX11_worthBy_L16 (h : AH) (k54 : Nat → Int32 → Int32 → Int32 → Option (Int32)) : Nat → Nat → Int32 → Int32 → Int32 → Int32 → Option (Int32)
  | 0, _, _, _, _, _ => none
  | n + 1, v0, v1, v2, v3, v4 =>
    if (v1 - v3) < v4 then (
      k54 v0 v1 v2 v3
    ) else (
      (gR h 11 v0 32).bind fun x1 =>
      (aI h 0 x1 v4).bind fun x2 =>
      (gR h 11 v0 32).bind fun x3 =>
      (aI h 0 x3 ((v1 - v3) - v4)).bind fun x4 =>
      letF (v2 ||| (1 <<< ((x2 ^^^ x4) &&& 31)) : Int32) fun x5 =>
      letF (v4 + 1 : Int32) fun x6 =>
      fX11_worthBy_L16 h k54 n v0 v1 x5 v3 x6
    )
def fX11_worthBy_L4 (h : AH) (k60 : Int32 → Option (Int32)) : Nat → Nat → Int32 → Int32 → Int32 → Option (Int32)
  | 0, _, _, _, _ => none
  | n + 1, v0, v1, v2, v3 =>
    if (jmin 3 v1) < v3 then (
      k60 v2
    ) else (
      fX11_worthBy_L16 h
        (fun x7 x8 x9 x10 =>
          letF (x10 + 1 : Int32) fun x11 =>
          fX11_worthBy_L4 h k60 n x7 x8 x9 x11)
        FU v0 v1 v2 v3 0
    )
def fX11_worthBy_L62 (h : AH) : Nat → Int32 → Int32 → Option (Int32)
  | 0, _, _ => none
  | n + 1, v2, v3 =>
    (fX11_has h v2 v3).bind fun q12 =>
    if q12 = true then (
      letF (v3 + 1 : Int32) fun x13 =>
      fX11_worthBy_L62 h n v2 x13
    ) else (
      some v3
    )
def fX11_worthBy (h : AH) (a0 : Nat) (a1 : Int32) : Option (Int32) :=
  if hasC h 11 a0 = true then (
    fX11_worthBy_L4 h
      (fun x14 =>
        fX11_worthBy_L62 h FU x14 0)
      FU a0 a1 0 1
  ) else none
set_option maxHeartbeats 4000000 in
theorem gX11_worthBy_L16 {Y : YT} {X : XT} (C : CT Y X RX11 cX11_worthBy 5) (O : RO X 2 0 0) {h : AH} {r : Int32} (E : RX Y X (some .int) (some (.int r)) h 0 0) {k54 : Nat → Int32 → Int32 → Int32 → Option (Int32)} (hk54 : ∀ (v0 : Nat) (v1 : Int32) (v2 : Int32) (v3 : Int32), GO Y X 5 r h 0 0 54 [(0, .ref v0), (1, .int v1), (2, .int v2), (3, .int v3)] [] (k54 v0 v1 v2 v3)) : ∀ (n : Nat) (v0 : Nat) (v1 : Int32) (v2 : Int32) (v3 : Int32) (v4 : Int32), GO Y X 5 r h 0 0 16 [(0, .ref v0), (1, .int v1), (2, .int v2), (3, .int v3), (4, .int v4)] [] (fX11_worthBy_L16 h k54 n v0 v1 v2 v3 v4) := by
  intro n
  induction n with
  | zero => intros; exact go_none _ _ _
  | succ n ih =>
    intro v0 v1 v2 v3 v4
    rw [fX11_worthBy_L16]
    refine go_iload (pc := 16) C 4 dX11_worthBy_16 rfl ?_
    refine go_iload_n (pc := 18) C 1 dX11_worthBy_18 rfl ?_
    refine go_iload_n (pc := 19) C 3 dX11_worthBy_19 rfl ?_
    refine go_isub (pc := 20) C dX11_worthBy_20 ?_
    refine go_icmp_gt (pc := 21) C 54 dX11_worthBy_21 (by decide) (fun _ => ?_) (fun _ => ?_)
    · refine go_sub (ls' := [(0, .ref v0), (1, .int v1), (2, .int v2), (3, .int v3)]) [0, 1, 2, 3] rfl ?_
      exact hk54 v0 v1 v2 v3
    · refine go_iload_n (pc := 24) C 2 dX11_worthBy_24 rfl ?_
      refine go_iconst (pc := 25) C dX11_worthBy_25 ki_1 ?_
      refine go_aload_n (pc := 26) C 0 dX11_worthBy_26 rfl ?_
      refine go_gR (pc := 27) C fdX11_64 dX11_worthBy_27 (fun x1 => ?_)
      refine go_iload (pc := 30) C 4 dX11_worthBy_30 rfl ?_
      refine go_iald (pc := 32) C dX11_worthBy_32 (fun x2 => ?_)
      refine go_aload_n (pc := 33) C 0 dX11_worthBy_33 rfl ?_
      refine go_gR (pc := 34) C fdX11_64 dX11_worthBy_34 (fun x3 => ?_)
      refine go_iload_n (pc := 37) C 1 dX11_worthBy_37 rfl ?_
      refine go_iload_n (pc := 38) C 3 dX11_worthBy_38 rfl ?_
      refine go_isub (pc := 39) C dX11_worthBy_39 ?_
      refine go_iload (pc := 40) C 4 dX11_worthBy_40 rfl ?_
      refine go_isub (pc := 42) C dX11_worthBy_42 ?_
      refine go_iald (pc := 43) C dX11_worthBy_43 (fun x4 => ?_)
      refine go_ixor (pc := 44) C dX11_worthBy_44 ?_
      refine go_ishl (pc := 45) C dX11_worthBy_45 ?_
      refine go_ior (pc := 46) C dX11_worthBy_46 ?_
      refine go_istore_nL (pc := 47) C dX11_worthBy_47 (by decide) (fun x5 => [(2, .int x5), (0, .ref v0), (1, .int v1), (3, .int v3), (4, .int v4)]) (fun _ => rfl) (fun x5 => ?_)
      refine go_iincL (pc := 48) C 4 dX11_worthBy_48 rfl ki_1 (by decide) (fun x6 => [(4, .int x6), (2, .int x5), (0, .ref v0), (1, .int v1), (3, .int v3)]) (fun _ => rfl) (fun x6 => ?_)
      refine go_goto (pc := 51) C 16 dX11_worthBy_51 (by decide) ?_
      refine go_sub (ls' := [(0, .ref v0), (1, .int v1), (2, .int x5), (3, .int v3), (4, .int x6)]) [2, 3, 1, 4, 0] rfl ?_
      exact ih v0 v1 x5 v3 x6
set_option maxHeartbeats 4000000 in
theorem gX11_worthBy_L4 {Y : YT} {X : XT} (C : CT Y X RX11 cX11_worthBy 5) (O : RO X 2 0 0) {h : AH} {r : Int32} (E : RX Y X (some .int) (some (.int r)) h 0 0) {k60 : Int32 → Option (Int32)} (hk60 : ∀ (v2 : Int32), GO Y X 5 r h 0 0 60 [(2, .int v2)] [] (k60 v2)) : ∀ (n : Nat) (v0 : Nat) (v1 : Int32) (v2 : Int32) (v3 : Int32), GO Y X 5 r h 0 0 4 [(0, .ref v0), (1, .int v1), (2, .int v2), (3, .int v3)] [] (fX11_worthBy_L4 h k60 n v0 v1 v2 v3) := by
  intro n
  induction n with
  | zero => intros; exact go_none _ _ _
  | succ n ih =>
    intro v0 v1 v2 v3
    rw [fX11_worthBy_L4]
    refine go_iload_n (pc := 4) C 3 dX11_worthBy_4 rfl ?_
    refine go_iconst (pc := 5) C dX11_worthBy_5 ki_3 ?_
    refine go_iload_n (pc := 6) C 1 dX11_worthBy_6 rfl ?_
    refine go_mmin (pc := 7) C O w_1564 w_441 w_102 w_442 ⟨by decide, by decide, by decide⟩ (Nat.le_of_ble_eq_true rfl) dX11_worthBy_7 ?_
    refine go_icmp_gt (pc := 10) C 60 dX11_worthBy_10 (by decide) (fun _ => ?_) (fun _ => ?_)
    · refine go_sub (ls' := [(2, .int v2)]) [2] rfl ?_
      exact hk60 v2
    · refine go_iconst (pc := 13) C dX11_worthBy_13 ki_0 ?_
      refine go_istore (ls' := [(4, .int 0), (0, .ref v0), (1, .int v1), (2, .int v2), (3, .int v3)]) (pc := 14) C dX11_worthBy_14 (by decide) rfl ?_
      refine go_sub (ls' := [(0, .ref v0), (1, .int v1), (2, .int v2), (3, .int v3), (4, .int 0)]) [1, 2, 3, 4, 0] rfl ?_
      refine gX11_worthBy_L16 C O E (fun x7 x8 x9 x10 => ?_) FU v0 v1 v2 v3 0
      · refine go_iincL (pc := 54) C 3 dX11_worthBy_54 rfl ki_1 (by decide) (fun x11 => [(3, .int x11), (0, .ref x7), (1, .int x8), (2, .int x9)]) (fun _ => rfl) (fun x11 => ?_)
        refine go_goto (pc := 57) C 4 dX11_worthBy_57 (by decide) ?_
        refine go_sub (ls' := [(0, .ref x7), (1, .int x8), (2, .int x9), (3, .int x11)]) [1, 2, 3, 0] rfl ?_
        exact ih x7 x8 x9 x11
set_option maxHeartbeats 4000000 in
theorem gX11_worthBy_L62 {Y : YT} {X : XT} (C : CT Y X RX11 cX11_worthBy 5) (O : RO X 2 0 0) {h : AH} {r : Int32} (E : RX Y X (some .int) (some (.int r)) h 0 0) : ∀ (n : Nat) (v2 : Int32) (v3 : Int32), GO Y X 5 r h 0 0 62 [(2, .int v2), (3, .int v3)] [] (fX11_worthBy_L62 h n v2 v3) := by
  intro n
  induction n with
  | zero => intros; exact go_none _ _ _
  | succ n ih =>
    intro v2 v3
    rw [fX11_worthBy_L62]
    refine go_iload_n (pc := 62) C 0 dX11_worthBy_62 rfl ?_
    refine go_iload_n (pc := 63) C 1 dX11_worthBy_63 rfl ?_
    refine go_bind (fun q12 hq12 => ?_)
    refine go_callS (rest := []) (st' := [.int (b2i q12)]) (c' := 0) (s' := 0) (pc := 64) C O miX11_312 w_1686 [.int v2, .int v3] rfl (mX11_has hq12) dX11_worthBy_64 ⟨by decide, by decide, by decide, by decide⟩ rfl (Nat.le_of_ble_eq_true rfl) rfl ⟨rfl, rfl⟩ ?_
    refine go_ifZ_eq (pc := 67) C 76 dX11_worthBy_67 (by decide) (fun _ => ?_) (fun _ => ?_)
    · refine go_iincL (pc := 70) C 1 dX11_worthBy_70 rfl ki_1 (by decide) (fun x13 => [(3, .int x13), (2, .int v2)]) (fun _ => rfl) (fun x13 => ?_)
      refine go_goto (pc := 73) C 62 dX11_worthBy_73 (by decide) ?_
      refine go_sub (ls' := [(2, .int v2), (3, .int x13)]) [1, 0] rfl ?_
      exact ih v2 x13
    · refine go_iload_n (pc := 76) C 1 dX11_worthBy_76 rfl ?_
      exact go_iret (w := (wI h)) (pc := 77) C E v3 v3 dX11_worthBy_77 rfl
set_option maxHeartbeats 4000000 in
theorem mX11_worthBy {h : AH} {a0 : Nat} {a1 : Int32} {r : Int32} (hr : fX11_worthBy h a0 a1 = some r) : hasC h 11 a0 = true ∧ MC yX11_worthBy cX11_worthBy 5 (some .int) 2 0 0 [.ref a0, .int a1] h (some (.int r)) h := by
  unfold fX11_worthBy at hr
  obtain ⟨hc, hr⟩ := if_some hr
  refine ⟨hc, mc_of (l0 := [(0, .ref a0), (1, .int a1)]) rfl pn_X11 (Nat.le_of_ble_eq_true rfl) (fun Y X C E O hnm => go_run hr ?_)⟩
  have C : CT Y X RX11 cX11_worthBy 5 := C
  refine go_iconst (pc := 0) C dX11_worthBy_0 ki_0 ?_
  refine go_istore_n (ls' := [(2, .int 0), (0, .ref a0), (1, .int a1)]) (pc := 1) C dX11_worthBy_1 (by decide) rfl ?_
  refine go_iconst (pc := 2) C dX11_worthBy_2 ki_1 ?_
  refine go_istore_n (ls' := [(3, .int 1), (2, .int 0), (0, .ref a0), (1, .int a1)]) (pc := 3) C dX11_worthBy_3 (by decide) rfl ?_
  refine go_sub (ls' := [(0, .ref a0), (1, .int a1), (2, .int 0), (3, .int 1)]) [2, 3, 1, 0] rfl ?_
  refine gX11_worthBy_L4 C O E (fun x14 => ?_) FU a0 a1 0 1
  · refine go_iconst (pc := 60) C dX11_worthBy_60 ki_0 ?_
    refine go_istore_n (ls' := [(3, .int 0), (2, .int x14)]) (pc := 61) C dX11_worthBy_61 (by decide) rfl ?_
    refine go_sub (ls' := [(2, .int x14), (3, .int 0)]) [1, 0] rfl ?_
    refine gX11_worthBy_L62 C O E FU x14 0
theorem dX11_pages_0 : decode cX11_pages 0 = .ok (.aload_n 0, 1) := by decide +kernel
theorem dX11_pages_1 : decode cX11_pages 1 = .ok (.iconst 0, 1) := by decide +kernel
theorem dX11_pages_2 : decode cX11_pages 2 = .ok (.putfield 77, 3) := by decide +kernel
theorem dX11_pages_5 : decode cX11_pages 5 = .ok (.iload_n 1, 1) := by decide +kernel
theorem dX11_pages_6 : decode cX11_pages 6 = .ok (.iconst 0, 1) := by decide +kernel
theorem dX11_pages_7 : decode cX11_pages 7 = .ok (.bipush 60, 2) := by decide +kernel
theorem dX11_pages_9 : decode cX11_pages 9 = .ok (.invokestatic 84, 3) := by decide +kernel
theorem dX11_pages_12 : decode cX11_pages 12 = .ok (.ifCond .ne 5, 3) := by decide +kernel
theorem dX11_pages_15 : decode cX11_pages 15 = .ok (.iconst (-1), 1) := by decide +kernel
theorem dX11_pages_16 : decode cX11_pages 16 = .ok (.ireturn, 1) := by decide +kernel
theorem dX11_pages_17 : decode cX11_pages 17 = .ok (.iconst 0, 1) := by decide +kernel
theorem dX11_pages_18 : decode cX11_pages 18 = .ok (.istore_n 2, 1) := by decide +kernel
theorem dX11_pages_19 : decode cX11_pages 19 = .ok (.iload_n 2, 1) := by decide +kernel
theorem dX11_pages_20 : decode cX11_pages 20 = .ok (.iload_n 1, 1) := by decide +kernel
theorem dX11_pages_21 : decode cX11_pages 21 = .ok (.if_icmp .gt 20, 3) := by decide +kernel
theorem dX11_pages_24 : decode cX11_pages 24 = .ok (.aload_n 0, 1) := by decide +kernel
theorem dX11_pages_25 : decode cX11_pages 25 = .ok (.getfield 64, 3) := by decide +kernel
theorem dX11_pages_28 : decode cX11_pages 28 = .ok (.iload_n 2, 1) := by decide +kernel
theorem dX11_pages_29 : decode cX11_pages 29 = .ok (.aload_n 0, 1) := by decide +kernel
theorem dX11_pages_30 : decode cX11_pages 30 = .ok (.iload_n 2, 1) := by decide +kernel
theorem dX11_pages_31 : decode cX11_pages 31 = .ok (.invokevirtual 404, 3) := by decide +kernel
theorem dX11_pages_34 : decode cX11_pages 34 = .ok (.iastore, 1) := by decide +kernel
theorem dX11_pages_35 : decode cX11_pages 35 = .ok (.iinc 2 1, 3) := by decide +kernel
theorem dX11_pages_38 : decode cX11_pages 38 = .ok (.goto (-19), 3) := by decide +kernel
theorem dX11_pages_41 : decode cX11_pages 41 = .ok (.aload_n 0, 1) := by decide +kernel
theorem dX11_pages_42 : decode cX11_pages 42 = .ok (.iconst 0, 1) := by decide +kernel
theorem dX11_pages_43 : decode cX11_pages 43 = .ok (.putfield 81, 3) := by decide +kernel
theorem dX11_pages_46 : decode cX11_pages 46 = .ok (.iconst 1, 1) := by decide +kernel
theorem dX11_pages_47 : decode cX11_pages 47 = .ok (.istore_n 2, 1) := by decide +kernel
theorem dX11_pages_48 : decode cX11_pages 48 = .ok (.iload_n 2, 1) := by decide +kernel
theorem dX11_pages_49 : decode cX11_pages 49 = .ok (.iconst 3, 1) := by decide +kernel
theorem dX11_pages_50 : decode cX11_pages 50 = .ok (.iload_n 1, 1) := by decide +kernel
theorem dX11_pages_51 : decode cX11_pages 51 = .ok (.invokestatic 233, 3) := by decide +kernel
theorem dX11_pages_54 : decode cX11_pages 54 = .ok (.if_icmp .gt 65, 3) := by decide +kernel
theorem dX11_pages_57 : decode cX11_pages 57 = .ok (.iconst 0, 1) := by decide +kernel
theorem dX11_pages_58 : decode cX11_pages 58 = .ok (.istore_n 3, 1) := by decide +kernel
theorem dX11_pages_59 : decode cX11_pages 59 = .ok (.iload_n 3, 1) := by decide +kernel
theorem dX11_pages_60 : decode cX11_pages 60 = .ok (.iload_n 1, 1) := by decide +kernel
theorem dX11_pages_61 : decode cX11_pages 61 = .ok (.iload_n 2, 1) := by decide +kernel
theorem dX11_pages_62 : decode cX11_pages 62 = .ok (.isub, 1) := by decide +kernel
theorem dX11_pages_63 : decode cX11_pages 63 = .ok (.if_icmp .gt 50, 3) := by decide +kernel
theorem dX11_pages_66 : decode cX11_pages 66 = .ok (.aload_n 0, 1) := by decide +kernel
theorem dX11_pages_67 : decode cX11_pages 67 = .ok (.getfield 81, 3) := by decide +kernel
theorem dX11_pages_70 : decode cX11_pages 70 = .ok (.ifCond .gt 37, 3) := by decide +kernel
theorem dX11_pages_73 : decode cX11_pages 73 = .ok (.aload_n 0, 1) := by decide +kernel
theorem dX11_pages_74 : decode cX11_pages 74 = .ok (.getfield 64, 3) := by decide +kernel
theorem dX11_pages_77 : decode cX11_pages 77 = .ok (.iload_n 3, 1) := by decide +kernel
theorem dX11_pages_78 : decode cX11_pages 78 = .ok (.iaload, 1) := by decide +kernel
theorem dX11_pages_79 : decode cX11_pages 79 = .ok (.aload_n 0, 1) := by decide +kernel
theorem dX11_pages_80 : decode cX11_pages 80 = .ok (.getfield 64, 3) := by decide +kernel
theorem dX11_pages_83 : decode cX11_pages 83 = .ok (.iload_n 1, 1) := by decide +kernel
theorem dX11_pages_84 : decode cX11_pages 84 = .ok (.iload_n 2, 1) := by decide +kernel
theorem dX11_pages_85 : decode cX11_pages 85 = .ok (.isub, 1) := by decide +kernel
theorem dX11_pages_86 : decode cX11_pages 86 = .ok (.iload_n 3, 1) := by decide +kernel
theorem dX11_pages_87 : decode cX11_pages 87 = .ok (.isub, 1) := by decide +kernel
theorem dX11_pages_88 : decode cX11_pages 88 = .ok (.iaload, 1) := by decide +kernel
theorem dX11_pages_89 : decode cX11_pages 89 = .ok (.if_icmp .eq 6, 3) := by decide +kernel
theorem dX11_pages_92 : decode cX11_pages 92 = .ok (.goto 15, 3) := by decide +kernel
theorem dX11_pages_95 : decode cX11_pages 95 = .ok (.aload_n 0, 1) := by decide +kernel
theorem dX11_pages_96 : decode cX11_pages 96 = .ok (.iload_n 2, 1) := by decide +kernel
theorem dX11_pages_97 : decode cX11_pages 97 = .ok (.i2l, 1) := by decide +kernel
theorem dX11_pages_98 : decode cX11_pages 98 = .ok (.invokevirtual 283, 3) := by decide +kernel
theorem dX11_pages_101 : decode cX11_pages 101 = .ok (.aload_n 0, 1) := by decide +kernel
theorem dX11_pages_102 : decode cX11_pages 102 = .ok (.iload_n 3, 1) := by decide +kernel
theorem dX11_pages_103 : decode cX11_pages 103 = .ok (.i2l, 1) := by decide +kernel
theorem dX11_pages_104 : decode cX11_pages 104 = .ok (.invokevirtual 283, 3) := by decide +kernel
theorem dX11_pages_107 : decode cX11_pages 107 = .ok (.iinc 3 1, 3) := by decide +kernel
theorem dX11_pages_110 : decode cX11_pages 110 = .ok (.goto (-51), 3) := by decide +kernel
theorem dX11_pages_113 : decode cX11_pages 113 = .ok (.iinc 2 1, 3) := by decide +kernel
theorem dX11_pages_116 : decode cX11_pages 116 = .ok (.goto (-68), 3) := by decide +kernel
theorem dX11_pages_119 : decode cX11_pages 119 = .ok (.aload_n 0, 1) := by decide +kernel
theorem dX11_pages_120 : decode cX11_pages 120 = .ok (.getfield 81, 3) := by decide +kernel
theorem dX11_pages_123 : decode cX11_pages 123 = .ok (.ifCond .le 7, 3) := by decide +kernel
theorem dX11_pages_126 : decode cX11_pages 126 = .ok (.iconst 1, 1) := by decide +kernel
theorem dX11_pages_127 : decode cX11_pages 127 = .ok (.goto 4, 3) := by decide +kernel
theorem dX11_pages_130 : decode cX11_pages 130 = .ok (.iconst 0, 1) := by decide +kernel
theorem dX11_pages_131 : decode cX11_pages 131 = .ok (.ireturn, 1) := by decide +kernel
def fX11_pages_L19 (k41 : AH → Nat → Int32 → Option (Int32 × AH)) : Nat → AH → Nat → Int32 → Int32 → Option (Int32 × AH)
  | 0, _, _, _, _ => none
  | n + 1, h, v0, v1, v2 =>
    if v1 < v2 then (
      k41 h v0 v1
    ) else (
      (gR h 11 v0 32).bind fun x1 =>
      (fX11_worthBy h v0 v2).bind fun q2 =>
      (sI h 0 x1 v2 q2).bind fun h3 =>
      letF (v2 + 1 : Int32) fun x4 =>
      fX11_pages_L19 k41 n h3 v0 v1 x4
    )
def fX11_pages_L59 (k113 : AH → Nat → Int32 → Int32 → Option (Int32 × AH)) : Nat → AH → Nat → Int32 → Int32 → Int32 → Option (Int32 × AH)
  | 0, _, _, _, _, _ => none
  | n + 1, h, v0, v1, v2, v3 =>
    if (v1 - v2) < v3 then (
      k113 h v0 v1 v2
    ) else (
      (gI h 11 v0 4).bind fun x5 =>
      if 0 < x5 then (
        letF (v3 + 1 : Int32) fun x6 =>
        fX11_pages_L59 k113 n h v0 v1 v2 x6
      ) else (
        (gR h 11 v0 32).bind fun x7 =>
        (aI h 0 x7 v3).bind fun x8 =>
        (gR h 11 v0 32).bind fun x9 =>
        (aI h 0 x9 ((v1 - v2) - v3)).bind fun x10 =>
        if x8 = x10 then (
          (fX11_tell h v0 (Int32.toInt64 v2)).bind fun q11 =>
          (fX11_tell q11 v0 (Int32.toInt64 v3)).bind fun q12 =>
          letF (v3 + 1 : Int32) fun x13 =>
          fX11_pages_L59 k113 n q12 v0 v1 v2 x13
        ) else (
          letF (v3 + 1 : Int32) fun x14 =>
          fX11_pages_L59 k113 n h v0 v1 v2 x14
        )
      )
    )
def fX11_pages_L48 (k119 : AH → Nat → Option (Int32 × AH)) : Nat → AH → Nat → Int32 → Int32 → Option (Int32 × AH)
  | 0, _, _, _, _ => none
  | n + 1, h, v0, v1, v2 =>
    if (jmin 3 v1) < v2 then (
      k119 h v0
    ) else (
      fX11_pages_L59
        (fun h18 x15 x16 x17 =>
          letF (x17 + 1 : Int32) fun x19 =>
          fX11_pages_L48 k119 n h18 x15 x16 x19)
        FU h v0 v1 v2 0
    )
def fX11_pages (h : AH) (a0 : Nat) (a1 : Int32) : Option (Int32 × AH) :=
  if hasC h 11 a0 = true then (
    (pF h 11 a0 5 (.int 0)).bind fun h20 =>
    (fX11_in h20 a1 0 60).bind fun q21 =>
    if q21 = true then (
      fX11_pages_L19
        (fun h24 x22 x23 =>
          (pF h24 11 x22 4 (.int 0)).bind fun h25 =>
          fX11_pages_L48
            (fun h27 x26 =>
              (gI h27 11 x26 4).bind fun x28 =>
              if x28 ≤ 0 then (
                some ((0, h27))
              ) else (
                some ((1, h27))
              ))
            FU h25 x22 x23 1)
        FU h20 a0 a1 0
    ) else (
      some (((-1), h20))
    )
  ) else none
set_option maxHeartbeats 4000000 in
theorem gX11_pages_L19 {Y : YT} {X : XT} (C : CT Y X RX11 cX11_pages 4) (O : RO X 3 0 0) {r : Int32 × AH} (E : RX Y X (some .int) (some (.int r.1)) r.2 0 0) {k41 : AH → Nat → Int32 → Option (Int32 × AH)} (hk41 : ∀ (h : AH) (v0 : Nat) (v1 : Int32), GO Y X 4 r h 0 0 41 [(0, .ref v0), (1, .int v1)] [] (k41 h v0 v1)) : ∀ (n : Nat) (h : AH) (v0 : Nat) (v1 : Int32) (v2 : Int32), GO Y X 4 r h 0 0 19 [(0, .ref v0), (1, .int v1), (2, .int v2)] [] (fX11_pages_L19 k41 n h v0 v1 v2) := by
  intro n
  induction n with
  | zero => intros; exact go_none _ _ _
  | succ n ih =>
    intro h v0 v1 v2
    rw [fX11_pages_L19]
    refine go_iload_n (pc := 19) C 2 dX11_pages_19 rfl ?_
    refine go_iload_n (pc := 20) C 1 dX11_pages_20 rfl ?_
    refine go_icmp_gt (pc := 21) C 41 dX11_pages_21 (by decide) (fun _ => ?_) (fun _ => ?_)
    · refine go_sub (ls' := [(0, .ref v0), (1, .int v1)]) [0, 1] rfl ?_
      exact hk41 h v0 v1
    · refine go_aload_n (pc := 24) C 0 dX11_pages_24 rfl ?_
      refine go_gR (pc := 25) C fdX11_64 dX11_pages_25 (fun x1 => ?_)
      refine go_iload_n (pc := 28) C 2 dX11_pages_28 rfl ?_
      refine go_aload_n (pc := 29) C 0 dX11_pages_29 rfl ?_
      refine go_iload_n (pc := 30) C 2 dX11_pages_30 rfl ?_
      refine go_bind (fun q2 hq2 => ?_)
      refine go_callV (rest := [.int v2, .ref x1]) (st' := [.int q2, .int v2, .ref x1]) (c' := 0) (s' := 0) (pc := 31) C O miX11_404 mvX11_worthBy [.int v2] rfl (mX11_worthBy hq2).1 (mX11_worthBy hq2).2 dX11_pages_31 ⟨by decide, by decide, by decide, by decide⟩ rfl (Nat.le_of_ble_eq_true rfl) rfl ⟨rfl, rfl⟩ ?_
      refine go_iast (pc := 34) C dX11_pages_34 (fun h3 => ?_)
      refine go_iincL (pc := 35) C 2 dX11_pages_35 rfl ki_1 (by decide) (fun x4 => [(2, .int x4), (0, .ref v0), (1, .int v1)]) (fun _ => rfl) (fun x4 => ?_)
      refine go_goto (pc := 38) C 19 dX11_pages_38 (by decide) ?_
      refine go_sub (ls' := [(0, .ref v0), (1, .int v1), (2, .int x4)]) [1, 2, 0] rfl ?_
      exact ih h3 v0 v1 x4
set_option maxHeartbeats 4000000 in
theorem gX11_pages_L59 {Y : YT} {X : XT} (C : CT Y X RX11 cX11_pages 4) (O : RO X 3 0 0) {r : Int32 × AH} (E : RX Y X (some .int) (some (.int r.1)) r.2 0 0) {k113 : AH → Nat → Int32 → Int32 → Option (Int32 × AH)} (hk113 : ∀ (h : AH) (v0 : Nat) (v1 : Int32) (v2 : Int32), GO Y X 4 r h 0 0 113 [(0, .ref v0), (1, .int v1), (2, .int v2)] [] (k113 h v0 v1 v2)) : ∀ (n : Nat) (h : AH) (v0 : Nat) (v1 : Int32) (v2 : Int32) (v3 : Int32), GO Y X 4 r h 0 0 59 [(0, .ref v0), (1, .int v1), (2, .int v2), (3, .int v3)] [] (fX11_pages_L59 k113 n h v0 v1 v2 v3) := by
  intro n
  induction n with
  | zero => intros; exact go_none _ _ _
  | succ n ih =>
    intro h v0 v1 v2 v3
    rw [fX11_pages_L59]
    refine go_iload_n (pc := 59) C 3 dX11_pages_59 rfl ?_
    refine go_iload_n (pc := 60) C 1 dX11_pages_60 rfl ?_
    refine go_iload_n (pc := 61) C 2 dX11_pages_61 rfl ?_
    refine go_isub (pc := 62) C dX11_pages_62 ?_
    refine go_icmp_gt (pc := 63) C 113 dX11_pages_63 (by decide) (fun _ => ?_) (fun _ => ?_)
    · refine go_sub (ls' := [(0, .ref v0), (1, .int v1), (2, .int v2)]) [0, 1, 2] rfl ?_
      exact hk113 h v0 v1 v2
    · refine go_aload_n (pc := 66) C 0 dX11_pages_66 rfl ?_
      refine go_gI (pc := 67) C fdX11_81 dX11_pages_67 (fun x5 => ?_)
      refine go_if_gt (pc := 70) C 107 dX11_pages_70 (by decide) (fun _ => ?_) (fun _ => ?_)
      · refine go_iincL (pc := 107) C 3 dX11_pages_107 rfl ki_1 (by decide) (fun x6 => [(3, .int x6), (0, .ref v0), (1, .int v1), (2, .int v2)]) (fun _ => rfl) (fun x6 => ?_)
        refine go_goto (pc := 110) C 59 dX11_pages_110 (by decide) ?_
        refine go_sub (ls' := [(0, .ref v0), (1, .int v1), (2, .int v2), (3, .int x6)]) [1, 2, 3, 0] rfl ?_
        exact ih h v0 v1 v2 x6
      · refine go_aload_n (pc := 73) C 0 dX11_pages_73 rfl ?_
        refine go_gR (pc := 74) C fdX11_64 dX11_pages_74 (fun x7 => ?_)
        refine go_iload_n (pc := 77) C 3 dX11_pages_77 rfl ?_
        refine go_iald (pc := 78) C dX11_pages_78 (fun x8 => ?_)
        refine go_aload_n (pc := 79) C 0 dX11_pages_79 rfl ?_
        refine go_gR (pc := 80) C fdX11_64 dX11_pages_80 (fun x9 => ?_)
        refine go_iload_n (pc := 83) C 1 dX11_pages_83 rfl ?_
        refine go_iload_n (pc := 84) C 2 dX11_pages_84 rfl ?_
        refine go_isub (pc := 85) C dX11_pages_85 ?_
        refine go_iload_n (pc := 86) C 3 dX11_pages_86 rfl ?_
        refine go_isub (pc := 87) C dX11_pages_87 ?_
        refine go_iald (pc := 88) C dX11_pages_88 (fun x10 => ?_)
        refine go_icmp_eq (pc := 89) C 95 dX11_pages_89 (by decide) (fun _ => ?_) (fun _ => ?_)
        · refine go_aload_n (pc := 95) C 0 dX11_pages_95 rfl ?_
          refine go_iload_n (pc := 96) C 2 dX11_pages_96 rfl ?_
          refine go_i2l (pc := 97) C dX11_pages_97 ?_
          refine go_bind (fun q11 hq11 => ?_)
          refine go_callV (rest := []) (st' := []) (c' := 0) (s' := 0) (pc := 98) C O miX11_283 mvX11_tell [.long (Int32.toInt64 v2)] rfl (mX11_tell hq11).1 (mX11_tell hq11).2 dX11_pages_98 ⟨by decide, by decide, by decide, by decide⟩ rfl (Nat.le_of_ble_eq_true rfl) rfl ⟨rfl, rfl⟩ ?_
          refine go_aload_n (pc := 101) C 0 dX11_pages_101 rfl ?_
          refine go_iload_n (pc := 102) C 3 dX11_pages_102 rfl ?_
          refine go_i2l (pc := 103) C dX11_pages_103 ?_
          refine go_bind (fun q12 hq12 => ?_)
          refine go_callV (rest := []) (st' := []) (c' := 0) (s' := 0) (pc := 104) C O miX11_283 mvX11_tell [.long (Int32.toInt64 v3)] rfl (mX11_tell hq12).1 (mX11_tell hq12).2 dX11_pages_104 ⟨by decide, by decide, by decide, by decide⟩ rfl (Nat.le_of_ble_eq_true rfl) rfl ⟨rfl, rfl⟩ ?_
          refine go_iincL (pc := 107) C 3 dX11_pages_107 rfl ki_1 (by decide) (fun x13 => [(3, .int x13), (0, .ref v0), (1, .int v1), (2, .int v2)]) (fun _ => rfl) (fun x13 => ?_)
          refine go_goto (pc := 110) C 59 dX11_pages_110 (by decide) ?_
          refine go_sub (ls' := [(0, .ref v0), (1, .int v1), (2, .int v2), (3, .int x13)]) [1, 2, 3, 0] rfl ?_
          exact ih q12 v0 v1 v2 x13
        · refine go_goto (pc := 92) C 107 dX11_pages_92 (by decide) ?_
          refine go_iincL (pc := 107) C 3 dX11_pages_107 rfl ki_1 (by decide) (fun x14 => [(3, .int x14), (0, .ref v0), (1, .int v1), (2, .int v2)]) (fun _ => rfl) (fun x14 => ?_)
          refine go_goto (pc := 110) C 59 dX11_pages_110 (by decide) ?_
          refine go_sub (ls' := [(0, .ref v0), (1, .int v1), (2, .int v2), (3, .int x14)]) [1, 2, 3, 0] rfl ?_
          exact ih h v0 v1 v2 x14
set_option maxHeartbeats 4000000 in
theorem gX11_pages_L48 {Y : YT} {X : XT} (C : CT Y X RX11 cX11_pages 4) (O : RO X 3 0 0) {r : Int32 × AH} (E : RX Y X (some .int) (some (.int r.1)) r.2 0 0) {k119 : AH → Nat → Option (Int32 × AH)} (hk119 : ∀ (h : AH) (v0 : Nat), GO Y X 4 r h 0 0 119 [(0, .ref v0)] [] (k119 h v0)) : ∀ (n : Nat) (h : AH) (v0 : Nat) (v1 : Int32) (v2 : Int32), GO Y X 4 r h 0 0 48 [(0, .ref v0), (1, .int v1), (2, .int v2)] [] (fX11_pages_L48 k119 n h v0 v1 v2) := by
  intro n
  induction n with
  | zero => intros; exact go_none _ _ _
  | succ n ih =>
    intro h v0 v1 v2
    rw [fX11_pages_L48]
    refine go_iload_n (pc := 48) C 2 dX11_pages_48 rfl ?_
    refine go_iconst (pc := 49) C dX11_pages_49 ki_3 ?_
    refine go_iload_n (pc := 50) C 1 dX11_pages_50 rfl ?_
    refine go_mmin (pc := 51) C O w_1564 w_441 w_102 w_442 ⟨by decide, by decide, by decide⟩ (Nat.le_of_ble_eq_true rfl) dX11_pages_51 ?_
    refine go_icmp_gt (pc := 54) C 119 dX11_pages_54 (by decide) (fun _ => ?_) (fun _ => ?_)
    · refine go_sub (ls' := [(0, .ref v0)]) [0] rfl ?_
      exact hk119 h v0
    · refine go_iconst (pc := 57) C dX11_pages_57 ki_0 ?_
      refine go_istore_n (ls' := [(3, .int 0), (0, .ref v0), (1, .int v1), (2, .int v2)]) (pc := 58) C dX11_pages_58 (by decide) rfl ?_
      refine go_sub (ls' := [(0, .ref v0), (1, .int v1), (2, .int v2), (3, .int 0)]) [1, 2, 3, 0] rfl ?_
      refine gX11_pages_L59 C O E (fun h18 x15 x16 x17 => ?_) FU h v0 v1 v2 0
      · refine go_iincL (pc := 113) C 2 dX11_pages_113 rfl ki_1 (by decide) (fun x19 => [(2, .int x19), (0, .ref x15), (1, .int x16)]) (fun _ => rfl) (fun x19 => ?_)
        refine go_goto (pc := 116) C 48 dX11_pages_116 (by decide) ?_
        refine go_sub (ls' := [(0, .ref x15), (1, .int x16), (2, .int x19)]) [1, 2, 0] rfl ?_
        exact ih h18 x15 x16 x19
set_option maxHeartbeats 4000000 in
theorem mX11_pages {h : AH} {a0 : Nat} {a1 : Int32} {r : Int32 × AH} (hr : fX11_pages h a0 a1 = some r) : hasC h 11 a0 = true ∧ MC yX11_pages cX11_pages 4 (some .int) 3 0 0 [.ref a0, .int a1] h (some (.int r.1)) r.2 := by
  unfold fX11_pages at hr
  obtain ⟨hc, hr⟩ := if_some hr
  refine ⟨hc, mc_of (l0 := [(0, .ref a0), (1, .int a1)]) rfl pn_X11 (Nat.le_of_ble_eq_true rfl) (fun Y X C E O hnm => go_run hr ?_)⟩
  have C : CT Y X RX11 cX11_pages 4 := C
  refine go_aload_n (pc := 0) C 0 dX11_pages_0 rfl ?_
  refine go_iconst (pc := 1) C dX11_pages_1 ki_0 ?_
  refine go_pI (pc := 2) C fpX11_77 dX11_pages_2 (fun h20 => ?_)
  refine go_iload_n (pc := 5) C 1 dX11_pages_5 rfl ?_
  refine go_iconst (pc := 6) C dX11_pages_6 ki_0 ?_
  refine go_bipush (pc := 7) C dX11_pages_7 kb_60 ?_
  refine go_bind (fun q21 hq21 => ?_)
  refine go_callS (rest := []) (st' := [.int (b2i q21)]) (c' := 0) (s' := 0) (pc := 9) C O miX11_84 w_1437 [.int a1, .int 0, .int 60] rfl (mX11_in hq21) dX11_pages_9 ⟨by decide, by decide, by decide, by decide⟩ rfl (Nat.le_of_ble_eq_true rfl) rfl ⟨rfl, rfl⟩ ?_
  refine go_ifZ_ne (pc := 12) C 17 dX11_pages_12 (by decide) (fun _ => ?_) (fun _ => ?_)
  · refine go_iconst (pc := 17) C dX11_pages_17 ki_0 ?_
    refine go_istore_n (ls' := [(2, .int 0), (0, .ref a0), (1, .int a1)]) (pc := 18) C dX11_pages_18 (by decide) rfl ?_
    refine go_sub (ls' := [(0, .ref a0), (1, .int a1), (2, .int 0)]) [1, 2, 0] rfl ?_
    refine gX11_pages_L19 C O E (fun h24 x22 x23 => ?_) FU h20 a0 a1 0
    · refine go_aload_n (pc := 41) C 0 dX11_pages_41 rfl ?_
      refine go_iconst (pc := 42) C dX11_pages_42 ki_0 ?_
      refine go_pI (pc := 43) C fpX11_81 dX11_pages_43 (fun h25 => ?_)
      refine go_iconst (pc := 46) C dX11_pages_46 ki_1 ?_
      refine go_istore_n (ls' := [(2, .int 1), (0, .ref x22), (1, .int x23)]) (pc := 47) C dX11_pages_47 (by decide) rfl ?_
      refine go_sub (ls' := [(0, .ref x22), (1, .int x23), (2, .int 1)]) [1, 2, 0] rfl ?_
      refine gX11_pages_L48 C O E (fun h27 x26 => ?_) FU h25 x22 x23 1
      · refine go_aload_n (pc := 119) C 0 dX11_pages_119 rfl ?_
        refine go_gI (pc := 120) C fdX11_81 dX11_pages_120 (fun x28 => ?_)
        refine go_if_le (pc := 123) C 130 dX11_pages_123 (by decide) (fun _ => ?_) (fun _ => ?_)
        · refine go_iconst (pc := 130) C dX11_pages_130 ki_0 ?_
          exact go_iret (w := wIh) (pc := 131) C E ((0, h27)) 0 dX11_pages_131 rfl
        · refine go_iconst (pc := 126) C dX11_pages_126 ki_1 ?_
          refine go_goto (pc := 127) C 131 dX11_pages_127 (by decide) ?_
          exact go_iret (w := wIh) (pc := 131) C E ((1, h27)) 1 dX11_pages_131 rfl
  · refine go_iconst (pc := 15) C dX11_pages_15 ki_m1 ?_
    exact go_iret (w := wIh) (pc := 16) C E (((-1), h20)) ((-1)) dX11_pages_16 rfl
theorem dX11_gets_0 : decode cX11_gets 0 = .ok (.iload_n 0, 1) := by decide +kernel
theorem dX11_gets_1 : decode cX11_gets 1 = .ok (.iload_n 1, 1) := by decide +kernel
theorem dX11_gets_2 : decode cX11_gets 2 = .ok (.if_icmp .ge 9, 3) := by decide +kernel
theorem dX11_gets_5 : decode cX11_gets 5 = .ok (.iload_n 2, 1) := by decide +kernel
theorem dX11_gets_6 : decode cX11_gets 6 = .ok (.iload_n 0, 1) := by decide +kernel
theorem dX11_gets_7 : decode cX11_gets 7 = .ok (.isub, 1) := by decide +kernel
theorem dX11_gets_8 : decode cX11_gets 8 = .ok (.goto 25, 3) := by decide +kernel
theorem dX11_gets_11 : decode cX11_gets 11 = .ok (.iload_n 0, 1) := by decide +kernel
theorem dX11_gets_12 : decode cX11_gets 12 = .ok (.iload_n 1, 1) := by decide +kernel
theorem dX11_gets_13 : decode cX11_gets 13 = .ok (.if_icmp .le 15, 3) := by decide +kernel
theorem dX11_gets_16 : decode cX11_gets 16 = .ok (.iload_n 2, 1) := by decide +kernel
theorem dX11_gets_17 : decode cX11_gets 17 = .ok (.iconst 2, 1) := by decide +kernel
theorem dX11_gets_18 : decode cX11_gets 18 = .ok (.idiv, 1) := by decide +kernel
theorem dX11_gets_19 : decode cX11_gets 19 = .ok (.iconst 2, 1) := by decide +kernel
theorem dX11_gets_20 : decode cX11_gets 20 = .ok (.iload_n 0, 1) := by decide +kernel
theorem dX11_gets_21 : decode cX11_gets 21 = .ok (.iload_n 1, 1) := by decide +kernel
theorem dX11_gets_22 : decode cX11_gets 22 = .ok (.isub, 1) := by decide +kernel
theorem dX11_gets_23 : decode cX11_gets 23 = .ok (.imul, 1) := by decide +kernel
theorem dX11_gets_24 : decode cX11_gets 24 = .ok (.isub, 1) := by decide +kernel
theorem dX11_gets_25 : decode cX11_gets 25 = .ok (.goto 8, 3) := by decide +kernel
theorem dX11_gets_28 : decode cX11_gets 28 = .ok (.iload_n 2, 1) := by decide +kernel
theorem dX11_gets_29 : decode cX11_gets 29 = .ok (.iconst 3, 1) := by decide +kernel
theorem dX11_gets_30 : decode cX11_gets 30 = .ok (.idiv, 1) := by decide +kernel
theorem dX11_gets_31 : decode cX11_gets 31 = .ok (.iload_n 0, 1) := by decide +kernel
theorem dX11_gets_32 : decode cX11_gets 32 = .ok (.isub, 1) := by decide +kernel
theorem dX11_gets_33 : decode cX11_gets 33 = .ok (.ireturn, 1) := by decide +kernel
def fX11_gets (h : AH) (a0 : Int32) (a1 : Int32) (a2 : Int32) : Option (Int32) :=
  if a1 ≤ a0 then (
    if a0 ≤ a1 then (
      (jdiv a2 3).bind fun x1 =>
      some (x1 - a0)
    ) else (
      (jdiv a2 2).bind fun x2 =>
      some (x2 - (2 * (a0 - a1)))
    )
  ) else (
    some (a2 - a0)
  )
set_option maxHeartbeats 4000000 in
theorem mX11_gets {h : AH} {a0 : Int32} {a1 : Int32} {a2 : Int32} {r : Int32} (hr : fX11_gets h a0 a1 a2 = some r) : MC yX11_gets cX11_gets 3 (some .int) 1 0 0 [.int a0, .int a1, .int a2] h (some (.int r)) h := by
  unfold fX11_gets at hr
  refine mc_of (l0 := [(0, .int a0), (1, .int a1), (2, .int a2)]) rfl pn_X11 (Nat.le_of_ble_eq_true rfl) (fun Y X C E O hnm => go_run hr ?_)
  have C : CT Y X RX11 cX11_gets 3 := C
  refine go_iload_n (pc := 0) C 0 dX11_gets_0 rfl ?_
  refine go_iload_n (pc := 1) C 1 dX11_gets_1 rfl ?_
  refine go_icmp_ge (pc := 2) C 11 dX11_gets_2 (by decide) (fun _ => ?_) (fun _ => ?_)
  · refine go_iload_n (pc := 11) C 0 dX11_gets_11 rfl ?_
    refine go_iload_n (pc := 12) C 1 dX11_gets_12 rfl ?_
    refine go_icmp_le (pc := 13) C 28 dX11_gets_13 (by decide) (fun _ => ?_) (fun _ => ?_)
    · refine go_iload_n (pc := 28) C 2 dX11_gets_28 rfl ?_
      refine go_iconst (pc := 29) C dX11_gets_29 ki_3 ?_
      refine go_idiv (pc := 30) C dX11_gets_30 (fun x1 => ?_)
      refine go_iload_n (pc := 31) C 0 dX11_gets_31 rfl ?_
      refine go_isub (pc := 32) C dX11_gets_32 ?_
      exact go_iret (w := (wI h)) (pc := 33) C E (x1 - a0) (x1 - a0) dX11_gets_33 rfl
    · refine go_iload_n (pc := 16) C 2 dX11_gets_16 rfl ?_
      refine go_iconst (pc := 17) C dX11_gets_17 ki_2 ?_
      refine go_idiv (pc := 18) C dX11_gets_18 (fun x2 => ?_)
      refine go_iconst (pc := 19) C dX11_gets_19 ki_2 ?_
      refine go_iload_n (pc := 20) C 0 dX11_gets_20 rfl ?_
      refine go_iload_n (pc := 21) C 1 dX11_gets_21 rfl ?_
      refine go_isub (pc := 22) C dX11_gets_22 ?_
      refine go_imul (pc := 23) C dX11_gets_23 ?_
      refine go_isub (pc := 24) C dX11_gets_24 ?_
      refine go_goto (pc := 25) C 33 dX11_gets_25 (by decide) ?_
      exact go_iret (w := (wI h)) (pc := 33) C E (x2 - (2 * (a0 - a1))) (x2 - (2 * (a0 - a1))) dX11_gets_33 rfl
  · refine go_iload_n (pc := 5) C 2 dX11_gets_5 rfl ?_
    refine go_iload_n (pc := 6) C 0 dX11_gets_6 rfl ?_
    refine go_isub (pc := 7) C dX11_gets_7 ?_
    refine go_goto (pc := 8) C 33 dX11_gets_8 (by decide) ?_
    exact go_iret (w := (wI h)) (pc := 33) C E (a2 - a0) (a2 - a0) dX11_gets_33 rfl
theorem dX11_isBest_0 : decode cX11_isBest 0 = .ok (.iconst 0, 1) := by decide +kernel
theorem dX11_isBest_1 : decode cX11_isBest 1 = .ok (.istore_n 3, 1) := by decide +kernel
theorem dX11_isBest_2 : decode cX11_isBest 2 = .ok (.iload_n 3, 1) := by decide +kernel
theorem dX11_isBest_3 : decode cX11_isBest 3 = .ok (.bipush 9, 2) := by decide +kernel
theorem dX11_isBest_5 : decode cX11_isBest 5 = .ok (.if_icmp .gt 26, 3) := by decide +kernel
theorem dX11_isBest_8 : decode cX11_isBest 8 = .ok (.iload_n 3, 1) := by decide +kernel
theorem dX11_isBest_9 : decode cX11_isBest 9 = .ok (.iload_n 1, 1) := by decide +kernel
theorem dX11_isBest_10 : decode cX11_isBest 10 = .ok (.iload_n 2, 1) := by decide +kernel
theorem dX11_isBest_11 : decode cX11_isBest 11 = .ok (.invokestatic 407, 3) := by decide +kernel
theorem dX11_isBest_14 : decode cX11_isBest 14 = .ok (.iload_n 0, 1) := by decide +kernel
theorem dX11_isBest_15 : decode cX11_isBest 15 = .ok (.iload_n 1, 1) := by decide +kernel
theorem dX11_isBest_16 : decode cX11_isBest 16 = .ok (.iload_n 2, 1) := by decide +kernel
theorem dX11_isBest_17 : decode cX11_isBest 17 = .ok (.invokestatic 407, 3) := by decide +kernel
theorem dX11_isBest_20 : decode cX11_isBest 20 = .ok (.if_icmp .le 5, 3) := by decide +kernel
theorem dX11_isBest_23 : decode cX11_isBest 23 = .ok (.iconst 0, 1) := by decide +kernel
theorem dX11_isBest_24 : decode cX11_isBest 24 = .ok (.ireturn, 1) := by decide +kernel
theorem dX11_isBest_25 : decode cX11_isBest 25 = .ok (.iinc 3 1, 3) := by decide +kernel
theorem dX11_isBest_28 : decode cX11_isBest 28 = .ok (.goto (-26), 3) := by decide +kernel
theorem dX11_isBest_31 : decode cX11_isBest 31 = .ok (.iconst 1, 1) := by decide +kernel
theorem dX11_isBest_32 : decode cX11_isBest 32 = .ok (.ireturn, 1) := by decide +kernel
def fX11_isBest_L2 (h : AH) : Nat → Int32 → Int32 → Int32 → Int32 → Option (Bool)
  | 0, _, _, _, _ => none
  | n + 1, v0, v1, v2, v3 =>
    if 9 < v3 then (
      some true
    ) else (
      (fX11_gets h v3 v1 v2).bind fun q1 =>
      (fX11_gets h v0 v1 v2).bind fun q2 =>
      if q1 ≤ q2 then (
        letF (v3 + 1 : Int32) fun x3 =>
        fX11_isBest_L2 h n v0 v1 v2 x3
      ) else (
        some false
      )
    )
def fX11_isBest (h : AH) (a0 : Int32) (a1 : Int32) (a2 : Int32) : Option (Bool) :=
  fX11_isBest_L2 h FU a0 a1 a2 0
set_option maxHeartbeats 4000000 in
theorem gX11_isBest_L2 {Y : YT} {X : XT} (C : CT Y X RX11 cX11_isBest 4) (O : RO X 2 0 0) {h : AH} {r : Bool} (E : RX Y X (some .boolean) (some (.int (b2i r))) h 0 0) : ∀ (n : Nat) (v0 : Int32) (v1 : Int32) (v2 : Int32) (v3 : Int32), GO Y X 4 r h 0 0 2 [(0, .int v0), (1, .int v1), (2, .int v2), (3, .int v3)] [] (fX11_isBest_L2 h n v0 v1 v2 v3) := by
  intro n
  induction n with
  | zero => intros; exact go_none _ _ _
  | succ n ih =>
    intro v0 v1 v2 v3
    rw [fX11_isBest_L2]
    refine go_iload_n (pc := 2) C 3 dX11_isBest_2 rfl ?_
    refine go_bipush (pc := 3) C dX11_isBest_3 kb_9 ?_
    refine go_icmp_gt (pc := 5) C 31 dX11_isBest_5 (by decide) (fun _ => ?_) (fun _ => ?_)
    · refine go_iconst (pc := 31) C dX11_isBest_31 ki_1 ?_
      exact go_bret (w := (wZ h)) (pc := 32) C E true 1 true rfl dX11_isBest_32 rfl
    · refine go_iload_n (pc := 8) C 3 dX11_isBest_8 rfl ?_
      refine go_iload_n (pc := 9) C 1 dX11_isBest_9 rfl ?_
      refine go_iload_n (pc := 10) C 2 dX11_isBest_10 rfl ?_
      refine go_bind (fun q1 hq1 => ?_)
      refine go_callS (rest := []) (st' := [.int q1]) (c' := 0) (s' := 0) (pc := 11) C O miX11_407 w_1876 [.int v3, .int v1, .int v2] rfl (mX11_gets hq1) dX11_isBest_11 ⟨by decide, by decide, by decide, by decide⟩ rfl (Nat.le_of_ble_eq_true rfl) rfl ⟨rfl, rfl⟩ ?_
      refine go_iload_n (pc := 14) C 0 dX11_isBest_14 rfl ?_
      refine go_iload_n (pc := 15) C 1 dX11_isBest_15 rfl ?_
      refine go_iload_n (pc := 16) C 2 dX11_isBest_16 rfl ?_
      refine go_bind (fun q2 hq2 => ?_)
      refine go_callS (rest := [.int q1]) (st' := [.int q2, .int q1]) (c' := 0) (s' := 0) (pc := 17) C O miX11_407 w_1876 [.int v0, .int v1, .int v2] rfl (mX11_gets hq2) dX11_isBest_17 ⟨by decide, by decide, by decide, by decide⟩ rfl (Nat.le_of_ble_eq_true rfl) rfl ⟨rfl, rfl⟩ ?_
      refine go_icmp_le (pc := 20) C 25 dX11_isBest_20 (by decide) (fun _ => ?_) (fun _ => ?_)
      · refine go_iincL (pc := 25) C 3 dX11_isBest_25 rfl ki_1 (by decide) (fun x3 => [(3, .int x3), (0, .int v0), (1, .int v1), (2, .int v2)]) (fun _ => rfl) (fun x3 => ?_)
        refine go_goto (pc := 28) C 2 dX11_isBest_28 (by decide) ?_
        refine go_sub (ls' := [(0, .int v0), (1, .int v1), (2, .int v2), (3, .int x3)]) [1, 2, 3, 0] rfl ?_
        exact ih v0 v1 v2 x3
      · refine go_iconst (pc := 23) C dX11_isBest_23 ki_0 ?_
        exact go_bret (w := (wZ h)) (pc := 24) C E false 0 false rfl dX11_isBest_24 rfl
set_option maxHeartbeats 4000000 in
theorem mX11_isBest {h : AH} {a0 : Int32} {a1 : Int32} {a2 : Int32} {r : Bool} (hr : fX11_isBest h a0 a1 a2 = some r) : MC yX11_isBest cX11_isBest 4 (some .boolean) 2 0 0 [.int a0, .int a1, .int a2] h (some (.int (b2i r))) h := by
  unfold fX11_isBest at hr
  refine mc_of (l0 := [(0, .int a0), (1, .int a1), (2, .int a2)]) rfl pn_X11 (Nat.le_of_ble_eq_true rfl) (fun Y X C E O hnm => go_run hr ?_)
  have C : CT Y X RX11 cX11_isBest 4 := C
  refine go_iconst (pc := 0) C dX11_isBest_0 ki_0 ?_
  refine go_istore_n (ls' := [(3, .int 0), (0, .int a0), (1, .int a1), (2, .int a2)]) (pc := 1) C dX11_isBest_1 (by decide) rfl ?_
  refine go_sub (ls' := [(0, .int a0), (1, .int a1), (2, .int a2), (3, .int 0)]) [1, 2, 3, 0] rfl ?_
  refine gX11_isBest_L2 C O E FU a0 a1 a2 0
theorem dX11_rests_0 : decode cX11_rests 0 = .ok (.aload_n 0, 1) := by decide +kernel
theorem dX11_rests_1 : decode cX11_rests 1 = .ok (.iconst 0, 1) := by decide +kernel
theorem dX11_rests_2 : decode cX11_rests 2 = .ok (.putfield 77, 3) := by decide +kernel
theorem dX11_rests_5 : decode cX11_rests 5 = .ok (.iload_n 1, 1) := by decide +kernel
theorem dX11_rests_6 : decode cX11_rests 6 = .ok (.iconst 0, 1) := by decide +kernel
theorem dX11_rests_7 : decode cX11_rests 7 = .ok (.bipush 20, 2) := by decide +kernel
theorem dX11_rests_9 : decode cX11_rests 9 = .ok (.invokestatic 84, 3) := by decide +kernel
theorem dX11_rests_12 : decode cX11_rests 12 = .ok (.ifCond .ne 5, 3) := by decide +kernel
theorem dX11_rests_15 : decode cX11_rests 15 = .ok (.iconst (-1), 1) := by decide +kernel
theorem dX11_rests_16 : decode cX11_rests 16 = .ok (.ireturn, 1) := by decide +kernel
theorem dX11_rests_17 : decode cX11_rests 17 = .ok (.iconst 0, 1) := by decide +kernel
theorem dX11_rests_18 : decode cX11_rests 18 = .ok (.istore_n 2, 1) := by decide +kernel
theorem dX11_rests_19 : decode cX11_rests 19 = .ok (.aload_n 0, 1) := by decide +kernel
theorem dX11_rests_20 : decode cX11_rests 20 = .ok (.iconst 0, 1) := by decide +kernel
theorem dX11_rests_21 : decode cX11_rests 21 = .ok (.putfield 81, 3) := by decide +kernel
theorem dX11_rests_24 : decode cX11_rests 24 = .ok (.iconst 0, 1) := by decide +kernel
theorem dX11_rests_25 : decode cX11_rests 25 = .ok (.istore_n 3, 1) := by decide +kernel
theorem dX11_rests_26 : decode cX11_rests 26 = .ok (.iload_n 3, 1) := by decide +kernel
theorem dX11_rests_27 : decode cX11_rests 27 = .ok (.bipush 9, 2) := by decide +kernel
theorem dX11_rests_29 : decode cX11_rests 29 = .ok (.if_icmp .gt 68, 3) := by decide +kernel
theorem dX11_rests_32 : decode cX11_rests 32 = .ok (.iconst 0, 1) := by decide +kernel
theorem dX11_rests_33 : decode cX11_rests 33 = .ok (.istore 4, 2) := by decide +kernel
theorem dX11_rests_35 : decode cX11_rests 35 = .ok (.iload 4, 2) := by decide +kernel
theorem dX11_rests_37 : decode cX11_rests 37 = .ok (.bipush 9, 2) := by decide +kernel
theorem dX11_rests_39 : decode cX11_rests 39 = .ok (.if_icmp .gt 52, 3) := by decide +kernel
theorem dX11_rests_42 : decode cX11_rests 42 = .ok (.iload_n 3, 1) := by decide +kernel
theorem dX11_rests_43 : decode cX11_rests 43 = .ok (.iload 4, 2) := by decide +kernel
theorem dX11_rests_45 : decode cX11_rests 45 = .ok (.iload_n 1, 1) := by decide +kernel
theorem dX11_rests_46 : decode cX11_rests 46 = .ok (.invokestatic 410, 3) := by decide +kernel
theorem dX11_rests_49 : decode cX11_rests 49 = .ok (.ifCond .eq 36, 3) := by decide +kernel
theorem dX11_rests_52 : decode cX11_rests 52 = .ok (.iload 4, 2) := by decide +kernel
theorem dX11_rests_54 : decode cX11_rests 54 = .ok (.iload_n 3, 1) := by decide +kernel
theorem dX11_rests_55 : decode cX11_rests 55 = .ok (.iload_n 1, 1) := by decide +kernel
theorem dX11_rests_56 : decode cX11_rests 56 = .ok (.invokestatic 410, 3) := by decide +kernel
theorem dX11_rests_59 : decode cX11_rests 59 = .ok (.ifCond .ne 6, 3) := by decide +kernel
theorem dX11_rests_62 : decode cX11_rests 62 = .ok (.goto 23, 3) := by decide +kernel
theorem dX11_rests_65 : decode cX11_rests 65 = .ok (.iload_n 2, 1) := by decide +kernel
theorem dX11_rests_66 : decode cX11_rests 66 = .ok (.ifCond .ne 16, 3) := by decide +kernel
theorem dX11_rests_69 : decode cX11_rests 69 = .ok (.aload_n 0, 1) := by decide +kernel
theorem dX11_rests_70 : decode cX11_rests 70 = .ok (.iload_n 3, 1) := by decide +kernel
theorem dX11_rests_71 : decode cX11_rests 71 = .ok (.i2l, 1) := by decide +kernel
theorem dX11_rests_72 : decode cX11_rests 72 = .ok (.invokevirtual 283, 3) := by decide +kernel
theorem dX11_rests_75 : decode cX11_rests 75 = .ok (.aload_n 0, 1) := by decide +kernel
theorem dX11_rests_76 : decode cX11_rests 76 = .ok (.iload 4, 2) := by decide +kernel
theorem dX11_rests_78 : decode cX11_rests 78 = .ok (.i2l, 1) := by decide +kernel
theorem dX11_rests_79 : decode cX11_rests 79 = .ok (.invokevirtual 283, 3) := by decide +kernel
theorem dX11_rests_82 : decode cX11_rests 82 = .ok (.iinc 2 1, 3) := by decide +kernel
theorem dX11_rests_85 : decode cX11_rests 85 = .ok (.iinc 4 1, 3) := by decide +kernel
theorem dX11_rests_88 : decode cX11_rests 88 = .ok (.goto (-53), 3) := by decide +kernel
theorem dX11_rests_91 : decode cX11_rests 91 = .ok (.iinc 3 1, 3) := by decide +kernel
theorem dX11_rests_94 : decode cX11_rests 94 = .ok (.goto (-68), 3) := by decide +kernel
theorem dX11_rests_97 : decode cX11_rests 97 = .ok (.iload_n 2, 1) := by decide +kernel
theorem dX11_rests_98 : decode cX11_rests 98 = .ok (.ireturn, 1) := by decide +kernel
def fX11_rests_L35 (k91 : AH → Nat → Int32 → Int32 → Int32 → Option (Int32 × AH)) : Nat → AH → Nat → Int32 → Int32 → Int32 → Int32 → Option (Int32 × AH)
  | 0, _, _, _, _, _, _ => none
  | n + 1, h, v0, v1, v2, v3, v4 =>
    if 9 < v4 then (
      k91 h v0 v1 v2 v3
    ) else (
      (fX11_isBest h v3 v4 v1).bind fun q1 =>
      if q1 = true then (
        (fX11_isBest h v4 v3 v1).bind fun q2 =>
        if q2 = true then (
          if v2 = 0 then (
            (fX11_tell h v0 (Int32.toInt64 v3)).bind fun q3 =>
            (fX11_tell q3 v0 (Int32.toInt64 v4)).bind fun q4 =>
            letF (v2 + 1 : Int32) fun x5 =>
            letF (v4 + 1 : Int32) fun x6 =>
            fX11_rests_L35 k91 n q4 v0 v1 x5 v3 x6
          ) else (
            letF (v2 + 1 : Int32) fun x7 =>
            letF (v4 + 1 : Int32) fun x8 =>
            fX11_rests_L35 k91 n h v0 v1 x7 v3 x8
          )
        ) else (
          letF (v4 + 1 : Int32) fun x9 =>
          fX11_rests_L35 k91 n h v0 v1 v2 v3 x9
        )
      ) else (
        letF (v4 + 1 : Int32) fun x10 =>
        fX11_rests_L35 k91 n h v0 v1 v2 v3 x10
      )
    )
def fX11_rests_L26 : Nat → AH → Nat → Int32 → Int32 → Int32 → Option (Int32 × AH)
  | 0, _, _, _, _, _ => none
  | n + 1, h, v0, v1, v2, v3 =>
    if 9 < v3 then (
      some ((v2, h))
    ) else (
      fX11_rests_L35
        (fun h15 x11 x12 x13 x14 =>
          letF (x14 + 1 : Int32) fun x16 =>
          fX11_rests_L26 n h15 x11 x12 x13 x16)
        FU h v0 v1 v2 v3 0
    )
def fX11_rests (h : AH) (a0 : Nat) (a1 : Int32) : Option (Int32 × AH) :=
  if hasC h 11 a0 = true then (
    (pF h 11 a0 5 (.int 0)).bind fun h17 =>
    (fX11_in h17 a1 0 20).bind fun q18 =>
    if q18 = true then (
      (pF h17 11 a0 4 (.int 0)).bind fun h19 =>
      fX11_rests_L26 FU h19 a0 a1 0 0
    ) else (
      some (((-1), h17))
    )
  ) else none
set_option maxHeartbeats 4000000 in
theorem gX11_rests_L35 {Y : YT} {X : XT} (C : CT Y X RX11 cX11_rests 5) (O : RO X 3 0 0) {r : Int32 × AH} (E : RX Y X (some .int) (some (.int r.1)) r.2 0 0) {k91 : AH → Nat → Int32 → Int32 → Int32 → Option (Int32 × AH)} (hk91 : ∀ (h : AH) (v0 : Nat) (v1 : Int32) (v2 : Int32) (v3 : Int32), GO Y X 5 r h 0 0 91 [(0, .ref v0), (1, .int v1), (2, .int v2), (3, .int v3)] [] (k91 h v0 v1 v2 v3)) : ∀ (n : Nat) (h : AH) (v0 : Nat) (v1 : Int32) (v2 : Int32) (v3 : Int32) (v4 : Int32), GO Y X 5 r h 0 0 35 [(0, .ref v0), (1, .int v1), (2, .int v2), (3, .int v3), (4, .int v4)] [] (fX11_rests_L35 k91 n h v0 v1 v2 v3 v4) := by
  intro n
  induction n with
  | zero => intros; exact go_none _ _ _
  | succ n ih =>
    intro h v0 v1 v2 v3 v4
    rw [fX11_rests_L35]
    refine go_iload (pc := 35) C 4 dX11_rests_35 rfl ?_
    refine go_bipush (pc := 37) C dX11_rests_37 kb_9 ?_
    refine go_icmp_gt (pc := 39) C 91 dX11_rests_39 (by decide) (fun _ => ?_) (fun _ => ?_)
    · refine go_sub (ls' := [(0, .ref v0), (1, .int v1), (2, .int v2), (3, .int v3)]) [0, 1, 2, 3] rfl ?_
      exact hk91 h v0 v1 v2 v3
    · refine go_iload_n (pc := 42) C 3 dX11_rests_42 rfl ?_
      refine go_iload (pc := 43) C 4 dX11_rests_43 rfl ?_
      refine go_iload_n (pc := 45) C 1 dX11_rests_45 rfl ?_
      refine go_bind (fun q1 hq1 => ?_)
      refine go_callS (rest := []) (st' := [.int (b2i q1)]) (c' := 0) (s' := 0) (pc := 46) C O miX11_410 w_1873 [.int v3, .int v4, .int v1] rfl (mX11_isBest hq1) dX11_rests_46 ⟨by decide, by decide, by decide, by decide⟩ rfl (Nat.le_of_ble_eq_true rfl) rfl ⟨rfl, rfl⟩ ?_
      refine go_ifZ_eq (pc := 49) C 85 dX11_rests_49 (by decide) (fun _ => ?_) (fun _ => ?_)
      · refine go_iload (pc := 52) C 4 dX11_rests_52 rfl ?_
        refine go_iload_n (pc := 54) C 3 dX11_rests_54 rfl ?_
        refine go_iload_n (pc := 55) C 1 dX11_rests_55 rfl ?_
        refine go_bind (fun q2 hq2 => ?_)
        refine go_callS (rest := []) (st' := [.int (b2i q2)]) (c' := 0) (s' := 0) (pc := 56) C O miX11_410 w_1873 [.int v4, .int v3, .int v1] rfl (mX11_isBest hq2) dX11_rests_56 ⟨by decide, by decide, by decide, by decide⟩ rfl (Nat.le_of_ble_eq_true rfl) rfl ⟨rfl, rfl⟩ ?_
        refine go_ifZ_ne (pc := 59) C 65 dX11_rests_59 (by decide) (fun _ => ?_) (fun _ => ?_)
        · refine go_iload_n (pc := 65) C 2 dX11_rests_65 rfl ?_
          refine go_if_ne (pc := 66) C 82 dX11_rests_66 (by decide) (fun _ => ?_) (fun _ => ?_)
          · refine go_aload_n (pc := 69) C 0 dX11_rests_69 rfl ?_
            refine go_iload_n (pc := 70) C 3 dX11_rests_70 rfl ?_
            refine go_i2l (pc := 71) C dX11_rests_71 ?_
            refine go_bind (fun q3 hq3 => ?_)
            refine go_callV (rest := []) (st' := []) (c' := 0) (s' := 0) (pc := 72) C O miX11_283 mvX11_tell [.long (Int32.toInt64 v3)] rfl (mX11_tell hq3).1 (mX11_tell hq3).2 dX11_rests_72 ⟨by decide, by decide, by decide, by decide⟩ rfl (Nat.le_of_ble_eq_true rfl) rfl ⟨rfl, rfl⟩ ?_
            refine go_aload_n (pc := 75) C 0 dX11_rests_75 rfl ?_
            refine go_iload (pc := 76) C 4 dX11_rests_76 rfl ?_
            refine go_i2l (pc := 78) C dX11_rests_78 ?_
            refine go_bind (fun q4 hq4 => ?_)
            refine go_callV (rest := []) (st' := []) (c' := 0) (s' := 0) (pc := 79) C O miX11_283 mvX11_tell [.long (Int32.toInt64 v4)] rfl (mX11_tell hq4).1 (mX11_tell hq4).2 dX11_rests_79 ⟨by decide, by decide, by decide, by decide⟩ rfl (Nat.le_of_ble_eq_true rfl) rfl ⟨rfl, rfl⟩ ?_
            refine go_iincL (pc := 82) C 2 dX11_rests_82 rfl ki_1 (by decide) (fun x5 => [(2, .int x5), (0, .ref v0), (1, .int v1), (3, .int v3), (4, .int v4)]) (fun _ => rfl) (fun x5 => ?_)
            refine go_iincL (pc := 85) C 4 dX11_rests_85 rfl ki_1 (by decide) (fun x6 => [(4, .int x6), (2, .int x5), (0, .ref v0), (1, .int v1), (3, .int v3)]) (fun _ => rfl) (fun x6 => ?_)
            refine go_goto (pc := 88) C 35 dX11_rests_88 (by decide) ?_
            refine go_sub (ls' := [(0, .ref v0), (1, .int v1), (2, .int x5), (3, .int v3), (4, .int x6)]) [2, 3, 1, 4, 0] rfl ?_
            exact ih q4 v0 v1 x5 v3 x6
          · refine go_iincL (pc := 82) C 2 dX11_rests_82 rfl ki_1 (by decide) (fun x7 => [(2, .int x7), (0, .ref v0), (1, .int v1), (3, .int v3), (4, .int v4)]) (fun _ => rfl) (fun x7 => ?_)
            refine go_iincL (pc := 85) C 4 dX11_rests_85 rfl ki_1 (by decide) (fun x8 => [(4, .int x8), (2, .int x7), (0, .ref v0), (1, .int v1), (3, .int v3)]) (fun _ => rfl) (fun x8 => ?_)
            refine go_goto (pc := 88) C 35 dX11_rests_88 (by decide) ?_
            refine go_sub (ls' := [(0, .ref v0), (1, .int v1), (2, .int x7), (3, .int v3), (4, .int x8)]) [2, 3, 1, 4, 0] rfl ?_
            exact ih h v0 v1 x7 v3 x8
        · refine go_goto (pc := 62) C 85 dX11_rests_62 (by decide) ?_
          refine go_iincL (pc := 85) C 4 dX11_rests_85 rfl ki_1 (by decide) (fun x9 => [(4, .int x9), (0, .ref v0), (1, .int v1), (2, .int v2), (3, .int v3)]) (fun _ => rfl) (fun x9 => ?_)
          refine go_goto (pc := 88) C 35 dX11_rests_88 (by decide) ?_
          refine go_sub (ls' := [(0, .ref v0), (1, .int v1), (2, .int v2), (3, .int v3), (4, .int x9)]) [1, 2, 3, 4, 0] rfl ?_
          exact ih h v0 v1 v2 v3 x9
      · refine go_iincL (pc := 85) C 4 dX11_rests_85 rfl ki_1 (by decide) (fun x10 => [(4, .int x10), (0, .ref v0), (1, .int v1), (2, .int v2), (3, .int v3)]) (fun _ => rfl) (fun x10 => ?_)
        refine go_goto (pc := 88) C 35 dX11_rests_88 (by decide) ?_
        refine go_sub (ls' := [(0, .ref v0), (1, .int v1), (2, .int v2), (3, .int v3), (4, .int x10)]) [1, 2, 3, 4, 0] rfl ?_
        exact ih h v0 v1 v2 v3 x10
set_option maxHeartbeats 4000000 in
theorem gX11_rests_L26 {Y : YT} {X : XT} (C : CT Y X RX11 cX11_rests 5) (O : RO X 3 0 0) {r : Int32 × AH} (E : RX Y X (some .int) (some (.int r.1)) r.2 0 0) : ∀ (n : Nat) (h : AH) (v0 : Nat) (v1 : Int32) (v2 : Int32) (v3 : Int32), GO Y X 5 r h 0 0 26 [(0, .ref v0), (1, .int v1), (2, .int v2), (3, .int v3)] [] (fX11_rests_L26 n h v0 v1 v2 v3) := by
  intro n
  induction n with
  | zero => intros; exact go_none _ _ _
  | succ n ih =>
    intro h v0 v1 v2 v3
    rw [fX11_rests_L26]
    refine go_iload_n (pc := 26) C 3 dX11_rests_26 rfl ?_
    refine go_bipush (pc := 27) C dX11_rests_27 kb_9 ?_
    refine go_icmp_gt (pc := 29) C 97 dX11_rests_29 (by decide) (fun _ => ?_) (fun _ => ?_)
    · refine go_iload_n (pc := 97) C 2 dX11_rests_97 rfl ?_
      exact go_iret (w := wIh) (pc := 98) C E ((v2, h)) v2 dX11_rests_98 rfl
    · refine go_iconst (pc := 32) C dX11_rests_32 ki_0 ?_
      refine go_istore (ls' := [(4, .int 0), (0, .ref v0), (1, .int v1), (2, .int v2), (3, .int v3)]) (pc := 33) C dX11_rests_33 (by decide) rfl ?_
      refine go_sub (ls' := [(0, .ref v0), (1, .int v1), (2, .int v2), (3, .int v3), (4, .int 0)]) [1, 2, 3, 4, 0] rfl ?_
      refine gX11_rests_L35 C O E (fun h15 x11 x12 x13 x14 => ?_) FU h v0 v1 v2 v3 0
      · refine go_iincL (pc := 91) C 3 dX11_rests_91 rfl ki_1 (by decide) (fun x16 => [(3, .int x16), (0, .ref x11), (1, .int x12), (2, .int x13)]) (fun _ => rfl) (fun x16 => ?_)
        refine go_goto (pc := 94) C 26 dX11_rests_94 (by decide) ?_
        refine go_sub (ls' := [(0, .ref x11), (1, .int x12), (2, .int x13), (3, .int x16)]) [1, 2, 3, 0] rfl ?_
        exact ih h15 x11 x12 x13 x16
set_option maxHeartbeats 4000000 in
theorem mX11_rests {h : AH} {a0 : Nat} {a1 : Int32} {r : Int32 × AH} (hr : fX11_rests h a0 a1 = some r) : hasC h 11 a0 = true ∧ MC yX11_rests cX11_rests 5 (some .int) 3 0 0 [.ref a0, .int a1] h (some (.int r.1)) r.2 := by
  unfold fX11_rests at hr
  obtain ⟨hc, hr⟩ := if_some hr
  refine ⟨hc, mc_of (l0 := [(0, .ref a0), (1, .int a1)]) rfl pn_X11 (Nat.le_of_ble_eq_true rfl) (fun Y X C E O hnm => go_run hr ?_)⟩
  have C : CT Y X RX11 cX11_rests 5 := C
  refine go_aload_n (pc := 0) C 0 dX11_rests_0 rfl ?_
  refine go_iconst (pc := 1) C dX11_rests_1 ki_0 ?_
  refine go_pI (pc := 2) C fpX11_77 dX11_rests_2 (fun h17 => ?_)
  refine go_iload_n (pc := 5) C 1 dX11_rests_5 rfl ?_
  refine go_iconst (pc := 6) C dX11_rests_6 ki_0 ?_
  refine go_bipush (pc := 7) C dX11_rests_7 kb_20 ?_
  refine go_bind (fun q18 hq18 => ?_)
  refine go_callS (rest := []) (st' := [.int (b2i q18)]) (c' := 0) (s' := 0) (pc := 9) C O miX11_84 w_1437 [.int a1, .int 0, .int 20] rfl (mX11_in hq18) dX11_rests_9 ⟨by decide, by decide, by decide, by decide⟩ rfl (Nat.le_of_ble_eq_true rfl) rfl ⟨rfl, rfl⟩ ?_
  refine go_ifZ_ne (pc := 12) C 17 dX11_rests_12 (by decide) (fun _ => ?_) (fun _ => ?_)
  · refine go_iconst (pc := 17) C dX11_rests_17 ki_0 ?_
    refine go_istore_n (ls' := [(2, .int 0), (0, .ref a0), (1, .int a1)]) (pc := 18) C dX11_rests_18 (by decide) rfl ?_
    refine go_aload_n (pc := 19) C 1 dX11_rests_19 rfl ?_
    refine go_iconst (pc := 20) C dX11_rests_20 ki_0 ?_
    refine go_pI (pc := 21) C fpX11_81 dX11_rests_21 (fun h19 => ?_)
    refine go_iconst (pc := 24) C dX11_rests_24 ki_0 ?_
    refine go_istore_n (ls' := [(3, .int 0), (2, .int 0), (0, .ref a0), (1, .int a1)]) (pc := 25) C dX11_rests_25 (by decide) rfl ?_
    refine go_sub (ls' := [(0, .ref a0), (1, .int a1), (2, .int 0), (3, .int 0)]) [2, 3, 1, 0] rfl ?_
    refine gX11_rests_L26 C O E FU h19 a0 a1 0 0
  · refine go_iconst (pc := 15) C dX11_rests_15 ki_m1 ?_
    exact go_iret (w := wIh) (pc := 16) C E (((-1), h17)) ((-1)) dX11_rests_16 rfl
theorem dX11_layWritten_0 : decode cX11_layWritten 0 = .ok (.aload_n 0, 1) := by decide +kernel
theorem dX11_layWritten_1 : decode cX11_layWritten 1 = .ok (.getfield 9, 3) := by decide +kernel
theorem dX11_layWritten_4 : decode cX11_layWritten 4 = .ok (.invokestatic 369, 3) := by decide +kernel
theorem dX11_layWritten_7 : decode cX11_layWritten 7 = .ok (.istore_n 1, 1) := by decide +kernel
theorem dX11_layWritten_8 : decode cX11_layWritten 8 = .ok (.aload_n 0, 1) := by decide +kernel
theorem dX11_layWritten_9 : decode cX11_layWritten 9 = .ok (.getfield 9, 3) := by decide +kernel
theorem dX11_layWritten_12 : decode cX11_layWritten 12 = .ok (.aload_n 0, 1) := by decide +kernel
theorem dX11_layWritten_13 : decode cX11_layWritten 13 = .ok (.getfield 39, 3) := by decide +kernel
theorem dX11_layWritten_16 : decode cX11_layWritten 16 = .ok (.iconst 0, 1) := by decide +kernel
theorem dX11_layWritten_17 : decode cX11_layWritten 17 = .ok (.invokestatic 255, 3) := by decide +kernel
theorem dX11_layWritten_20 : decode cX11_layWritten 20 = .ok (.iconst 0, 1) := by decide +kernel
theorem dX11_layWritten_21 : decode cX11_layWritten 21 = .ok (.istore_n 2, 1) := by decide +kernel
theorem dX11_layWritten_22 : decode cX11_layWritten 22 = .ok (.iload_n 2, 1) := by decide +kernel
theorem dX11_layWritten_23 : decode cX11_layWritten 23 = .ok (.bipush 6, 2) := by decide +kernel
theorem dX11_layWritten_25 : decode cX11_layWritten 25 = .ok (.if_icmp .ge 46, 3) := by decide +kernel
theorem dX11_layWritten_28 : decode cX11_layWritten 28 = .ok (.iload_n 1, 1) := by decide +kernel
theorem dX11_layWritten_29 : decode cX11_layWritten 29 = .ok (.iload_n 2, 1) := by decide +kernel
theorem dX11_layWritten_30 : decode cX11_layWritten 30 = .ok (.invokestatic 312, 3) := by decide +kernel
theorem dX11_layWritten_33 : decode cX11_layWritten 33 = .ok (.ifCond .ne 6, 3) := by decide +kernel
theorem dX11_layWritten_36 : decode cX11_layWritten 36 = .ok (.goto 29, 3) := by decide +kernel
theorem dX11_layWritten_39 : decode cX11_layWritten 39 = .ok (.aload_n 0, 1) := by decide +kernel
theorem dX11_layWritten_40 : decode cX11_layWritten 40 = .ok (.aload_n 0, 1) := by decide +kernel
theorem dX11_layWritten_41 : decode cX11_layWritten 41 = .ok (.getfield 39, 3) := by decide +kernel
theorem dX11_layWritten_44 : decode cX11_layWritten 44 = .ok (.iload_n 2, 1) := by decide +kernel
theorem dX11_layWritten_45 : decode cX11_layWritten 45 = .ok (.iconst 0, 1) := by decide +kernel
theorem dX11_layWritten_46 : decode cX11_layWritten 46 = .ok (.bipush 7, 2) := by decide +kernel
theorem dX11_layWritten_48 : decode cX11_layWritten 48 = .ok (.invokevirtual 365, 3) := by decide +kernel
theorem dX11_layWritten_51 : decode cX11_layWritten 51 = .ok (.pop, 1) := by decide +kernel
theorem dX11_layWritten_52 : decode cX11_layWritten 52 = .ok (.aload_n 0, 1) := by decide +kernel
theorem dX11_layWritten_53 : decode cX11_layWritten 53 = .ok (.aload_n 0, 1) := by decide +kernel
theorem dX11_layWritten_54 : decode cX11_layWritten 54 = .ok (.getfield 39, 3) := by decide +kernel
theorem dX11_layWritten_57 : decode cX11_layWritten 57 = .ok (.iload_n 2, 1) := by decide +kernel
theorem dX11_layWritten_58 : decode cX11_layWritten 58 = .ok (.iconst 1, 1) := by decide +kernel
theorem dX11_layWritten_59 : decode cX11_layWritten 59 = .ok (.bipush 7, 2) := by decide +kernel
theorem dX11_layWritten_61 : decode cX11_layWritten 61 = .ok (.invokevirtual 365, 3) := by decide +kernel
theorem dX11_layWritten_64 : decode cX11_layWritten 64 = .ok (.pop, 1) := by decide +kernel
theorem dX11_layWritten_65 : decode cX11_layWritten 65 = .ok (.iinc 2 1, 3) := by decide +kernel
theorem dX11_layWritten_68 : decode cX11_layWritten 68 = .ok (.goto (-46), 3) := by decide +kernel
theorem dX11_layWritten_71 : decode cX11_layWritten 71 = .ok (.return_, 1) := by decide +kernel
def fX11_layWritten_L22 : Nat → AH → Nat → Int32 → Int32 → Option (AH)
  | 0, _, _, _, _ => none
  | n + 1, h, v0, v1, v2 =>
    if 6 ≤ v2 then (
      some h
    ) else (
      (fX11_has h v1 v2).bind fun q1 =>
      if q1 = true then (
        (gR h 11 v0 20).bind fun x2 =>
        (fX11_tryWrite h v0 x2 v2 0 7).bind fun q3 =>
        (gR q3.2 11 v0 20).bind fun x4 =>
        (fX11_tryWrite q3.2 v0 x4 v2 1 7).bind fun q5 =>
        letF (v2 + 1 : Int32) fun x6 =>
        fX11_layWritten_L22 n q5.2 v0 v1 x6
      ) else (
        letF (v2 + 1 : Int32) fun x7 =>
        fX11_layWritten_L22 n h v0 v1 x7
      )
    )
def fX11_layWritten (h : AH) (a0 : Nat) : Option (AH) :=
  if hasC h 11 a0 = true then (
    (gR h 11 a0 0).bind fun x8 =>
    (fX11_spacesOf h x8).bind fun q9 =>
    (gR h 11 a0 0).bind fun x10 =>
    (gR h 11 a0 20).bind fun x11 =>
    (fX11_lay h x10 x11 0).bind fun q12 =>
    fX11_layWritten_L22 FU q12 a0 q9 0
  ) else none
set_option maxHeartbeats 4000000 in
theorem gX11_layWritten_L22 {Y : YT} {X : XT} (C : CT Y X RX11 cX11_layWritten 3) (O : RO X 211 0 0) {r : AH} (E : RX Y X none none r 0 0) : ∀ (n : Nat) (h : AH) (v0 : Nat) (v1 : Int32) (v2 : Int32), GO Y X 3 r h 0 0 22 [(0, .ref v0), (1, .int v1), (2, .int v2)] [] (fX11_layWritten_L22 n h v0 v1 v2) := by
  intro n
  induction n with
  | zero => intros; exact go_none _ _ _
  | succ n ih =>
    intro h v0 v1 v2
    rw [fX11_layWritten_L22]
    refine go_iload_n (pc := 22) C 2 dX11_layWritten_22 rfl ?_
    refine go_bipush (pc := 23) C dX11_layWritten_23 kb_6 ?_
    refine go_icmp_ge (pc := 25) C 71 dX11_layWritten_25 (by decide) (fun _ => ?_) (fun _ => ?_)
    · exact go_vret (w := wV) (pc := 71) C E h dX11_layWritten_71 rfl
    · refine go_iload_n (pc := 28) C 1 dX11_layWritten_28 rfl ?_
      refine go_iload_n (pc := 29) C 2 dX11_layWritten_29 rfl ?_
      refine go_bind (fun q1 hq1 => ?_)
      refine go_callS (rest := []) (st' := [.int (b2i q1)]) (c' := 0) (s' := 0) (pc := 30) C O miX11_312 w_1686 [.int v1, .int v2] rfl (mX11_has hq1) dX11_layWritten_30 ⟨by decide, by decide, by decide, by decide⟩ rfl (Nat.le_of_ble_eq_true rfl) rfl ⟨rfl, rfl⟩ ?_
      refine go_ifZ_ne (pc := 33) C 39 dX11_layWritten_33 (by decide) (fun _ => ?_) (fun _ => ?_)
      · refine go_aload_n (pc := 39) C 0 dX11_layWritten_39 rfl ?_
        refine go_aload_n (pc := 40) C 0 dX11_layWritten_40 rfl ?_
        refine go_gR (pc := 41) C fdX11_39 dX11_layWritten_41 (fun x2 => ?_)
        refine go_iload_n (pc := 44) C 2 dX11_layWritten_44 rfl ?_
        refine go_iconst (pc := 45) C dX11_layWritten_45 ki_0 ?_
        refine go_bipush (pc := 46) C dX11_layWritten_46 kb_7 ?_
        refine go_bind (fun q3 hq3 => ?_)
        refine go_callV (rest := []) (st' := [.int (b2i q3.1)]) (c' := 0) (s' := 0) (pc := 48) C O miX11_365 mvX11_tryWrite [.ref x2, .int v2, .int 0, .int 7] rfl (mX11_tryWrite hq3).1 (mX11_tryWrite hq3).2 dX11_layWritten_48 ⟨by decide, by decide, by decide, by decide⟩ rfl (Nat.le_of_ble_eq_true rfl) rfl ⟨rfl, rfl⟩ ?_
        refine go_pop (pc := 51) C dX11_layWritten_51 rfl ?_
        refine go_aload_n (pc := 52) C 0 dX11_layWritten_52 rfl ?_
        refine go_aload_n (pc := 53) C 0 dX11_layWritten_53 rfl ?_
        refine go_gR (pc := 54) C fdX11_39 dX11_layWritten_54 (fun x4 => ?_)
        refine go_iload_n (pc := 57) C 2 dX11_layWritten_57 rfl ?_
        refine go_iconst (pc := 58) C dX11_layWritten_58 ki_1 ?_
        refine go_bipush (pc := 59) C dX11_layWritten_59 kb_7 ?_
        refine go_bind (fun q5 hq5 => ?_)
        refine go_callV (rest := []) (st' := [.int (b2i q5.1)]) (c' := 0) (s' := 0) (pc := 61) C O miX11_365 mvX11_tryWrite [.ref x4, .int v2, .int 1, .int 7] rfl (mX11_tryWrite hq5).1 (mX11_tryWrite hq5).2 dX11_layWritten_61 ⟨by decide, by decide, by decide, by decide⟩ rfl (Nat.le_of_ble_eq_true rfl) rfl ⟨rfl, rfl⟩ ?_
        refine go_pop (pc := 64) C dX11_layWritten_64 rfl ?_
        refine go_iincL (pc := 65) C 2 dX11_layWritten_65 rfl ki_1 (by decide) (fun x6 => [(2, .int x6), (0, .ref v0), (1, .int v1)]) (fun _ => rfl) (fun x6 => ?_)
        refine go_goto (pc := 68) C 22 dX11_layWritten_68 (by decide) ?_
        refine go_sub (ls' := [(0, .ref v0), (1, .int v1), (2, .int x6)]) [1, 2, 0] rfl ?_
        exact ih q5.2 v0 v1 x6
      · refine go_goto (pc := 36) C 65 dX11_layWritten_36 (by decide) ?_
        refine go_iincL (pc := 65) C 2 dX11_layWritten_65 rfl ki_1 (by decide) (fun x7 => [(2, .int x7), (0, .ref v0), (1, .int v1)]) (fun _ => rfl) (fun x7 => ?_)
        refine go_goto (pc := 68) C 22 dX11_layWritten_68 (by decide) ?_
        refine go_sub (ls' := [(0, .ref v0), (1, .int v1), (2, .int x7)]) [1, 2, 0] rfl ?_
        exact ih h v0 v1 x7
set_option maxHeartbeats 4000000 in
theorem mX11_layWritten {h : AH} {a0 : Nat} {r : AH} (hr : fX11_layWritten h a0 = some r) : hasC h 11 a0 = true ∧ MC yX11_layWritten cX11_layWritten 3 none 211 0 0 [.ref a0] h none r := by
  unfold fX11_layWritten at hr
  obtain ⟨hc, hr⟩ := if_some hr
  refine ⟨hc, mc_of (l0 := [(0, .ref a0)]) rfl pn_X11 (Nat.le_of_ble_eq_true rfl) (fun Y X C E O hnm => go_run hr ?_)⟩
  have C : CT Y X RX11 cX11_layWritten 3 := C
  refine go_aload_n (pc := 0) C 0 dX11_layWritten_0 rfl ?_
  refine go_gR (pc := 1) C fdX11_9 dX11_layWritten_1 (fun x8 => ?_)
  refine go_bind (fun q9 hq9 => ?_)
  refine go_callS (rest := []) (st' := [.int q9]) (c' := 0) (s' := 0) (pc := 4) C O miX11_369 w_1791 [.ref x8] rfl (mX11_spacesOf hq9) dX11_layWritten_4 ⟨by decide, by decide, by decide, by decide⟩ rfl (Nat.le_of_ble_eq_true rfl) rfl ⟨rfl, rfl⟩ ?_
  refine go_istore_n (ls' := [(1, .int q9), (0, .ref a0)]) (pc := 7) C dX11_layWritten_7 (by decide) rfl ?_
  refine go_aload_n (pc := 8) C 1 dX11_layWritten_8 rfl ?_
  refine go_gR (pc := 9) C fdX11_9 dX11_layWritten_9 (fun x10 => ?_)
  refine go_aload_n (pc := 12) C 1 dX11_layWritten_12 rfl ?_
  refine go_gR (pc := 13) C fdX11_39 dX11_layWritten_13 (fun x11 => ?_)
  refine go_iconst (pc := 16) C dX11_layWritten_16 ki_0 ?_
  refine go_bind (fun q12 hq12 => ?_)
  refine go_callS (rest := []) (st' := []) (c' := 0) (s' := 0) (pc := 17) C O miX11_255 w_1502 [.ref x10, .ref x11, .int 0] rfl (mX11_lay hq12) dX11_layWritten_17 ⟨by decide, by decide, by decide, by decide⟩ rfl (Nat.le_of_ble_eq_true rfl) rfl ⟨rfl, rfl⟩ ?_
  refine go_iconst (pc := 20) C dX11_layWritten_20 ki_0 ?_
  refine go_istore_n (ls' := [(2, .int 0), (1, .int q9), (0, .ref a0)]) (pc := 21) C dX11_layWritten_21 (by decide) rfl ?_
  refine go_sub (ls' := [(0, .ref a0), (1, .int q9), (2, .int 0)]) [2, 1, 0] rfl ?_
  refine gX11_layWritten_L22 C O E FU q12 a0 q9 0
theorem dX11_law_0 : decode cX11_law 0 = .ok (.aload_n 0, 1) := by decide +kernel
theorem dX11_law_1 : decode cX11_law 1 = .ok (.iconst 0, 1) := by decide +kernel
theorem dX11_law_2 : decode cX11_law 2 = .ok (.putfield 77, 3) := by decide +kernel
theorem dX11_law_5 : decode cX11_law 5 = .ok (.aload_n 0, 1) := by decide +kernel
theorem dX11_law_6 : decode cX11_law 6 = .ok (.getfield 123, 3) := by decide +kernel
theorem dX11_law_9 : decode cX11_law 9 = .ok (.istore_n 1, 1) := by decide +kernel
theorem dX11_law_10 : decode cX11_law 10 = .ok (.aload_n 0, 1) := by decide +kernel
theorem dX11_law_11 : decode cX11_law 11 = .ok (.invokevirtual 218, 3) := by decide +kernel
theorem dX11_law_14 : decode cX11_law 14 = .ok (.ifCond .ne 12, 3) := by decide +kernel
theorem dX11_law_17 : decode cX11_law 17 = .ok (.sipush (-10000), 3) := by decide +kernel
theorem dX11_law_20 : decode cX11_law 20 = .ok (.aload_n 0, 1) := by decide +kernel
theorem dX11_law_21 : decode cX11_law 21 = .ok (.getfield 138, 3) := by decide +kernel
theorem dX11_law_24 : decode cX11_law 24 = .ok (.isub, 1) := by decide +kernel
theorem dX11_law_25 : decode cX11_law 25 = .ok (.ireturn, 1) := by decide +kernel
theorem dX11_law_26 : decode cX11_law 26 = .ok (.aload_n 0, 1) := by decide +kernel
theorem dX11_law_27 : decode cX11_law 27 = .ok (.invokevirtual 413, 3) := by decide +kernel
theorem dX11_law_30 : decode cX11_law 30 = .ok (.aload_n 0, 1) := by decide +kernel
theorem dX11_law_31 : decode cX11_law 31 = .ok (.getfield 39, 3) := by decide +kernel
theorem dX11_law_34 : decode cX11_law 34 = .ok (.invokestatic 181, 3) := by decide +kernel
theorem dX11_law_37 : decode cX11_law 37 = .ok (.istore_n 2, 1) := by decide +kernel
theorem dX11_law_38 : decode cX11_law 38 = .ok (.aload_n 0, 1) := by decide +kernel
theorem dX11_law_39 : decode cX11_law 39 = .ok (.getfield 39, 3) := by decide +kernel
theorem dX11_law_42 : decode cX11_law 42 = .ok (.invokestatic 224, 3) := by decide +kernel
theorem dX11_law_45 : decode cX11_law 45 = .ok (.invokestatic 100, 3) := by decide +kernel
theorem dX11_law_48 : decode cX11_law 48 = .ok (.istore_n 3, 1) := by decide +kernel
theorem dX11_law_49 : decode cX11_law 49 = .ok (.aload_n 0, 1) := by decide +kernel
theorem dX11_law_50 : decode cX11_law 50 = .ok (.getfield 24, 3) := by decide +kernel
theorem dX11_law_53 : decode cX11_law 53 = .ok (.astore 4, 2) := by decide +kernel
theorem dX11_law_55 : decode cX11_law 55 = .ok (.aload_n 0, 1) := by decide +kernel
theorem dX11_law_56 : decode cX11_law 56 = .ok (.getfield 221, 3) := by decide +kernel
theorem dX11_law_59 : decode cX11_law 59 = .ok (.istore 5, 2) := by decide +kernel
theorem dX11_law_61 : decode cX11_law 61 = .ok (.aload_n 0, 1) := by decide +kernel
theorem dX11_law_62 : decode cX11_law 62 = .ok (.aload_n 0, 1) := by decide +kernel
theorem dX11_law_63 : decode cX11_law 63 = .ok (.getfield 27, 3) := by decide +kernel
theorem dX11_law_66 : decode cX11_law 66 = .ok (.putfield 24, 3) := by decide +kernel
theorem dX11_law_69 : decode cX11_law 69 = .ok (.aload_n 0, 1) := by decide +kernel
theorem dX11_law_70 : decode cX11_law 70 = .ok (.iload_n 1, 1) := by decide +kernel
theorem dX11_law_71 : decode cX11_law 71 = .ok (.putfield 221, 3) := by decide +kernel
theorem dX11_law_74 : decode cX11_law 74 = .ok (.iconst 0, 1) := by decide +kernel
theorem dX11_law_75 : decode cX11_law 75 = .ok (.istore 6, 2) := by decide +kernel
theorem dX11_law_77 : decode cX11_law 77 = .ok (.iload 6, 2) := by decide +kernel
theorem dX11_law_79 : decode cX11_law 79 = .ok (.iload_n 1, 1) := by decide +kernel
theorem dX11_law_80 : decode cX11_law 80 = .ok (.if_icmp .ge 23, 3) := by decide +kernel
theorem dX11_law_83 : decode cX11_law 83 = .ok (.aload_n 0, 1) := by decide +kernel
theorem dX11_law_84 : decode cX11_law 84 = .ok (.getfield 24, 3) := by decide +kernel
theorem dX11_law_87 : decode cX11_law 87 = .ok (.iload 6, 2) := by decide +kernel
theorem dX11_law_89 : decode cX11_law 89 = .ok (.aload_n 0, 1) := by decide +kernel
theorem dX11_law_90 : decode cX11_law 90 = .ok (.getfield 13, 3) := by decide +kernel
theorem dX11_law_93 : decode cX11_law 93 = .ok (.iload 6, 2) := by decide +kernel
theorem dX11_law_95 : decode cX11_law 95 = .ok (.baload, 1) := by decide +kernel
theorem dX11_law_96 : decode cX11_law 96 = .ok (.bastore, 1) := by decide +kernel
theorem dX11_law_97 : decode cX11_law 97 = .ok (.iinc 6 1, 3) := by decide +kernel
theorem dX11_law_100 : decode cX11_law 100 = .ok (.goto (-23), 3) := by decide +kernel
theorem dX11_law_103 : decode cX11_law 103 = .ok (.aload_n 0, 1) := by decide +kernel
theorem dX11_law_104 : decode cX11_law 104 = .ok (.invokevirtual 413, 3) := by decide +kernel
theorem dX11_law_107 : decode cX11_law 107 = .ok (.aload_n 0, 1) := by decide +kernel
theorem dX11_law_108 : decode cX11_law 108 = .ok (.aload 4, 2) := by decide +kernel
theorem dX11_law_110 : decode cX11_law 110 = .ok (.putfield 24, 3) := by decide +kernel
theorem dX11_law_113 : decode cX11_law 113 = .ok (.aload_n 0, 1) := by decide +kernel
theorem dX11_law_114 : decode cX11_law 114 = .ok (.iload 5, 2) := by decide +kernel
theorem dX11_law_116 : decode cX11_law 116 = .ok (.putfield 221, 3) := by decide +kernel
theorem dX11_law_119 : decode cX11_law 119 = .ok (.aload_n 0, 1) := by decide +kernel
theorem dX11_law_120 : decode cX11_law 120 = .ok (.iconst 0, 1) := by decide +kernel
theorem dX11_law_121 : decode cX11_law 121 = .ok (.putfield 81, 3) := by decide +kernel
theorem dX11_law_124 : decode cX11_law 124 = .ok (.aload_n 0, 1) := by decide +kernel
theorem dX11_law_125 : decode cX11_law 125 = .ok (.aload_n 0, 1) := by decide +kernel
theorem dX11_law_126 : decode cX11_law 126 = .ok (.getfield 39, 3) := by decide +kernel
theorem dX11_law_129 : decode cX11_law 129 = .ok (.invokestatic 181, 3) := by decide +kernel
theorem dX11_law_132 : decode cX11_law 132 = .ok (.i2l, 1) := by decide +kernel
theorem dX11_law_133 : decode cX11_law 133 = .ok (.invokevirtual 283, 3) := by decide +kernel
theorem dX11_law_136 : decode cX11_law 136 = .ok (.aload_n 0, 1) := by decide +kernel
theorem dX11_law_137 : decode cX11_law 137 = .ok (.iload_n 2, 1) := by decide +kernel
theorem dX11_law_138 : decode cX11_law 138 = .ok (.i2l, 1) := by decide +kernel
theorem dX11_law_139 : decode cX11_law 139 = .ok (.invokevirtual 283, 3) := by decide +kernel
theorem dX11_law_142 : decode cX11_law 142 = .ok (.aload_n 0, 1) := by decide +kernel
theorem dX11_law_143 : decode cX11_law 143 = .ok (.aload_n 0, 1) := by decide +kernel
theorem dX11_law_144 : decode cX11_law 144 = .ok (.getfield 39, 3) := by decide +kernel
theorem dX11_law_147 : decode cX11_law 147 = .ok (.invokestatic 224, 3) := by decide +kernel
theorem dX11_law_150 : decode cX11_law 150 = .ok (.invokestatic 100, 3) := by decide +kernel
theorem dX11_law_153 : decode cX11_law 153 = .ok (.i2l, 1) := by decide +kernel
theorem dX11_law_154 : decode cX11_law 154 = .ok (.invokevirtual 283, 3) := by decide +kernel
theorem dX11_law_157 : decode cX11_law 157 = .ok (.aload_n 0, 1) := by decide +kernel
theorem dX11_law_158 : decode cX11_law 158 = .ok (.iload_n 3, 1) := by decide +kernel
theorem dX11_law_159 : decode cX11_law 159 = .ok (.i2l, 1) := by decide +kernel
theorem dX11_law_160 : decode cX11_law 160 = .ok (.invokevirtual 283, 3) := by decide +kernel
theorem dX11_law_163 : decode cX11_law 163 = .ok (.aload_n 0, 1) := by decide +kernel
theorem dX11_law_164 : decode cX11_law 164 = .ok (.getfield 39, 3) := by decide +kernel
theorem dX11_law_167 : decode cX11_law 167 = .ok (.invokestatic 181, 3) := by decide +kernel
theorem dX11_law_170 : decode cX11_law 170 = .ok (.iload_n 2, 1) := by decide +kernel
theorem dX11_law_171 : decode cX11_law 171 = .ok (.isub, 1) := by decide +kernel
theorem dX11_law_172 : decode cX11_law 172 = .ok (.ireturn, 1) := by decide +kernel
def fX11_law_L77 (k103 : AH → Nat → Int32 → Int32 → Nat → Int32 → Option (Int32 × AH)) : Nat → AH → Nat → Int32 → Int32 → Int32 → Nat → Int32 → Int32 → Option (Int32 × AH)
  | 0, _, _, _, _, _, _, _, _ => none
  | n + 1, h, v0, v1, v2, v3, v4, v5, v6 =>
    if v1 ≤ v6 then (
      k103 h v0 v2 v3 v4 v5
    ) else (
      (gR h 11 v0 12).bind fun x1 =>
      (gR h 11 v0 1).bind fun x2 =>
      (aI h 3 x2 v6).bind fun x3 =>
      (sI h 3 x1 v6 x3).bind fun h4 =>
      letF (v6 + 1 : Int32) fun x5 =>
      fX11_law_L77 k103 n h4 v0 v1 v2 v3 v4 v5 x5
    )
def fX11_law (h : AH) (a0 : Nat) : Option (Int32 × AH) :=
  if hasC h 11 a0 = true then (
    (pF h 11 a0 5 (.int 0)).bind fun h6 =>
    (gI h6 11 a0 2).bind fun x7 =>
    (fX11_readRule h6 a0).bind fun q8 =>
    if q8.1 = true then (
      (fX11_layWritten q8.2 a0).bind fun q9 =>
      (gR q9 11 a0 20).bind fun x10 =>
      (fX11_framesOf q9 x10).bind fun q11 =>
      (gR q9 11 a0 20).bind fun x12 =>
      (fX11_objectsOf q9 x12).bind fun q13 =>
      (fJ6_bitCount_0f7a4 q9 q13).bind fun q14 =>
      (gR q9 11 a0 12).bind fun x15 =>
      (gI q9 11 a0 14).bind fun x16 =>
      (gR q9 11 a0 13).bind fun x17 =>
      (pF q9 11 a0 12 (.ref x17)).bind fun h18 =>
      (pF h18 11 a0 14 (.int x7)).bind fun h19 =>
      fX11_law_L77
        (fun h25 x20 x21 x22 x23 x24 =>
          (fX11_layWritten h25 x20).bind fun q26 =>
          (pF q26 11 x20 12 (.ref x23)).bind fun h27 =>
          (pF h27 11 x20 14 (.int x24)).bind fun h28 =>
          (pF h28 11 x20 4 (.int 0)).bind fun h29 =>
          (gR h29 11 x20 20).bind fun x30 =>
          (fX11_framesOf h29 x30).bind fun q31 =>
          (fX11_tell h29 x20 (Int32.toInt64 q31)).bind fun q32 =>
          (fX11_tell q32 x20 (Int32.toInt64 x21)).bind fun q33 =>
          (gR q33 11 x20 20).bind fun x34 =>
          (fX11_objectsOf q33 x34).bind fun q35 =>
          (fJ6_bitCount_0f7a4 q33 q35).bind fun q36 =>
          (fX11_tell q33 x20 (Int32.toInt64 q36)).bind fun q37 =>
          (fX11_tell q37 x20 (Int32.toInt64 x22)).bind fun q38 =>
          (gR q38 11 x20 20).bind fun x39 =>
          (fX11_framesOf q38 x39).bind fun q40 =>
          some ((q40 - x21, q38)))
        FU h19 a0 x7 q11 q14 x15 x16 0
    ) else (
      (gI q8.2 11 a0 10).bind fun x41 =>
      some ((((-10000)) - x41, q8.2))
    )
  ) else none
set_option maxHeartbeats 4000000 in
theorem gX11_law_L77 {Y : YT} {X : XT} (C : CT Y X RX11 cX11_law 7) (O : RO X 212 0 0) {r : Int32 × AH} (E : RX Y X (some .int) (some (.int r.1)) r.2 0 0) {k103 : AH → Nat → Int32 → Int32 → Nat → Int32 → Option (Int32 × AH)} (hk103 : ∀ (h : AH) (v0 : Nat) (v2 : Int32) (v3 : Int32) (v4 : Nat) (v5 : Int32), GO Y X 7 r h 0 0 103 [(0, .ref v0), (2, .int v2), (3, .int v3), (4, .ref v4), (5, .int v5)] [] (k103 h v0 v2 v3 v4 v5)) : ∀ (n : Nat) (h : AH) (v0 : Nat) (v1 : Int32) (v2 : Int32) (v3 : Int32) (v4 : Nat) (v5 : Int32) (v6 : Int32), GO Y X 7 r h 0 0 77 [(0, .ref v0), (1, .int v1), (2, .int v2), (3, .int v3), (4, .ref v4), (5, .int v5), (6, .int v6)] [] (fX11_law_L77 k103 n h v0 v1 v2 v3 v4 v5 v6) := by
  intro n
  induction n with
  | zero => intros; exact go_none _ _ _
  | succ n ih =>
    intro h v0 v1 v2 v3 v4 v5 v6
    rw [fX11_law_L77]
    refine go_iload (pc := 77) C 6 dX11_law_77 rfl ?_
    refine go_iload_n (pc := 79) C 1 dX11_law_79 rfl ?_
    refine go_icmp_ge (pc := 80) C 103 dX11_law_80 (by decide) (fun _ => ?_) (fun _ => ?_)
    · refine go_sub (ls' := [(0, .ref v0), (2, .int v2), (3, .int v3), (4, .ref v4), (5, .int v5)]) [0, 2, 3, 4, 5] rfl ?_
      exact hk103 h v0 v2 v3 v4 v5
    · refine go_aload_n (pc := 83) C 0 dX11_law_83 rfl ?_
      refine go_gR (pc := 84) C fdX11_24 dX11_law_84 (fun x1 => ?_)
      refine go_iload (pc := 87) C 6 dX11_law_87 rfl ?_
      refine go_aload_n (pc := 89) C 0 dX11_law_89 rfl ?_
      refine go_gR (pc := 90) C fdX11_13 dX11_law_90 (fun x2 => ?_)
      refine go_iload (pc := 93) C 6 dX11_law_93 rfl ?_
      refine go_bald (pc := 95) C dX11_law_95 (fun x3 => ?_)
      refine go_bast (pc := 96) C dX11_law_96 (fun h4 => ?_)
      refine go_iincL (pc := 97) C 6 dX11_law_97 rfl ki_1 (by decide) (fun x5 => [(6, .int x5), (0, .ref v0), (1, .int v1), (2, .int v2), (3, .int v3), (4, .ref v4), (5, .int v5)]) (fun _ => rfl) (fun x5 => ?_)
      refine go_goto (pc := 100) C 77 dX11_law_100 (by decide) ?_
      refine go_sub (ls' := [(0, .ref v0), (1, .int v1), (2, .int v2), (3, .int v3), (4, .ref v4), (5, .int v5), (6, .int x5)]) [1, 2, 3, 4, 5, 6, 0] rfl ?_
      exact ih h4 v0 v1 v2 v3 v4 v5 x5
set_option maxHeartbeats 4000000 in
theorem mX11_law {h : AH} {a0 : Nat} {r : Int32 × AH} (hr : fX11_law h a0 = some r) : hasC h 11 a0 = true ∧ MC yX11_law cX11_law 7 (some .int) 212 0 0 [.ref a0] h (some (.int r.1)) r.2 := by
  unfold fX11_law at hr
  obtain ⟨hc, hr⟩ := if_some hr
  refine ⟨hc, mc_of (l0 := [(0, .ref a0)]) rfl pn_X11 (Nat.le_of_ble_eq_true rfl) (fun Y X C E O hnm => go_run hr ?_)⟩
  have C : CT Y X RX11 cX11_law 7 := C
  refine go_aload_n (pc := 0) C 0 dX11_law_0 rfl ?_
  refine go_iconst (pc := 1) C dX11_law_1 ki_0 ?_
  refine go_pI (pc := 2) C fpX11_77 dX11_law_2 (fun h6 => ?_)
  refine go_aload_n (pc := 5) C 0 dX11_law_5 rfl ?_
  refine go_gI (pc := 6) C fdX11_123 dX11_law_6 (fun x7 => ?_)
  refine go_istore_n (ls' := [(1, .int x7), (0, .ref a0)]) (pc := 9) C dX11_law_9 (by decide) rfl ?_
  refine go_aload_n (pc := 10) C 1 dX11_law_10 rfl ?_
  refine go_bind (fun q8 hq8 => ?_)
  refine go_callV (rest := []) (st' := [.int (b2i q8.1)]) (c' := 0) (s' := 0) (pc := 11) C O miX11_218 mvX11_readRule [] rfl (mX11_readRule hq8).1 (mX11_readRule hq8).2 dX11_law_11 ⟨by decide, by decide, by decide, by decide⟩ rfl (Nat.le_of_ble_eq_true rfl) rfl ⟨rfl, rfl⟩ ?_
  refine go_ifZ_ne (pc := 14) C 26 dX11_law_14 (by decide) (fun _ => ?_) (fun _ => ?_)
  · refine go_aload_n (pc := 26) C 1 dX11_law_26 rfl ?_
    refine go_bind (fun q9 hq9 => ?_)
    refine go_callV (rest := []) (st' := []) (c' := 0) (s' := 0) (pc := 27) C O miX11_413 mvX11_layWritten [] rfl (mX11_layWritten hq9).1 (mX11_layWritten hq9).2 dX11_law_27 ⟨by decide, by decide, by decide, by decide⟩ rfl (Nat.le_of_ble_eq_true rfl) rfl ⟨rfl, rfl⟩ ?_
    refine go_aload_n (pc := 30) C 1 dX11_law_30 rfl ?_
    refine go_gR (pc := 31) C fdX11_39 dX11_law_31 (fun x10 => ?_)
    refine go_bind (fun q11 hq11 => ?_)
    refine go_callS (rest := []) (st' := [.int q11]) (c' := 0) (s' := 0) (pc := 34) C O miX11_181 w_1488 [.ref x10] rfl (mX11_framesOf hq11) dX11_law_34 ⟨by decide, by decide, by decide, by decide⟩ rfl (Nat.le_of_ble_eq_true rfl) rfl ⟨rfl, rfl⟩ ?_
    refine go_istore_n (ls' := [(2, .int q11), (1, .int x7), (0, .ref a0)]) (pc := 37) C dX11_law_37 (by decide) rfl ?_
    refine go_aload_n (pc := 38) C 2 dX11_law_38 rfl ?_
    refine go_gR (pc := 39) C fdX11_39 dX11_law_39 (fun x12 => ?_)
    refine go_bind (fun q13 hq13 => ?_)
    refine go_callS (rest := []) (st' := [.int q13]) (c' := 0) (s' := 0) (pc := 42) C O miX11_224 w_1562 [.ref x12] rfl (mX11_objectsOf hq13) dX11_law_42 ⟨by decide, by decide, by decide, by decide⟩ rfl (Nat.le_of_ble_eq_true rfl) rfl ⟨rfl, rfl⟩ ?_
    refine go_bind (fun q14 hq14 => ?_)
    refine go_callS (rest := []) (st' := [.int q14]) (c' := 0) (s' := 0) (pc := 45) C O miX11_100 w_397 [.int q13] rfl (mJ6_bitCount_0f7a4 hq14) dX11_law_45 ⟨by decide, by decide, by decide, by decide⟩ rfl (Nat.le_of_ble_eq_true rfl) rfl ⟨rfl, rfl⟩ ?_
    refine go_istore_n (ls' := [(3, .int q14), (2, .int q11), (1, .int x7), (0, .ref a0)]) (pc := 48) C dX11_law_48 (by decide) rfl ?_
    refine go_aload_n (pc := 49) C 3 dX11_law_49 rfl ?_
    refine go_gR (pc := 50) C fdX11_24 dX11_law_50 (fun x15 => ?_)
    refine go_astore (ls' := [(4, .ref x15), (3, .int q14), (2, .int q11), (1, .int x7), (0, .ref a0)]) (pc := 53) C dX11_law_53 (by decide) rfl ?_
    refine go_aload_n (pc := 55) C 4 dX11_law_55 rfl ?_
    refine go_gI (pc := 56) C fdX11_221 dX11_law_56 (fun x16 => ?_)
    refine go_istore (ls' := [(5, .int x16), (4, .ref x15), (3, .int q14), (2, .int q11), (1, .int x7), (0, .ref a0)]) (pc := 59) C dX11_law_59 (by decide) rfl ?_
    refine go_aload_n (pc := 61) C 5 dX11_law_61 rfl ?_
    refine go_aload_n (pc := 62) C 5 dX11_law_62 rfl ?_
    refine go_gR (pc := 63) C fdX11_27 dX11_law_63 (fun x17 => ?_)
    refine go_pR (pc := 66) C fpX11_24 dX11_law_66 (fun _ => rfl) (fun _ => rfl) (fun h18 => ?_)
    refine go_aload_n (pc := 69) C 5 dX11_law_69 rfl ?_
    refine go_iload_n (pc := 70) C 4 dX11_law_70 rfl ?_
    refine go_pI (pc := 71) C fpX11_221 dX11_law_71 (fun h19 => ?_)
    refine go_iconst (pc := 74) C dX11_law_74 ki_0 ?_
    refine go_istore (ls' := [(6, .int 0), (5, .int x16), (4, .ref x15), (3, .int q14), (2, .int q11), (1, .int x7), (0, .ref a0)]) (pc := 75) C dX11_law_75 (by decide) rfl ?_
    refine go_sub (ls' := [(0, .ref a0), (1, .int x7), (2, .int q11), (3, .int q14), (4, .ref x15), (5, .int x16), (6, .int 0)]) [6, 5, 4, 3, 2, 1, 0] rfl ?_
    refine gX11_law_L77 C O E (fun h25 x20 x21 x22 x23 x24 => ?_) FU h19 a0 x7 q11 q14 x15 x16 0
    · refine go_aload_n (pc := 103) C 0 dX11_law_103 rfl ?_
      refine go_bind (fun q26 hq26 => ?_)
      refine go_callV (rest := []) (st' := []) (c' := 0) (s' := 0) (pc := 104) C O miX11_413 mvX11_layWritten [] rfl (mX11_layWritten hq26).1 (mX11_layWritten hq26).2 dX11_law_104 ⟨by decide, by decide, by decide, by decide⟩ rfl (Nat.le_of_ble_eq_true rfl) rfl ⟨rfl, rfl⟩ ?_
      refine go_aload_n (pc := 107) C 0 dX11_law_107 rfl ?_
      refine go_aload (pc := 108) C 3 dX11_law_108 rfl ?_
      refine go_pR (pc := 110) C fpX11_24 dX11_law_110 (fun _ => rfl) (fun _ => rfl) (fun h27 => ?_)
      refine go_aload_n (pc := 113) C 0 dX11_law_113 rfl ?_
      refine go_iload (pc := 114) C 4 dX11_law_114 rfl ?_
      refine go_pI (pc := 116) C fpX11_221 dX11_law_116 (fun h28 => ?_)
      refine go_aload_n (pc := 119) C 0 dX11_law_119 rfl ?_
      refine go_iconst (pc := 120) C dX11_law_120 ki_0 ?_
      refine go_pI (pc := 121) C fpX11_81 dX11_law_121 (fun h29 => ?_)
      refine go_aload_n (pc := 124) C 0 dX11_law_124 rfl ?_
      refine go_aload_n (pc := 125) C 0 dX11_law_125 rfl ?_
      refine go_gR (pc := 126) C fdX11_39 dX11_law_126 (fun x30 => ?_)
      refine go_bind (fun q31 hq31 => ?_)
      refine go_callS (rest := [.ref x20]) (st' := [.int q31, .ref x20]) (c' := 0) (s' := 0) (pc := 129) C O miX11_181 w_1488 [.ref x30] rfl (mX11_framesOf hq31) dX11_law_129 ⟨by decide, by decide, by decide, by decide⟩ rfl (Nat.le_of_ble_eq_true rfl) rfl ⟨rfl, rfl⟩ ?_
      refine go_i2l (pc := 132) C dX11_law_132 ?_
      refine go_bind (fun q32 hq32 => ?_)
      refine go_callV (rest := []) (st' := []) (c' := 0) (s' := 0) (pc := 133) C O miX11_283 mvX11_tell [.long (Int32.toInt64 q31)] rfl (mX11_tell hq32).1 (mX11_tell hq32).2 dX11_law_133 ⟨by decide, by decide, by decide, by decide⟩ rfl (Nat.le_of_ble_eq_true rfl) rfl ⟨rfl, rfl⟩ ?_
      refine go_aload_n (pc := 136) C 0 dX11_law_136 rfl ?_
      refine go_iload_n (pc := 137) C 1 dX11_law_137 rfl ?_
      refine go_i2l (pc := 138) C dX11_law_138 ?_
      refine go_bind (fun q33 hq33 => ?_)
      refine go_callV (rest := []) (st' := []) (c' := 0) (s' := 0) (pc := 139) C O miX11_283 mvX11_tell [.long (Int32.toInt64 x21)] rfl (mX11_tell hq33).1 (mX11_tell hq33).2 dX11_law_139 ⟨by decide, by decide, by decide, by decide⟩ rfl (Nat.le_of_ble_eq_true rfl) rfl ⟨rfl, rfl⟩ ?_
      refine go_aload_n (pc := 142) C 0 dX11_law_142 rfl ?_
      refine go_aload_n (pc := 143) C 0 dX11_law_143 rfl ?_
      refine go_gR (pc := 144) C fdX11_39 dX11_law_144 (fun x34 => ?_)
      refine go_bind (fun q35 hq35 => ?_)
      refine go_callS (rest := [.ref x20]) (st' := [.int q35, .ref x20]) (c' := 0) (s' := 0) (pc := 147) C O miX11_224 w_1562 [.ref x34] rfl (mX11_objectsOf hq35) dX11_law_147 ⟨by decide, by decide, by decide, by decide⟩ rfl (Nat.le_of_ble_eq_true rfl) rfl ⟨rfl, rfl⟩ ?_
      refine go_bind (fun q36 hq36 => ?_)
      refine go_callS (rest := [.ref x20]) (st' := [.int q36, .ref x20]) (c' := 0) (s' := 0) (pc := 150) C O miX11_100 w_397 [.int q35] rfl (mJ6_bitCount_0f7a4 hq36) dX11_law_150 ⟨by decide, by decide, by decide, by decide⟩ rfl (Nat.le_of_ble_eq_true rfl) rfl ⟨rfl, rfl⟩ ?_
      refine go_i2l (pc := 153) C dX11_law_153 ?_
      refine go_bind (fun q37 hq37 => ?_)
      refine go_callV (rest := []) (st' := []) (c' := 0) (s' := 0) (pc := 154) C O miX11_283 mvX11_tell [.long (Int32.toInt64 q36)] rfl (mX11_tell hq37).1 (mX11_tell hq37).2 dX11_law_154 ⟨by decide, by decide, by decide, by decide⟩ rfl (Nat.le_of_ble_eq_true rfl) rfl ⟨rfl, rfl⟩ ?_
      refine go_aload_n (pc := 157) C 0 dX11_law_157 rfl ?_
      refine go_iload_n (pc := 158) C 2 dX11_law_158 rfl ?_
      refine go_i2l (pc := 159) C dX11_law_159 ?_
      refine go_bind (fun q38 hq38 => ?_)
      refine go_callV (rest := []) (st' := []) (c' := 0) (s' := 0) (pc := 160) C O miX11_283 mvX11_tell [.long (Int32.toInt64 x22)] rfl (mX11_tell hq38).1 (mX11_tell hq38).2 dX11_law_160 ⟨by decide, by decide, by decide, by decide⟩ rfl (Nat.le_of_ble_eq_true rfl) rfl ⟨rfl, rfl⟩ ?_
      refine go_aload_n (pc := 163) C 0 dX11_law_163 rfl ?_
      refine go_gR (pc := 164) C fdX11_39 dX11_law_164 (fun x39 => ?_)
      refine go_bind (fun q40 hq40 => ?_)
      refine go_callS (rest := []) (st' := [.int q40]) (c' := 0) (s' := 0) (pc := 167) C O miX11_181 w_1488 [.ref x39] rfl (mX11_framesOf hq40) dX11_law_167 ⟨by decide, by decide, by decide, by decide⟩ rfl (Nat.le_of_ble_eq_true rfl) rfl ⟨rfl, rfl⟩ ?_
      refine go_iload_n (pc := 170) C 1 dX11_law_170 rfl ?_
      refine go_isub (pc := 171) C dX11_law_171 ?_
      exact go_iret (w := wIh) (pc := 172) C E ((q40 - x21, q38)) (q40 - x21) dX11_law_172 rfl
  · refine go_sipush (pc := 17) C dX11_law_17 ks_m10000 ?_
    refine go_aload_n (pc := 20) C 1 dX11_law_20 rfl ?_
    refine go_gI (pc := 21) C fdX11_138 dX11_law_21 (fun x41 => ?_)
    refine go_isub (pc := 24) C dX11_law_24 ?_
    exact go_iret (w := wIh) (pc := 25) C E ((((-10000)) - x41, q8.2)) (((-10000)) - x41) dX11_law_25 rfl
theorem dX11_draw_0 : decode cX11_draw 0 = .ok (.aload_n 0, 1) := by decide +kernel
theorem dX11_draw_1 : decode cX11_draw 1 = .ok (.aload_n 0, 1) := by decide +kernel
theorem dX11_draw_2 : decode cX11_draw 2 = .ok (.getfield 416, 3) := by decide +kernel
theorem dX11_draw_5 : decode cX11_draw 5 = .ok (.ldc_w 419, 3) := by decide +kernel
theorem dX11_draw_8 : decode cX11_draw 8 = .ok (.imul, 1) := by decide +kernel
theorem dX11_draw_9 : decode cX11_draw 9 = .ok (.sipush 12345, 3) := by decide +kernel
theorem dX11_draw_12 : decode cX11_draw 12 = .ok (.iadd, 1) := by decide +kernel
theorem dX11_draw_13 : decode cX11_draw 13 = .ok (.putfield 416, 3) := by decide +kernel
theorem dX11_draw_16 : decode cX11_draw 16 = .ok (.aload_n 0, 1) := by decide +kernel
theorem dX11_draw_17 : decode cX11_draw 17 = .ok (.getfield 416, 3) := by decide +kernel
theorem dX11_draw_20 : decode cX11_draw 20 = .ok (.bipush 16, 2) := by decide +kernel
theorem dX11_draw_22 : decode cX11_draw 22 = .ok (.iushr, 1) := by decide +kernel
theorem dX11_draw_23 : decode cX11_draw 23 = .ok (.iload_n 1, 1) := by decide +kernel
theorem dX11_draw_24 : decode cX11_draw 24 = .ok (.irem, 1) := by decide +kernel
theorem dX11_draw_25 : decode cX11_draw 25 = .ok (.ireturn, 1) := by decide +kernel
def fX11_draw (h : AH) (a0 : Nat) (a1 : Int32) : Option (Int32 × AH) :=
  if hasC h 11 a0 = true then (
    (gI h 11 a0 33).bind fun x1 =>
    (pF h 11 a0 33 (.int ((x1 * 1103515245) + 12345))).bind fun h2 =>
    (gI h2 11 a0 33).bind fun x3 =>
    (jrem (jush x3 16) a1).bind fun x4 =>
    some ((x4, h2))
  ) else none
set_option maxHeartbeats 4000000 in
theorem mX11_draw {h : AH} {a0 : Nat} {a1 : Int32} {r : Int32 × AH} (hr : fX11_draw h a0 a1 = some r) : hasC h 11 a0 = true ∧ MC yX11_draw cX11_draw 2 (some .int) 1 0 0 [.ref a0, .int a1] h (some (.int r.1)) r.2 := by
  unfold fX11_draw at hr
  obtain ⟨hc, hr⟩ := if_some hr
  refine ⟨hc, mc_of (l0 := [(0, .ref a0), (1, .int a1)]) rfl pn_X11 (Nat.le_of_ble_eq_true rfl) (fun Y X C E O hnm => go_run hr ?_)⟩
  have C : CT Y X RX11 cX11_draw 2 := C
  refine go_aload_n (pc := 0) C 0 dX11_draw_0 rfl ?_
  refine go_aload_n (pc := 1) C 0 dX11_draw_1 rfl ?_
  refine go_gI (pc := 2) C fdX11_416 dX11_draw_2 (fun x1 => ?_)
  refine go_ldcw (pc := 5) C w_1894 dX11_draw_5 ?_
  refine go_imul (pc := 8) C dX11_draw_8 ?_
  refine go_sipush (pc := 9) C dX11_draw_9 ks_12345 ?_
  refine go_iadd (pc := 12) C dX11_draw_12 ?_
  refine go_pI (pc := 13) C fpX11_416 dX11_draw_13 (fun h2 => ?_)
  refine go_aload_n (pc := 16) C 0 dX11_draw_16 rfl ?_
  refine go_gI (pc := 17) C fdX11_416 dX11_draw_17 (fun x3 => ?_)
  refine go_bipush (pc := 20) C dX11_draw_20 kb_16 ?_
  refine go_iushr (pc := 22) C dX11_draw_22 ?_
  refine go_iload_n (pc := 23) C 1 dX11_draw_23 rfl ?_
  refine go_irem (pc := 24) C dX11_draw_24 (fun x4 => ?_)
  exact go_iret (w := wIh) (pc := 25) C E ((x4, h2)) x4 dX11_draw_25 rfl
theorem dX11_years_0 : decode cX11_years 0 = .ok (.aload_n 0, 1) := by decide +kernel
theorem dX11_years_1 : decode cX11_years 1 = .ok (.iconst 0, 1) := by decide +kernel
theorem dX11_years_2 : decode cX11_years 2 = .ok (.putfield 77, 3) := by decide +kernel
theorem dX11_years_5 : decode cX11_years 5 = .ok (.iload_n 2, 1) := by decide +kernel
theorem dX11_years_6 : decode cX11_years 6 = .ok (.iconst 1, 1) := by decide +kernel
theorem dX11_years_7 : decode cX11_years 7 = .ok (.bipush 40, 2) := by decide +kernel
theorem dX11_years_9 : decode cX11_years 9 = .ok (.invokestatic 84, 3) := by decide +kernel
theorem dX11_years_12 : decode cX11_years 12 = .ok (.ifCond .ne 5, 3) := by decide +kernel
theorem dX11_years_15 : decode cX11_years 15 = .ok (.iconst (-1), 1) := by decide +kernel
theorem dX11_years_16 : decode cX11_years 16 = .ok (.ireturn, 1) := by decide +kernel
theorem dX11_years_17 : decode cX11_years 17 = .ok (.aload_n 0, 1) := by decide +kernel
theorem dX11_years_18 : decode cX11_years 18 = .ok (.iload_n 1, 1) := by decide +kernel
theorem dX11_years_19 : decode cX11_years 19 = .ok (.putfield 416, 3) := by decide +kernel
theorem dX11_years_22 : decode cX11_years 22 = .ok (.aload_n 0, 1) := by decide +kernel
theorem dX11_years_23 : decode cX11_years 23 = .ok (.getfield 9, 3) := by decide +kernel
theorem dX11_years_26 : decode cX11_years 26 = .ok (.aload_n 0, 1) := by decide +kernel
theorem dX11_years_27 : decode cX11_years 27 = .ok (.getfield 39, 3) := by decide +kernel
theorem dX11_years_30 : decode cX11_years 30 = .ok (.iconst 0, 1) := by decide +kernel
theorem dX11_years_31 : decode cX11_years 31 = .ok (.invokestatic 255, 3) := by decide +kernel
theorem dX11_years_34 : decode cX11_years 34 = .ok (.iconst 0, 1) := by decide +kernel
theorem dX11_years_35 : decode cX11_years 35 = .ok (.istore_n 3, 1) := by decide +kernel
theorem dX11_years_36 : decode cX11_years 36 = .ok (.iload_n 3, 1) := by decide +kernel
theorem dX11_years_37 : decode cX11_years 37 = .ok (.iload_n 2, 1) := by decide +kernel
theorem dX11_years_38 : decode cX11_years 38 = .ok (.if_icmp .ge 137, 3) := by decide +kernel
theorem dX11_years_41 : decode cX11_years 41 = .ok (.aload_n 0, 1) := by decide +kernel
theorem dX11_years_42 : decode cX11_years 42 = .ok (.iconst 4, 1) := by decide +kernel
theorem dX11_years_43 : decode cX11_years 43 = .ok (.invokevirtual 420, 3) := by decide +kernel
theorem dX11_years_46 : decode cX11_years 46 = .ok (.istore 4, 2) := by decide +kernel
theorem dX11_years_48 : decode cX11_years 48 = .ok (.aload_n 0, 1) := by decide +kernel
theorem dX11_years_49 : decode cX11_years 49 = .ok (.bipush 6, 2) := by decide +kernel
theorem dX11_years_51 : decode cX11_years 51 = .ok (.invokevirtual 420, 3) := by decide +kernel
theorem dX11_years_54 : decode cX11_years 54 = .ok (.istore 5, 2) := by decide +kernel
theorem dX11_years_56 : decode cX11_years 56 = .ok (.aload_n 0, 1) := by decide +kernel
theorem dX11_years_57 : decode cX11_years 57 = .ok (.getfield 39, 3) := by decide +kernel
theorem dX11_years_60 : decode cX11_years 60 = .ok (.iload 5, 2) := by decide +kernel
theorem dX11_years_62 : decode cX11_years 62 = .ok (.invokestatic 106, 3) := by decide +kernel
theorem dX11_years_65 : decode cX11_years 65 = .ok (.ifCond .ne 6, 3) := by decide +kernel
theorem dX11_years_68 : decode cX11_years 68 = .ok (.goto 101, 3) := by decide +kernel
theorem dX11_years_71 : decode cX11_years 71 = .ok (.iload 4, 2) := by decide +kernel
theorem dX11_years_73 : decode cX11_years 73 = .ok (.iconst 2, 1) := by decide +kernel
theorem dX11_years_74 : decode cX11_years 74 = .ok (.if_icmp .ge 33, 3) := by decide +kernel
theorem dX11_years_77 : decode cX11_years 77 = .ok (.aload_n 0, 1) := by decide +kernel
theorem dX11_years_78 : decode cX11_years 78 = .ok (.bipush 8, 2) := by decide +kernel
theorem dX11_years_80 : decode cX11_years 80 = .ok (.invokevirtual 420, 3) := by decide +kernel
theorem dX11_years_83 : decode cX11_years 83 = .ok (.istore 6, 2) := by decide +kernel
theorem dX11_years_85 : decode cX11_years 85 = .ok (.aload_n 0, 1) := by decide +kernel
theorem dX11_years_86 : decode cX11_years 86 = .ok (.aload_n 0, 1) := by decide +kernel
theorem dX11_years_87 : decode cX11_years 87 = .ok (.getfield 39, 3) := by decide +kernel
theorem dX11_years_90 : decode cX11_years 90 = .ok (.iload 5, 2) := by decide +kernel
theorem dX11_years_92 : decode cX11_years 92 = .ok (.iload 6, 2) := by decide +kernel
theorem dX11_years_94 : decode cX11_years 94 = .ok (.aload_n 0, 1) := by decide +kernel
theorem dX11_years_95 : decode cX11_years 95 = .ok (.bipush 100, 2) := by decide +kernel
theorem dX11_years_97 : decode cX11_years 97 = .ok (.invokevirtual 420, 3) := by decide +kernel
theorem dX11_years_100 : decode cX11_years 100 = .ok (.invokevirtual 365, 3) := by decide +kernel
theorem dX11_years_103 : decode cX11_years 103 = .ok (.pop, 1) := by decide +kernel
theorem dX11_years_104 : decode cX11_years 104 = .ok (.goto 65, 3) := by decide +kernel
theorem dX11_years_107 : decode cX11_years 107 = .ok (.iload 4, 2) := by decide +kernel
theorem dX11_years_109 : decode cX11_years 109 = .ok (.iconst 2, 1) := by decide +kernel
theorem dX11_years_110 : decode cX11_years 110 = .ok (.if_icmp .ne 28, 3) := by decide +kernel
theorem dX11_years_113 : decode cX11_years 113 = .ok (.aload_n 0, 1) := by decide +kernel
theorem dX11_years_114 : decode cX11_years 114 = .ok (.getfield 39, 3) := by decide +kernel
theorem dX11_years_117 : decode cX11_years 117 = .ok (.iload 5, 2) := by decide +kernel
theorem dX11_years_119 : decode cX11_years 119 = .ok (.invokestatic 300, 3) := by decide +kernel
theorem dX11_years_122 : decode cX11_years 122 = .ok (.ifCond .ne 47, 3) := by decide +kernel
theorem dX11_years_125 : decode cX11_years 125 = .ok (.aload_n 0, 1) := by decide +kernel
theorem dX11_years_126 : decode cX11_years 126 = .ok (.getfield 39, 3) := by decide +kernel
theorem dX11_years_129 : decode cX11_years 129 = .ok (.iload 5, 2) := by decide +kernel
theorem dX11_years_131 : decode cX11_years 131 = .ok (.invokestatic 303, 3) := by decide +kernel
theorem dX11_years_134 : decode cX11_years 134 = .ok (.pop, 1) := by decide +kernel
theorem dX11_years_135 : decode cX11_years 135 = .ok (.goto 34, 3) := by decide +kernel
theorem dX11_years_138 : decode cX11_years 138 = .ok (.aload_n 0, 1) := by decide +kernel
theorem dX11_years_139 : decode cX11_years 139 = .ok (.iconst 2, 1) := by decide +kernel
theorem dX11_years_140 : decode cX11_years 140 = .ok (.invokevirtual 420, 3) := by decide +kernel
theorem dX11_years_143 : decode cX11_years 143 = .ok (.ifCond .ne 16, 3) := by decide +kernel
theorem dX11_years_146 : decode cX11_years 146 = .ok (.aload_n 0, 1) := by decide +kernel
theorem dX11_years_147 : decode cX11_years 147 = .ok (.getfield 39, 3) := by decide +kernel
theorem dX11_years_150 : decode cX11_years 150 = .ok (.iload 5, 2) := by decide +kernel
theorem dX11_years_152 : decode cX11_years 152 = .ok (.invokestatic 309, 3) := by decide +kernel
theorem dX11_years_155 : decode cX11_years 155 = .ok (.pop, 1) := by decide +kernel
theorem dX11_years_156 : decode cX11_years 156 = .ok (.goto 13, 3) := by decide +kernel
theorem dX11_years_159 : decode cX11_years 159 = .ok (.aload_n 0, 1) := by decide +kernel
theorem dX11_years_160 : decode cX11_years 160 = .ok (.aload_n 0, 1) := by decide +kernel
theorem dX11_years_161 : decode cX11_years 161 = .ok (.getfield 39, 3) := by decide +kernel
theorem dX11_years_164 : decode cX11_years 164 = .ok (.iload 5, 2) := by decide +kernel
theorem dX11_years_166 : decode cX11_years 166 = .ok (.invokevirtual 290, 3) := by decide +kernel
theorem dX11_years_169 : decode cX11_years 169 = .ok (.iinc 3 1, 3) := by decide +kernel
theorem dX11_years_172 : decode cX11_years 172 = .ok (.goto (-136), 3) := by decide +kernel
theorem dX11_years_175 : decode cX11_years 175 = .ok (.aload_n 0, 1) := by decide +kernel
theorem dX11_years_176 : decode cX11_years 176 = .ok (.iconst 0, 1) := by decide +kernel
theorem dX11_years_177 : decode cX11_years 177 = .ok (.putfield 81, 3) := by decide +kernel
theorem dX11_years_180 : decode cX11_years 180 = .ok (.aload_n 0, 1) := by decide +kernel
theorem dX11_years_181 : decode cX11_years 181 = .ok (.aload_n 0, 1) := by decide +kernel
theorem dX11_years_182 : decode cX11_years 182 = .ok (.getfield 39, 3) := by decide +kernel
theorem dX11_years_185 : decode cX11_years 185 = .ok (.invokestatic 224, 3) := by decide +kernel
theorem dX11_years_188 : decode cX11_years 188 = .ok (.i2l, 1) := by decide +kernel
theorem dX11_years_189 : decode cX11_years 189 = .ok (.invokevirtual 283, 3) := by decide +kernel
theorem dX11_years_192 : decode cX11_years 192 = .ok (.aload_n 0, 1) := by decide +kernel
theorem dX11_years_193 : decode cX11_years 193 = .ok (.aload_n 0, 1) := by decide +kernel
theorem dX11_years_194 : decode cX11_years 194 = .ok (.getfield 39, 3) := by decide +kernel
theorem dX11_years_197 : decode cX11_years 197 = .ok (.invokestatic 369, 3) := by decide +kernel
theorem dX11_years_200 : decode cX11_years 200 = .ok (.i2l, 1) := by decide +kernel
theorem dX11_years_201 : decode cX11_years 201 = .ok (.invokevirtual 283, 3) := by decide +kernel
theorem dX11_years_204 : decode cX11_years 204 = .ok (.aload_n 0, 1) := by decide +kernel
theorem dX11_years_205 : decode cX11_years 205 = .ok (.getfield 39, 3) := by decide +kernel
theorem dX11_years_208 : decode cX11_years 208 = .ok (.invokestatic 181, 3) := by decide +kernel
theorem dX11_years_211 : decode cX11_years 211 = .ok (.ireturn, 1) := by decide +kernel
def fX11_years_L36 (k175 : AH → Nat → Option (Int32 × AH)) : Nat → AH → Nat → Int32 → Int32 → Option (Int32 × AH)
  | 0, _, _, _, _ => none
  | n + 1, h, v0, v2, v3 =>
    if v2 ≤ v3 then (
      k175 h v0
    ) else (
      (fX11_draw h v0 4).bind fun q1 =>
      (fX11_draw q1.2 v0 6).bind fun q2 =>
      (gR q2.2 11 v0 20).bind fun x3 =>
      (fX11_isSpace q2.2 x3 q2.1).bind fun q4 =>
      if q4 = true then (
        if 2 ≤ q1.1 then (
          if q1.1 = 2 then (
            (gR q2.2 11 v0 20).bind fun x5 =>
            (fX11_refusesFork q2.2 x5 q2.1).bind fun q6 =>
            if q6 = 0 then (
              (gR q2.2 11 v0 20).bind fun x7 =>
              (fX11_goFork q2.2 x7 q2.1).bind fun q8 =>
              letF (v3 + 1 : Int32) fun x9 =>
              fX11_years_L36 k175 n q8.2 v0 v2 x9
            ) else (
              letF (v3 + 1 : Int32) fun x10 =>
              fX11_years_L36 k175 n q2.2 v0 v2 x10
            )
          ) else (
            (fX11_draw q2.2 v0 2).bind fun q11 =>
            if q11.1 = 0 then (
              (gR q11.2 11 v0 20).bind fun x12 =>
              (fX11_goEnd q11.2 x12 q2.1).bind fun q13 =>
              letF (v3 + 1 : Int32) fun x14 =>
              fX11_years_L36 k175 n q13.2 v0 v2 x14
            ) else (
              (gR q11.2 11 v0 20).bind fun x15 =>
              (fX11_goTidy q11.2 v0 x15 q2.1).bind fun q16 =>
              letF (v3 + 1 : Int32) fun x17 =>
              fX11_years_L36 k175 n q16 v0 v2 x17
            )
          )
        ) else (
          (fX11_draw q2.2 v0 8).bind fun q18 =>
          (gR q18.2 11 v0 20).bind fun x19 =>
          (fX11_draw q18.2 v0 100).bind fun q20 =>
          (fX11_tryWrite q20.2 v0 x19 q2.1 q18.1 q20.1).bind fun q21 =>
          letF (v3 + 1 : Int32) fun x22 =>
          fX11_years_L36 k175 n q21.2 v0 v2 x22
        )
      ) else (
        letF (v3 + 1 : Int32) fun x23 =>
        fX11_years_L36 k175 n q2.2 v0 v2 x23
      )
    )
def fX11_years (h : AH) (a0 : Nat) (a1 : Int32) (a2 : Int32) : Option (Int32 × AH) :=
  if hasC h 11 a0 = true then (
    (pF h 11 a0 5 (.int 0)).bind fun h24 =>
    (fX11_in h24 a2 1 40).bind fun q25 =>
    if q25 = true then (
      (pF h24 11 a0 33 (.int a1)).bind fun h26 =>
      (gR h26 11 a0 0).bind fun x27 =>
      (gR h26 11 a0 20).bind fun x28 =>
      (fX11_lay h26 x27 x28 0).bind fun q29 =>
      fX11_years_L36
        (fun h31 x30 =>
          (pF h31 11 x30 4 (.int 0)).bind fun h32 =>
          (gR h32 11 x30 20).bind fun x33 =>
          (fX11_objectsOf h32 x33).bind fun q34 =>
          (fX11_tell h32 x30 (Int32.toInt64 q34)).bind fun q35 =>
          (gR q35 11 x30 20).bind fun x36 =>
          (fX11_spacesOf q35 x36).bind fun q37 =>
          (fX11_tell q35 x30 (Int32.toInt64 q37)).bind fun q38 =>
          (gR q38 11 x30 20).bind fun x39 =>
          (fX11_framesOf q38 x39).bind fun q40 =>
          some ((q40, q38)))
        FU q29 a0 a2 0
    ) else (
      some (((-1), h24))
    )
  ) else none
set_option maxHeartbeats 4000000 in
theorem gX11_years_L36 {Y : YT} {X : XT} (C : CT Y X RX11 cX11_years 7) (O : RO X 211 0 0) {r : Int32 × AH} (E : RX Y X (some .int) (some (.int r.1)) r.2 0 0) {k175 : AH → Nat → Option (Int32 × AH)} (hk175 : ∀ (h : AH) (v0 : Nat), GO Y X 7 r h 0 0 175 [(0, .ref v0)] [] (k175 h v0)) : ∀ (n : Nat) (h : AH) (v0 : Nat) (v2 : Int32) (v3 : Int32), GO Y X 7 r h 0 0 36 [(0, .ref v0), (2, .int v2), (3, .int v3)] [] (fX11_years_L36 k175 n h v0 v2 v3) := by
  intro n
  induction n with
  | zero => intros; exact go_none _ _ _
  | succ n ih =>
    intro h v0 v2 v3
    rw [fX11_years_L36]
    refine go_iload_n (pc := 36) C 2 dX11_years_36 rfl ?_
    refine go_iload_n (pc := 37) C 1 dX11_years_37 rfl ?_
    refine go_icmp_ge (pc := 38) C 175 dX11_years_38 (by decide) (fun _ => ?_) (fun _ => ?_)
    · refine go_sub (ls' := [(0, .ref v0)]) [0] rfl ?_
      exact hk175 h v0
    · refine go_aload_n (pc := 41) C 0 dX11_years_41 rfl ?_
      refine go_iconst (pc := 42) C dX11_years_42 ki_4 ?_
      refine go_bind (fun q1 hq1 => ?_)
      refine go_callV (rest := []) (st' := [.int q1.1]) (c' := 0) (s' := 0) (pc := 43) C O miX11_420 mvX11_draw [.int 4] rfl (mX11_draw hq1).1 (mX11_draw hq1).2 dX11_years_43 ⟨by decide, by decide, by decide, by decide⟩ rfl (Nat.le_of_ble_eq_true rfl) rfl ⟨rfl, rfl⟩ ?_
      refine go_istore (ls' := [(4, .int q1.1), (0, .ref v0), (2, .int v2), (3, .int v3)]) (pc := 46) C dX11_years_46 (by decide) rfl ?_
      refine go_aload_n (pc := 48) C 1 dX11_years_48 rfl ?_
      refine go_bipush (pc := 49) C dX11_years_49 kb_6 ?_
      refine go_bind (fun q2 hq2 => ?_)
      refine go_callV (rest := []) (st' := [.int q2.1]) (c' := 0) (s' := 0) (pc := 51) C O miX11_420 mvX11_draw [.int 6] rfl (mX11_draw hq2).1 (mX11_draw hq2).2 dX11_years_51 ⟨by decide, by decide, by decide, by decide⟩ rfl (Nat.le_of_ble_eq_true rfl) rfl ⟨rfl, rfl⟩ ?_
      refine go_istore (ls' := [(5, .int q2.1), (4, .int q1.1), (0, .ref v0), (2, .int v2), (3, .int v3)]) (pc := 54) C dX11_years_54 (by decide) rfl ?_
      refine go_aload_n (pc := 56) C 2 dX11_years_56 rfl ?_
      refine go_gR (pc := 57) C fdX11_39 dX11_years_57 (fun x3 => ?_)
      refine go_iload (pc := 60) C 0 dX11_years_60 rfl ?_
      refine go_bind (fun q4 hq4 => ?_)
      refine go_callS (rest := []) (st' := [.int (b2i q4)]) (c' := 0) (s' := 0) (pc := 62) C O miX11_106 w_1479 [.ref x3, .int q2.1] rfl (mX11_isSpace hq4) dX11_years_62 ⟨by decide, by decide, by decide, by decide⟩ rfl (Nat.le_of_ble_eq_true rfl) rfl ⟨rfl, rfl⟩ ?_
      refine go_ifZ_ne (pc := 65) C 71 dX11_years_65 (by decide) (fun _ => ?_) (fun _ => ?_)
      · refine go_iload (pc := 71) C 1 dX11_years_71 rfl ?_
        refine go_iconst (pc := 73) C dX11_years_73 ki_2 ?_
        refine go_icmp_ge (pc := 74) C 107 dX11_years_74 (by decide) (fun _ => ?_) (fun _ => ?_)
        · refine go_iload (pc := 107) C 1 dX11_years_107 rfl ?_
          refine go_iconst (pc := 109) C dX11_years_109 ki_2 ?_
          refine go_icmp_ne (pc := 110) C 138 dX11_years_110 (by decide) (fun _ => ?_) (fun _ => ?_)
          · refine go_aload_n (pc := 113) C 2 dX11_years_113 rfl ?_
            refine go_gR (pc := 114) C fdX11_39 dX11_years_114 (fun x5 => ?_)
            refine go_iload (pc := 117) C 0 dX11_years_117 rfl ?_
            refine go_bind (fun q6 hq6 => ?_)
            refine go_callS (rest := []) (st' := [.int q6]) (c' := 0) (s' := 0) (pc := 119) C O miX11_300 w_1665 [.ref x5, .int q2.1] rfl (mX11_refusesFork hq6) dX11_years_119 ⟨by decide, by decide, by decide, by decide⟩ rfl (Nat.le_of_ble_eq_true rfl) rfl ⟨rfl, rfl⟩ ?_
            refine go_if_ne (pc := 122) C 169 dX11_years_122 (by decide) (fun _ => ?_) (fun _ => ?_)
            · refine go_aload_n (pc := 125) C 2 dX11_years_125 rfl ?_
              refine go_gR (pc := 126) C fdX11_39 dX11_years_126 (fun x7 => ?_)
              refine go_iload (pc := 129) C 0 dX11_years_129 rfl ?_
              refine go_bind (fun q8 hq8 => ?_)
              refine go_callS (rest := []) (st' := [.int q8.1]) (c' := 0) (s' := 0) (pc := 131) C O miX11_303 w_1668 [.ref x7, .int q2.1] rfl (mX11_goFork hq8) dX11_years_131 ⟨by decide, by decide, by decide, by decide⟩ rfl (Nat.le_of_ble_eq_true rfl) rfl ⟨rfl, rfl⟩ ?_
              refine go_pop (pc := 134) C dX11_years_134 rfl ?_
              refine go_goto (pc := 135) C 169 dX11_years_135 (by decide) ?_
              refine go_iincL (pc := 169) C 4 dX11_years_169 rfl ki_1 (by decide) (fun x9 => [(3, .int x9), (5, .int q2.1), (4, .int q1.1), (0, .ref v0), (2, .int v2)]) (fun _ => rfl) (fun x9 => ?_)
              refine go_goto (pc := 172) C 36 dX11_years_172 (by decide) ?_
              refine go_sub (ls' := [(0, .ref v0), (2, .int v2), (3, .int x9)]) [3, 4, 0] rfl ?_
              exact ih q8.2 v0 v2 x9
            · refine go_iincL (pc := 169) C 4 dX11_years_169 rfl ki_1 (by decide) (fun x10 => [(3, .int x10), (5, .int q2.1), (4, .int q1.1), (0, .ref v0), (2, .int v2)]) (fun _ => rfl) (fun x10 => ?_)
              refine go_goto (pc := 172) C 36 dX11_years_172 (by decide) ?_
              refine go_sub (ls' := [(0, .ref v0), (2, .int v2), (3, .int x10)]) [3, 4, 0] rfl ?_
              exact ih q2.2 v0 v2 x10
          · refine go_aload_n (pc := 138) C 2 dX11_years_138 rfl ?_
            refine go_iconst (pc := 139) C dX11_years_139 ki_2 ?_
            refine go_bind (fun q11 hq11 => ?_)
            refine go_callV (rest := []) (st' := [.int q11.1]) (c' := 0) (s' := 0) (pc := 140) C O miX11_420 mvX11_draw [.int 2] rfl (mX11_draw hq11).1 (mX11_draw hq11).2 dX11_years_140 ⟨by decide, by decide, by decide, by decide⟩ rfl (Nat.le_of_ble_eq_true rfl) rfl ⟨rfl, rfl⟩ ?_
            refine go_if_ne (pc := 143) C 159 dX11_years_143 (by decide) (fun _ => ?_) (fun _ => ?_)
            · refine go_aload_n (pc := 146) C 2 dX11_years_146 rfl ?_
              refine go_gR (pc := 147) C fdX11_39 dX11_years_147 (fun x12 => ?_)
              refine go_iload (pc := 150) C 0 dX11_years_150 rfl ?_
              refine go_bind (fun q13 hq13 => ?_)
              refine go_callS (rest := []) (st' := [.int q13.1]) (c' := 0) (s' := 0) (pc := 152) C O miX11_309 w_1675 [.ref x12, .int q2.1] rfl (mX11_goEnd hq13) dX11_years_152 ⟨by decide, by decide, by decide, by decide⟩ rfl (Nat.le_of_ble_eq_true rfl) rfl ⟨rfl, rfl⟩ ?_
              refine go_pop (pc := 155) C dX11_years_155 rfl ?_
              refine go_goto (pc := 156) C 169 dX11_years_156 (by decide) ?_
              refine go_iincL (pc := 169) C 4 dX11_years_169 rfl ki_1 (by decide) (fun x14 => [(3, .int x14), (5, .int q2.1), (4, .int q1.1), (0, .ref v0), (2, .int v2)]) (fun _ => rfl) (fun x14 => ?_)
              refine go_goto (pc := 172) C 36 dX11_years_172 (by decide) ?_
              refine go_sub (ls' := [(0, .ref v0), (2, .int v2), (3, .int x14)]) [3, 4, 0] rfl ?_
              exact ih q13.2 v0 v2 x14
            · refine go_aload_n (pc := 159) C 2 dX11_years_159 rfl ?_
              refine go_aload_n (pc := 160) C 2 dX11_years_160 rfl ?_
              refine go_gR (pc := 161) C fdX11_39 dX11_years_161 (fun x15 => ?_)
              refine go_iload (pc := 164) C 0 dX11_years_164 rfl ?_
              refine go_bind (fun q16 hq16 => ?_)
              refine go_callV (rest := []) (st' := []) (c' := 0) (s' := 0) (pc := 166) C O miX11_290 mvX11_goTidy [.ref x15, .int q2.1] rfl (mX11_goTidy hq16).1 (mX11_goTidy hq16).2 dX11_years_166 ⟨by decide, by decide, by decide, by decide⟩ rfl (Nat.le_of_ble_eq_true rfl) rfl ⟨rfl, rfl⟩ ?_
              refine go_iincL (pc := 169) C 4 dX11_years_169 rfl ki_1 (by decide) (fun x17 => [(3, .int x17), (5, .int q2.1), (4, .int q1.1), (0, .ref v0), (2, .int v2)]) (fun _ => rfl) (fun x17 => ?_)
              refine go_goto (pc := 172) C 36 dX11_years_172 (by decide) ?_
              refine go_sub (ls' := [(0, .ref v0), (2, .int v2), (3, .int x17)]) [3, 4, 0] rfl ?_
              exact ih q16 v0 v2 x17
        · refine go_aload_n (pc := 77) C 2 dX11_years_77 rfl ?_
          refine go_bipush (pc := 78) C dX11_years_78 kb_8 ?_
          refine go_bind (fun q18 hq18 => ?_)
          refine go_callV (rest := []) (st' := [.int q18.1]) (c' := 0) (s' := 0) (pc := 80) C O miX11_420 mvX11_draw [.int 8] rfl (mX11_draw hq18).1 (mX11_draw hq18).2 dX11_years_80 ⟨by decide, by decide, by decide, by decide⟩ rfl (Nat.le_of_ble_eq_true rfl) rfl ⟨rfl, rfl⟩ ?_
          refine go_istore (ls' := [(6, .int q18.1), (5, .int q2.1), (4, .int q1.1), (0, .ref v0), (2, .int v2), (3, .int v3)]) (pc := 83) C dX11_years_83 (by decide) rfl ?_
          refine go_aload_n (pc := 85) C 3 dX11_years_85 rfl ?_
          refine go_aload_n (pc := 86) C 3 dX11_years_86 rfl ?_
          refine go_gR (pc := 87) C fdX11_39 dX11_years_87 (fun x19 => ?_)
          refine go_iload (pc := 90) C 1 dX11_years_90 rfl ?_
          refine go_iload (pc := 92) C 0 dX11_years_92 rfl ?_
          refine go_aload_n (pc := 94) C 3 dX11_years_94 rfl ?_
          refine go_bipush (pc := 95) C dX11_years_95 kb_100 ?_
          refine go_bind (fun q20 hq20 => ?_)
          refine go_callV (rest := [.int q18.1, .int q2.1, .ref x19, .ref v0]) (st' := [.int q20.1, .int q18.1, .int q2.1, .ref x19, .ref v0]) (c' := 0) (s' := 0) (pc := 97) C O miX11_420 mvX11_draw [.int 100] rfl (mX11_draw hq20).1 (mX11_draw hq20).2 dX11_years_97 ⟨by decide, by decide, by decide, by decide⟩ rfl (Nat.le_of_ble_eq_true rfl) rfl ⟨rfl, rfl⟩ ?_
          refine go_bind (fun q21 hq21 => ?_)
          refine go_callV (rest := []) (st' := [.int (b2i q21.1)]) (c' := 0) (s' := 0) (pc := 100) C O miX11_365 mvX11_tryWrite [.ref x19, .int q2.1, .int q18.1, .int q20.1] rfl (mX11_tryWrite hq21).1 (mX11_tryWrite hq21).2 dX11_years_100 ⟨by decide, by decide, by decide, by decide⟩ rfl (Nat.le_of_ble_eq_true rfl) rfl ⟨rfl, rfl⟩ ?_
          refine go_pop (pc := 103) C dX11_years_103 rfl ?_
          refine go_goto (pc := 104) C 169 dX11_years_104 (by decide) ?_
          refine go_iincL (pc := 169) C 5 dX11_years_169 rfl ki_1 (by decide) (fun x22 => [(3, .int x22), (6, .int q18.1), (5, .int q2.1), (4, .int q1.1), (0, .ref v0), (2, .int v2)]) (fun _ => rfl) (fun x22 => ?_)
          refine go_goto (pc := 172) C 36 dX11_years_172 (by decide) ?_
          refine go_sub (ls' := [(0, .ref v0), (2, .int v2), (3, .int x22)]) [4, 5, 0] rfl ?_
          exact ih q21.2 v0 v2 x22
      · refine go_goto (pc := 68) C 169 dX11_years_68 (by decide) ?_
        refine go_iincL (pc := 169) C 4 dX11_years_169 rfl ki_1 (by decide) (fun x23 => [(3, .int x23), (5, .int q2.1), (4, .int q1.1), (0, .ref v0), (2, .int v2)]) (fun _ => rfl) (fun x23 => ?_)
        refine go_goto (pc := 172) C 36 dX11_years_172 (by decide) ?_
        refine go_sub (ls' := [(0, .ref v0), (2, .int v2), (3, .int x23)]) [3, 4, 0] rfl ?_
        exact ih q2.2 v0 v2 x23
set_option maxHeartbeats 4000000 in
theorem mX11_years {h : AH} {a0 : Nat} {a1 : Int32} {a2 : Int32} {r : Int32 × AH} (hr : fX11_years h a0 a1 a2 = some r) : hasC h 11 a0 = true ∧ MC yX11_years cX11_years 7 (some .int) 211 0 0 [.ref a0, .int a1, .int a2] h (some (.int r.1)) r.2 := by
  unfold fX11_years at hr
  obtain ⟨hc, hr⟩ := if_some hr
  refine ⟨hc, mc_of (l0 := [(0, .ref a0), (1, .int a1), (2, .int a2)]) rfl pn_X11 (Nat.le_of_ble_eq_true rfl) (fun Y X C E O hnm => go_run hr ?_)⟩
  have C : CT Y X RX11 cX11_years 7 := C
  refine go_aload_n (pc := 0) C 0 dX11_years_0 rfl ?_
  refine go_iconst (pc := 1) C dX11_years_1 ki_0 ?_
  refine go_pI (pc := 2) C fpX11_77 dX11_years_2 (fun h24 => ?_)
  refine go_iload_n (pc := 5) C 2 dX11_years_5 rfl ?_
  refine go_iconst (pc := 6) C dX11_years_6 ki_1 ?_
  refine go_bipush (pc := 7) C dX11_years_7 kb_40 ?_
  refine go_bind (fun q25 hq25 => ?_)
  refine go_callS (rest := []) (st' := [.int (b2i q25)]) (c' := 0) (s' := 0) (pc := 9) C O miX11_84 w_1437 [.int a2, .int 1, .int 40] rfl (mX11_in hq25) dX11_years_9 ⟨by decide, by decide, by decide, by decide⟩ rfl (Nat.le_of_ble_eq_true rfl) rfl ⟨rfl, rfl⟩ ?_
  refine go_ifZ_ne (pc := 12) C 17 dX11_years_12 (by decide) (fun _ => ?_) (fun _ => ?_)
  · refine go_aload_n (pc := 17) C 0 dX11_years_17 rfl ?_
    refine go_iload_n (pc := 18) C 1 dX11_years_18 rfl ?_
    refine go_pI (pc := 19) C fpX11_416 dX11_years_19 (fun h26 => ?_)
    refine go_aload_n (pc := 22) C 0 dX11_years_22 rfl ?_
    refine go_gR (pc := 23) C fdX11_9 dX11_years_23 (fun x27 => ?_)
    refine go_aload_n (pc := 26) C 0 dX11_years_26 rfl ?_
    refine go_gR (pc := 27) C fdX11_39 dX11_years_27 (fun x28 => ?_)
    refine go_iconst (pc := 30) C dX11_years_30 ki_0 ?_
    refine go_bind (fun q29 hq29 => ?_)
    refine go_callS (rest := []) (st' := []) (c' := 0) (s' := 0) (pc := 31) C O miX11_255 w_1502 [.ref x27, .ref x28, .int 0] rfl (mX11_lay hq29) dX11_years_31 ⟨by decide, by decide, by decide, by decide⟩ rfl (Nat.le_of_ble_eq_true rfl) rfl ⟨rfl, rfl⟩ ?_
    refine go_iconst (pc := 34) C dX11_years_34 ki_0 ?_
    refine go_istore_n (ls' := [(3, .int 0), (0, .ref a0), (1, .int a1), (2, .int a2)]) (pc := 35) C dX11_years_35 (by decide) rfl ?_
    refine go_sub (ls' := [(0, .ref a0), (2, .int a2), (3, .int 0)]) [1, 3, 0] rfl ?_
    refine gX11_years_L36 C O E (fun h31 x30 => ?_) FU q29 a0 a2 0
    · refine go_aload_n (pc := 175) C 0 dX11_years_175 rfl ?_
      refine go_iconst (pc := 176) C dX11_years_176 ki_0 ?_
      refine go_pI (pc := 177) C fpX11_81 dX11_years_177 (fun h32 => ?_)
      refine go_aload_n (pc := 180) C 0 dX11_years_180 rfl ?_
      refine go_aload_n (pc := 181) C 0 dX11_years_181 rfl ?_
      refine go_gR (pc := 182) C fdX11_39 dX11_years_182 (fun x33 => ?_)
      refine go_bind (fun q34 hq34 => ?_)
      refine go_callS (rest := [.ref x30]) (st' := [.int q34, .ref x30]) (c' := 0) (s' := 0) (pc := 185) C O miX11_224 w_1562 [.ref x33] rfl (mX11_objectsOf hq34) dX11_years_185 ⟨by decide, by decide, by decide, by decide⟩ rfl (Nat.le_of_ble_eq_true rfl) rfl ⟨rfl, rfl⟩ ?_
      refine go_i2l (pc := 188) C dX11_years_188 ?_
      refine go_bind (fun q35 hq35 => ?_)
      refine go_callV (rest := []) (st' := []) (c' := 0) (s' := 0) (pc := 189) C O miX11_283 mvX11_tell [.long (Int32.toInt64 q34)] rfl (mX11_tell hq35).1 (mX11_tell hq35).2 dX11_years_189 ⟨by decide, by decide, by decide, by decide⟩ rfl (Nat.le_of_ble_eq_true rfl) rfl ⟨rfl, rfl⟩ ?_
      refine go_aload_n (pc := 192) C 0 dX11_years_192 rfl ?_
      refine go_aload_n (pc := 193) C 0 dX11_years_193 rfl ?_
      refine go_gR (pc := 194) C fdX11_39 dX11_years_194 (fun x36 => ?_)
      refine go_bind (fun q37 hq37 => ?_)
      refine go_callS (rest := [.ref x30]) (st' := [.int q37, .ref x30]) (c' := 0) (s' := 0) (pc := 197) C O miX11_369 w_1791 [.ref x36] rfl (mX11_spacesOf hq37) dX11_years_197 ⟨by decide, by decide, by decide, by decide⟩ rfl (Nat.le_of_ble_eq_true rfl) rfl ⟨rfl, rfl⟩ ?_
      refine go_i2l (pc := 200) C dX11_years_200 ?_
      refine go_bind (fun q38 hq38 => ?_)
      refine go_callV (rest := []) (st' := []) (c' := 0) (s' := 0) (pc := 201) C O miX11_283 mvX11_tell [.long (Int32.toInt64 q37)] rfl (mX11_tell hq38).1 (mX11_tell hq38).2 dX11_years_201 ⟨by decide, by decide, by decide, by decide⟩ rfl (Nat.le_of_ble_eq_true rfl) rfl ⟨rfl, rfl⟩ ?_
      refine go_aload_n (pc := 204) C 0 dX11_years_204 rfl ?_
      refine go_gR (pc := 205) C fdX11_39 dX11_years_205 (fun x39 => ?_)
      refine go_bind (fun q40 hq40 => ?_)
      refine go_callS (rest := []) (st' := [.int q40]) (c' := 0) (s' := 0) (pc := 208) C O miX11_181 w_1488 [.ref x39] rfl (mX11_framesOf hq40) dX11_years_208 ⟨by decide, by decide, by decide, by decide⟩ rfl (Nat.le_of_ble_eq_true rfl) rfl ⟨rfl, rfl⟩ ?_
      exact go_iret (w := wIh) (pc := 211) C E ((q40, q38)) q40 dX11_years_211 rfl
  · refine go_iconst (pc := 15) C dX11_years_15 ki_m1 ?_
    exact go_iret (w := wIh) (pc := 16) C E (((-1), h24)) ((-1)) dX11_years_16 rfl
theorem dX11_keep_0 : decode cX11_keep 0 = .ok (.aload_n 0, 1) := by decide +kernel
theorem dX11_keep_1 : decode cX11_keep 1 = .ok (.iconst 0, 1) := by decide +kernel
theorem dX11_keep_2 : decode cX11_keep 2 = .ok (.putfield 77, 3) := by decide +kernel
theorem dX11_keep_5 : decode cX11_keep 5 = .ok (.iload_n 1, 1) := by decide +kernel
theorem dX11_keep_6 : decode cX11_keep 6 = .ok (.iconst 0, 1) := by decide +kernel
theorem dX11_keep_7 : decode cX11_keep 7 = .ok (.iconst 1, 1) := by decide +kernel
theorem dX11_keep_8 : decode cX11_keep 8 = .ok (.invokestatic 84, 3) := by decide +kernel
theorem dX11_keep_11 : decode cX11_keep 11 = .ok (.ifCond .ne 5, 3) := by decide +kernel
theorem dX11_keep_14 : decode cX11_keep 14 = .ok (.iconst 0, 1) := by decide +kernel
theorem dX11_keep_15 : decode cX11_keep 15 = .ok (.ireturn, 1) := by decide +kernel
theorem dX11_keep_16 : decode cX11_keep 16 = .ok (.aload_n 0, 1) := by decide +kernel
theorem dX11_keep_17 : decode cX11_keep 17 = .ok (.getfield 70, 3) := by decide +kernel
theorem dX11_keep_20 : decode cX11_keep 20 = .ok (.iload_n 1, 1) := by decide +kernel
theorem dX11_keep_21 : decode cX11_keep 21 = .ok (.iconst 1, 1) := by decide +kernel
theorem dX11_keep_22 : decode cX11_keep 22 = .ok (.bastore, 1) := by decide +kernel
theorem dX11_keep_23 : decode cX11_keep 23 = .ok (.aload_n 0, 1) := by decide +kernel
theorem dX11_keep_24 : decode cX11_keep 24 = .ok (.getfield 9, 3) := by decide +kernel
theorem dX11_keep_27 : decode cX11_keep 27 = .ok (.aload_n 0, 1) := by decide +kernel
theorem dX11_keep_28 : decode cX11_keep 28 = .ok (.getfield 67, 3) := by decide +kernel
theorem dX11_keep_31 : decode cX11_keep 31 = .ok (.sipush 325, 3) := by decide +kernel
theorem dX11_keep_34 : decode cX11_keep 34 = .ok (.iload_n 1, 1) := by decide +kernel
theorem dX11_keep_35 : decode cX11_keep 35 = .ok (.imul, 1) := by decide +kernel
theorem dX11_keep_36 : decode cX11_keep 36 = .ok (.invokestatic 255, 3) := by decide +kernel
theorem dX11_keep_39 : decode cX11_keep 39 = .ok (.iconst 1, 1) := by decide +kernel
theorem dX11_keep_40 : decode cX11_keep 40 = .ok (.ireturn, 1) := by decide +kernel
def fX11_keep (h : AH) (a0 : Nat) (a1 : Int32) : Option (Bool × AH) :=
  if hasC h 11 a0 = true then (
    (pF h 11 a0 5 (.int 0)).bind fun h1 =>
    (fX11_in h1 a1 0 1).bind fun q2 =>
    if q2 = true then (
      (gR h1 11 a0 35).bind fun x3 =>
      (sI h1 4 x3 a1 1).bind fun h4 =>
      (gR h4 11 a0 0).bind fun x5 =>
      (gR h4 11 a0 34).bind fun x6 =>
      (fX11_lay h4 x5 x6 (325 * a1)).bind fun q7 =>
      some ((true, q7))
    ) else (
      some ((false, h1))
    )
  ) else none
set_option maxHeartbeats 4000000 in
theorem mX11_keep {h : AH} {a0 : Nat} {a1 : Int32} {r : Bool × AH} (hr : fX11_keep h a0 a1 = some r) : hasC h 11 a0 = true ∧ MC yX11_keep cX11_keep 2 (some .boolean) 2 0 0 [.ref a0, .int a1] h (some (.int (b2i r.1))) r.2 := by
  unfold fX11_keep at hr
  obtain ⟨hc, hr⟩ := if_some hr
  refine ⟨hc, mc_of (l0 := [(0, .ref a0), (1, .int a1)]) rfl pn_X11 (Nat.le_of_ble_eq_true rfl) (fun Y X C E O hnm => go_run hr ?_)⟩
  have C : CT Y X RX11 cX11_keep 2 := C
  refine go_aload_n (pc := 0) C 0 dX11_keep_0 rfl ?_
  refine go_iconst (pc := 1) C dX11_keep_1 ki_0 ?_
  refine go_pI (pc := 2) C fpX11_77 dX11_keep_2 (fun h1 => ?_)
  refine go_iload_n (pc := 5) C 1 dX11_keep_5 rfl ?_
  refine go_iconst (pc := 6) C dX11_keep_6 ki_0 ?_
  refine go_iconst (pc := 7) C dX11_keep_7 ki_1 ?_
  refine go_bind (fun q2 hq2 => ?_)
  refine go_callS (rest := []) (st' := [.int (b2i q2)]) (c' := 0) (s' := 0) (pc := 8) C O miX11_84 w_1437 [.int a1, .int 0, .int 1] rfl (mX11_in hq2) dX11_keep_8 ⟨by decide, by decide, by decide, by decide⟩ rfl (Nat.le_of_ble_eq_true rfl) rfl ⟨rfl, rfl⟩ ?_
  refine go_ifZ_ne (pc := 11) C 16 dX11_keep_11 (by decide) (fun _ => ?_) (fun _ => ?_)
  · refine go_aload_n (pc := 16) C 0 dX11_keep_16 rfl ?_
    refine go_gR (pc := 17) C fdX11_70 dX11_keep_17 (fun x3 => ?_)
    refine go_iload_n (pc := 20) C 1 dX11_keep_20 rfl ?_
    refine go_iconst (pc := 21) C dX11_keep_21 ki_1 ?_
    refine go_zast (pc := 22) C dX11_keep_22 (fun h4 => ?_)
    refine go_aload_n (pc := 23) C 0 dX11_keep_23 rfl ?_
    refine go_gR (pc := 24) C fdX11_9 dX11_keep_24 (fun x5 => ?_)
    refine go_aload_n (pc := 27) C 0 dX11_keep_27 rfl ?_
    refine go_gR (pc := 28) C fdX11_67 dX11_keep_28 (fun x6 => ?_)
    refine go_sipush (pc := 31) C dX11_keep_31 ks_325 ?_
    refine go_iload_n (pc := 34) C 1 dX11_keep_34 rfl ?_
    refine go_imul (pc := 35) C dX11_keep_35 ?_
    refine go_bind (fun q7 hq7 => ?_)
    refine go_callS (rest := []) (st' := []) (c' := 0) (s' := 0) (pc := 36) C O miX11_255 w_1502 [.ref x5, .ref x6, .int (325 * a1)] rfl (mX11_lay hq7) dX11_keep_36 ⟨by decide, by decide, by decide, by decide⟩ rfl (Nat.le_of_ble_eq_true rfl) rfl ⟨rfl, rfl⟩ ?_
    refine go_iconst (pc := 39) C dX11_keep_39 ki_1 ?_
    exact go_bret (w := wZh) (pc := 40) C E ((true, q7)) 1 true rfl dX11_keep_40 rfl
  · refine go_iconst (pc := 14) C dX11_keep_14 ki_0 ?_
    exact go_bret (w := wZh) (pc := 15) C E ((false, h1)) 0 false rfl dX11_keep_15 rfl
theorem dX11_again_0 : decode cX11_again 0 = .ok (.aload_n 0, 1) := by decide +kernel
theorem dX11_again_1 : decode cX11_again 1 = .ok (.iconst 0, 1) := by decide +kernel
theorem dX11_again_2 : decode cX11_again 2 = .ok (.putfield 77, 3) := by decide +kernel
theorem dX11_again_5 : decode cX11_again 5 = .ok (.iload_n 1, 1) := by decide +kernel
theorem dX11_again_6 : decode cX11_again 6 = .ok (.iconst 0, 1) := by decide +kernel
theorem dX11_again_7 : decode cX11_again 7 = .ok (.iconst 1, 1) := by decide +kernel
theorem dX11_again_8 : decode cX11_again 8 = .ok (.invokestatic 84, 3) := by decide +kernel
theorem dX11_again_11 : decode cX11_again 11 = .ok (.ifCond .eq 12, 3) := by decide +kernel
theorem dX11_again_14 : decode cX11_again 14 = .ok (.aload_n 0, 1) := by decide +kernel
theorem dX11_again_15 : decode cX11_again 15 = .ok (.getfield 70, 3) := by decide +kernel
theorem dX11_again_18 : decode cX11_again 18 = .ok (.iload_n 1, 1) := by decide +kernel
theorem dX11_again_19 : decode cX11_again 19 = .ok (.baload, 1) := by decide +kernel
theorem dX11_again_20 : decode cX11_again 20 = .ok (.ifCond .ne 5, 3) := by decide +kernel
theorem dX11_again_23 : decode cX11_again 23 = .ok (.iconst 0, 1) := by decide +kernel
theorem dX11_again_24 : decode cX11_again 24 = .ok (.ireturn, 1) := by decide +kernel
theorem dX11_again_25 : decode cX11_again 25 = .ok (.iconst 0, 1) := by decide +kernel
theorem dX11_again_26 : decode cX11_again 26 = .ok (.istore_n 2, 1) := by decide +kernel
theorem dX11_again_27 : decode cX11_again 27 = .ok (.iload_n 2, 1) := by decide +kernel
theorem dX11_again_28 : decode cX11_again 28 = .ok (.sipush 325, 3) := by decide +kernel
theorem dX11_again_31 : decode cX11_again 31 = .ok (.if_icmp .ge 27, 3) := by decide +kernel
theorem dX11_again_34 : decode cX11_again 34 = .ok (.aload_n 0, 1) := by decide +kernel
theorem dX11_again_35 : decode cX11_again 35 = .ok (.getfield 9, 3) := by decide +kernel
theorem dX11_again_38 : decode cX11_again 38 = .ok (.iload_n 2, 1) := by decide +kernel
theorem dX11_again_39 : decode cX11_again 39 = .ok (.aload_n 0, 1) := by decide +kernel
theorem dX11_again_40 : decode cX11_again 40 = .ok (.getfield 67, 3) := by decide +kernel
theorem dX11_again_43 : decode cX11_again 43 = .ok (.sipush 325, 3) := by decide +kernel
theorem dX11_again_46 : decode cX11_again 46 = .ok (.iload_n 1, 1) := by decide +kernel
theorem dX11_again_47 : decode cX11_again 47 = .ok (.imul, 1) := by decide +kernel
theorem dX11_again_48 : decode cX11_again 48 = .ok (.iload_n 2, 1) := by decide +kernel
theorem dX11_again_49 : decode cX11_again 49 = .ok (.iadd, 1) := by decide +kernel
theorem dX11_again_50 : decode cX11_again 50 = .ok (.iaload, 1) := by decide +kernel
theorem dX11_again_51 : decode cX11_again 51 = .ok (.iastore, 1) := by decide +kernel
theorem dX11_again_52 : decode cX11_again 52 = .ok (.iinc 2 1, 3) := by decide +kernel
theorem dX11_again_55 : decode cX11_again 55 = .ok (.goto (-28), 3) := by decide +kernel
theorem dX11_again_58 : decode cX11_again 58 = .ok (.aload_n 0, 1) := by decide +kernel
theorem dX11_again_59 : decode cX11_again 59 = .ok (.iconst 0, 1) := by decide +kernel
theorem dX11_again_60 : decode cX11_again 60 = .ok (.putfield 252, 3) := by decide +kernel
theorem dX11_again_63 : decode cX11_again 63 = .ok (.iconst 1, 1) := by decide +kernel
theorem dX11_again_64 : decode cX11_again 64 = .ok (.ireturn, 1) := by decide +kernel
def fX11_again_L27 : Nat → AH → Nat → Int32 → Int32 → Option (Bool × AH)
  | 0, _, _, _, _ => none
  | n + 1, h, v0, v1, v2 =>
    if 325 ≤ v2 then (
      (pF h 11 v0 18 (.int 0)).bind fun h1 =>
      some ((true, h1))
    ) else (
      (gR h 11 v0 0).bind fun x2 =>
      (gR h 11 v0 34).bind fun x3 =>
      (aI h 0 x3 ((325 * v1) + v2)).bind fun x4 =>
      (sI h 0 x2 v2 x4).bind fun h5 =>
      letF (v2 + 1 : Int32) fun x6 =>
      fX11_again_L27 n h5 v0 v1 x6
    )
def fX11_again (h : AH) (a0 : Nat) (a1 : Int32) : Option (Bool × AH) :=
  if hasC h 11 a0 = true then (
    (pF h 11 a0 5 (.int 0)).bind fun h7 =>
    (fX11_in h7 a1 0 1).bind fun q8 =>
    if q8 = true then (
      (gR h7 11 a0 35).bind fun x9 =>
      (aZ h7 x9 a1).bind fun x10 =>
      if x10 = true then (
        fX11_again_L27 FU h7 a0 a1 0
      ) else (
        some ((false, h7))
      )
    ) else (
      some ((false, h7))
    )
  ) else none
set_option maxHeartbeats 4000000 in
theorem gX11_again_L27 {Y : YT} {X : XT} (C : CT Y X RX11 cX11_again 3) (O : RO X 2 0 0) {r : Bool × AH} (E : RX Y X (some .boolean) (some (.int (b2i r.1))) r.2 0 0) : ∀ (n : Nat) (h : AH) (v0 : Nat) (v1 : Int32) (v2 : Int32), GO Y X 3 r h 0 0 27 [(0, .ref v0), (1, .int v1), (2, .int v2)] [] (fX11_again_L27 n h v0 v1 v2) := by
  intro n
  induction n with
  | zero => intros; exact go_none _ _ _
  | succ n ih =>
    intro h v0 v1 v2
    rw [fX11_again_L27]
    refine go_iload_n (pc := 27) C 2 dX11_again_27 rfl ?_
    refine go_sipush (pc := 28) C dX11_again_28 ks_325 ?_
    refine go_icmp_ge (pc := 31) C 58 dX11_again_31 (by decide) (fun _ => ?_) (fun _ => ?_)
    · refine go_aload_n (pc := 58) C 0 dX11_again_58 rfl ?_
      refine go_iconst (pc := 59) C dX11_again_59 ki_0 ?_
      refine go_pI (pc := 60) C fpX11_252 dX11_again_60 (fun h1 => ?_)
      refine go_iconst (pc := 63) C dX11_again_63 ki_1 ?_
      exact go_bret (w := wZh) (pc := 64) C E ((true, h1)) 1 true rfl dX11_again_64 rfl
    · refine go_aload_n (pc := 34) C 0 dX11_again_34 rfl ?_
      refine go_gR (pc := 35) C fdX11_9 dX11_again_35 (fun x2 => ?_)
      refine go_iload_n (pc := 38) C 2 dX11_again_38 rfl ?_
      refine go_aload_n (pc := 39) C 0 dX11_again_39 rfl ?_
      refine go_gR (pc := 40) C fdX11_67 dX11_again_40 (fun x3 => ?_)
      refine go_sipush (pc := 43) C dX11_again_43 ks_325 ?_
      refine go_iload_n (pc := 46) C 1 dX11_again_46 rfl ?_
      refine go_imul (pc := 47) C dX11_again_47 ?_
      refine go_iload_n (pc := 48) C 2 dX11_again_48 rfl ?_
      refine go_iadd (pc := 49) C dX11_again_49 ?_
      refine go_iald (pc := 50) C dX11_again_50 (fun x4 => ?_)
      refine go_iast (pc := 51) C dX11_again_51 (fun h5 => ?_)
      refine go_iincL (pc := 52) C 2 dX11_again_52 rfl ki_1 (by decide) (fun x6 => [(2, .int x6), (0, .ref v0), (1, .int v1)]) (fun _ => rfl) (fun x6 => ?_)
      refine go_goto (pc := 55) C 27 dX11_again_55 (by decide) ?_
      refine go_sub (ls' := [(0, .ref v0), (1, .int v1), (2, .int x6)]) [1, 2, 0] rfl ?_
      exact ih h5 v0 v1 x6
set_option maxHeartbeats 4000000 in
theorem mX11_again {h : AH} {a0 : Nat} {a1 : Int32} {r : Bool × AH} (hr : fX11_again h a0 a1 = some r) : hasC h 11 a0 = true ∧ MC yX11_again cX11_again 3 (some .boolean) 2 0 0 [.ref a0, .int a1] h (some (.int (b2i r.1))) r.2 := by
  unfold fX11_again at hr
  obtain ⟨hc, hr⟩ := if_some hr
  refine ⟨hc, mc_of (l0 := [(0, .ref a0), (1, .int a1)]) rfl pn_X11 (Nat.le_of_ble_eq_true rfl) (fun Y X C E O hnm => go_run hr ?_)⟩
  have C : CT Y X RX11 cX11_again 3 := C
  refine go_aload_n (pc := 0) C 0 dX11_again_0 rfl ?_
  refine go_iconst (pc := 1) C dX11_again_1 ki_0 ?_
  refine go_pI (pc := 2) C fpX11_77 dX11_again_2 (fun h7 => ?_)
  refine go_iload_n (pc := 5) C 1 dX11_again_5 rfl ?_
  refine go_iconst (pc := 6) C dX11_again_6 ki_0 ?_
  refine go_iconst (pc := 7) C dX11_again_7 ki_1 ?_
  refine go_bind (fun q8 hq8 => ?_)
  refine go_callS (rest := []) (st' := [.int (b2i q8)]) (c' := 0) (s' := 0) (pc := 8) C O miX11_84 w_1437 [.int a1, .int 0, .int 1] rfl (mX11_in hq8) dX11_again_8 ⟨by decide, by decide, by decide, by decide⟩ rfl (Nat.le_of_ble_eq_true rfl) rfl ⟨rfl, rfl⟩ ?_
  refine go_ifZ_eq (pc := 11) C 23 dX11_again_11 (by decide) (fun _ => ?_) (fun _ => ?_)
  · refine go_aload_n (pc := 14) C 0 dX11_again_14 rfl ?_
    refine go_gR (pc := 15) C fdX11_70 dX11_again_15 (fun x9 => ?_)
    refine go_iload_n (pc := 18) C 1 dX11_again_18 rfl ?_
    refine go_zald (pc := 19) C dX11_again_19 (fun x10 => ?_)
    refine go_ifZ_ne (pc := 20) C 25 dX11_again_20 (by decide) (fun _ => ?_) (fun _ => ?_)
    · refine go_iconst (pc := 25) C dX11_again_25 ki_0 ?_
      refine go_istore_n (ls' := [(2, .int 0), (0, .ref a0), (1, .int a1)]) (pc := 26) C dX11_again_26 (by decide) rfl ?_
      refine go_sub (ls' := [(0, .ref a0), (1, .int a1), (2, .int 0)]) [1, 2, 0] rfl ?_
      refine gX11_again_L27 C O E FU h7 a0 a1 0
    · refine go_iconst (pc := 23) C dX11_again_23 ki_0 ?_
      exact go_bret (w := wZh) (pc := 24) C E ((false, h7)) 0 false rfl dX11_again_24 rfl
  · refine go_iconst (pc := 23) C dX11_again_23 ki_0 ?_
    exact go_bret (w := wZh) (pc := 24) C E ((false, h7)) 0 false rfl dX11_again_24 rfl
