/-! walks, by program: X11_differ X11_common X11_havers X11_hidden X11_frames X11_deepest X11_would X11_frees X11_tryWrite X11_storm X11_sweep X11_common_ X11_odds X11_highOf X11_heard X11_forget X11_isSo X11_isFitting X11_layFits -/
theorem dX11_differ_0 : decode cX11_differ 0 = .ok (.aload_n 0, 1) := by decide +kernel
theorem dX11_differ_1 : decode cX11_differ 1 = .ok (.iconst 0, 1) := by decide +kernel
theorem dX11_differ_2 : decode cX11_differ 2 = .ok (.putfield 77, 3) := by decide +kernel
theorem dX11_differ_5 : decode cX11_differ 5 = .ok (.aload_n 0, 1) := by decide +kernel
theorem dX11_differ_6 : decode cX11_differ 6 = .ok (.iload_n 1, 1) := by decide +kernel
theorem dX11_differ_7 : decode cX11_differ 7 = .ok (.iload_n 2, 1) := by decide +kernel
theorem dX11_differ_8 : decode cX11_differ 8 = .ok (.invokevirtual 353, 3) := by decide +kernel
theorem dX11_differ_11 : decode cX11_differ 11 = .ok (.ifCond .ne 5, 3) := by decide +kernel
theorem dX11_differ_14 : decode cX11_differ 14 = .ok (.iconst (-1), 1) := by decide +kernel
theorem dX11_differ_15 : decode cX11_differ 15 = .ok (.ireturn, 1) := by decide +kernel
theorem dX11_differ_16 : decode cX11_differ 16 = .ok (.iconst 0, 1) := by decide +kernel
theorem dX11_differ_17 : decode cX11_differ 17 = .ok (.istore_n 3, 1) := by decide +kernel
theorem dX11_differ_18 : decode cX11_differ 18 = .ok (.iconst 0, 1) := by decide +kernel
theorem dX11_differ_19 : decode cX11_differ 19 = .ok (.istore 4, 2) := by decide +kernel
theorem dX11_differ_21 : decode cX11_differ 21 = .ok (.iload 4, 2) := by decide +kernel
theorem dX11_differ_23 : decode cX11_differ 23 = .ok (.bipush 8, 2) := by decide +kernel
theorem dX11_differ_25 : decode cX11_differ 25 = .ok (.if_icmp .ge 81, 3) := by decide +kernel
theorem dX11_differ_28 : decode cX11_differ 28 = .ok (.aload_n 0, 1) := by decide +kernel
theorem dX11_differ_29 : decode cX11_differ 29 = .ok (.getfield 9, 3) := by decide +kernel
theorem dX11_differ_32 : decode cX11_differ 32 = .ok (.iload_n 1, 1) := by decide +kernel
theorem dX11_differ_33 : decode cX11_differ 33 = .ok (.iload 4, 2) := by decide +kernel
theorem dX11_differ_35 : decode cX11_differ 35 = .ok (.invokestatic 271, 3) := by decide +kernel
theorem dX11_differ_38 : decode cX11_differ 38 = .ok (.ifCond .lt 16, 3) := by decide +kernel
theorem dX11_differ_41 : decode cX11_differ 41 = .ok (.aload_n 0, 1) := by decide +kernel
theorem dX11_differ_42 : decode cX11_differ 42 = .ok (.getfield 9, 3) := by decide +kernel
theorem dX11_differ_45 : decode cX11_differ 45 = .ok (.iload_n 2, 1) := by decide +kernel
theorem dX11_differ_46 : decode cX11_differ 46 = .ok (.iload 4, 2) := by decide +kernel
theorem dX11_differ_48 : decode cX11_differ 48 = .ok (.invokestatic 271, 3) := by decide +kernel
theorem dX11_differ_51 : decode cX11_differ 51 = .ok (.ifCond .ge 7, 3) := by decide +kernel
theorem dX11_differ_54 : decode cX11_differ 54 = .ok (.iconst 1, 1) := by decide +kernel
theorem dX11_differ_55 : decode cX11_differ 55 = .ok (.goto 4, 3) := by decide +kernel
theorem dX11_differ_58 : decode cX11_differ 58 = .ok (.iconst 0, 1) := by decide +kernel
theorem dX11_differ_59 : decode cX11_differ 59 = .ok (.istore 5, 2) := by decide +kernel
theorem dX11_differ_61 : decode cX11_differ 61 = .ok (.iload_n 3, 1) := by decide +kernel
theorem dX11_differ_62 : decode cX11_differ 62 = .ok (.iload 5, 2) := by decide +kernel
theorem dX11_differ_64 : decode cX11_differ 64 = .ok (.ifCond .ne 26, 3) := by decide +kernel
theorem dX11_differ_67 : decode cX11_differ 67 = .ok (.aload_n 0, 1) := by decide +kernel
theorem dX11_differ_68 : decode cX11_differ 68 = .ok (.getfield 9, 3) := by decide +kernel
theorem dX11_differ_71 : decode cX11_differ 71 = .ok (.iload_n 1, 1) := by decide +kernel
theorem dX11_differ_72 : decode cX11_differ 72 = .ok (.iload 4, 2) := by decide +kernel
theorem dX11_differ_74 : decode cX11_differ 74 = .ok (.invokestatic 268, 3) := by decide +kernel
theorem dX11_differ_77 : decode cX11_differ 77 = .ok (.aload_n 0, 1) := by decide +kernel
theorem dX11_differ_78 : decode cX11_differ 78 = .ok (.getfield 9, 3) := by decide +kernel
theorem dX11_differ_81 : decode cX11_differ 81 = .ok (.iload_n 2, 1) := by decide +kernel
theorem dX11_differ_82 : decode cX11_differ 82 = .ok (.iload 4, 2) := by decide +kernel
theorem dX11_differ_84 : decode cX11_differ 84 = .ok (.invokestatic 268, 3) := by decide +kernel
theorem dX11_differ_87 : decode cX11_differ 87 = .ok (.if_icmp .eq 10, 3) := by decide +kernel
theorem dX11_differ_90 : decode cX11_differ 90 = .ok (.iconst 1, 1) := by decide +kernel
theorem dX11_differ_91 : decode cX11_differ 91 = .ok (.iload 4, 2) := by decide +kernel
theorem dX11_differ_93 : decode cX11_differ 93 = .ok (.ishl, 1) := by decide +kernel
theorem dX11_differ_94 : decode cX11_differ 94 = .ok (.goto 4, 3) := by decide +kernel
theorem dX11_differ_97 : decode cX11_differ 97 = .ok (.iconst 0, 1) := by decide +kernel
theorem dX11_differ_98 : decode cX11_differ 98 = .ok (.ior, 1) := by decide +kernel
theorem dX11_differ_99 : decode cX11_differ 99 = .ok (.istore_n 3, 1) := by decide +kernel
theorem dX11_differ_100 : decode cX11_differ 100 = .ok (.iinc 4 1, 3) := by decide +kernel
theorem dX11_differ_103 : decode cX11_differ 103 = .ok (.goto (-82), 3) := by decide +kernel
theorem dX11_differ_106 : decode cX11_differ 106 = .ok (.aload_n 0, 1) := by decide +kernel
theorem dX11_differ_107 : decode cX11_differ 107 = .ok (.iload_n 3, 1) := by decide +kernel
theorem dX11_differ_108 : decode cX11_differ 108 = .ok (.invokevirtual 359, 3) := by decide +kernel
theorem dX11_differ_111 : decode cX11_differ 111 = .ok (.ireturn, 1) := by decide +kernel
def fX11_differ_J90 (k98 : AH → Nat → Int32 → Int32 → Int32 → Int32 → Int32 → Option (Int32 × AH)) (h : AH) (v0 : Nat) (v1 : Int32) (v2 : Int32) (v4 : Int32) (s0 : Int32) : Option (Int32 × AH) :=
    k98 h v0 v1 v2 v4 (1 <<< (v4 &&& 31)) s0
def fX11_differ_J98 (k21 : AH → Nat → Int32 → Int32 → Int32 → Int32 → Option (Int32 × AH)) (h : AH) (v0 : Nat) (v1 : Int32) (v2 : Int32) (v4 : Int32) (s0 : Int32) (s1 : Int32) : Option (Int32 × AH) :=
    letF (s1 ||| s0 : Int32) fun x1 =>
    letF (v4 + 1 : Int32) fun x2 =>
    k21 h v0 v1 v2 x1 x2
def fX11_differ_J59 (k21 : AH → Nat → Int32 → Int32 → Int32 → Int32 → Option (Int32 × AH)) (h : AH) (v0 : Nat) (v1 : Int32) (v2 : Int32) (v3 : Int32) (v4 : Int32) (s0 : Int32) : Option (Int32 × AH) :=
    if s0 = 0 then (
      (gR h 11 v0 0).bind fun x3 =>
      (fX11_fetchOf h x3 v1 v4).bind fun q4 =>
      (gR h 11 v0 0).bind fun x5 =>
      (fX11_fetchOf h x5 v2 v4).bind fun q6 =>
      if q4 = q6 then (
        fX11_differ_J98 k21 h v0 v1 v2 v4 0 v3
      ) else (
        fX11_differ_J90
          (fun h13 x7 x8 x9 x10 x11 x12 =>
            fX11_differ_J98 k21 h13 x7 x8 x9 x10 x11 x12)
          h v0 v1 v2 v4 v3
      )
    ) else (
      fX11_differ_J90
        (fun h20 x14 x15 x16 x17 x18 x19 =>
          fX11_differ_J98 k21 h20 x14 x15 x16 x17 x18 x19)
        h v0 v1 v2 v4 v3
    )
def fX11_differ_L21 (k106 : AH → Nat → Int32 → Option (Int32 × AH)) : Nat → AH → Nat → Int32 → Int32 → Int32 → Int32 → Option (Int32 × AH)
  | 0, _, _, _, _, _, _ => none
  | n + 1, h, v0, v1, v2, v3, v4 =>
    if 8 ≤ v4 then (
      k106 h v0 v3
    ) else (
      (gR h 11 v0 0).bind fun x21 =>
      (fX11_refusesFetch h x21 v1 v4).bind fun q22 =>
      if q22 < 0 then (
        fX11_differ_J59 (fX11_differ_L21 k106 n) h v0 v1 v2 v3 v4 1
      ) else (
        (gR h 11 v0 0).bind fun x23 =>
        (fX11_refusesFetch h x23 v2 v4).bind fun q24 =>
        if 0 ≤ q24 then (
          fX11_differ_J59 (fX11_differ_L21 k106 n) h v0 v1 v2 v3 v4 0
        ) else (
          fX11_differ_J59 (fX11_differ_L21 k106 n) h v0 v1 v2 v3 v4 1
        )
      )
    )
def fX11_differ (h : AH) (a0 : Nat) (a1 : Int32) (a2 : Int32) : Option (Int32 × AH) :=
  if hasC h 11 a0 = true then (
    (pF h 11 a0 5 (.int 0)).bind fun h25 =>
    (fX11_areTwo h25 a0 a1 a2).bind fun q26 =>
    if q26 = true then (
      fX11_differ_L21
        (fun h29 x27 x28 =>
          (fX11_tellBits h29 x27 x28).bind fun q30 =>
          some ((q30.1, q30.2)))
        FU h25 a0 a1 a2 0 0
    ) else (
      some (((-1), h25))
    )
  ) else none
set_option maxHeartbeats 4000000 in
theorem gX11_differ_J90 {Y : YT} {X : XT} (C : CT Y X RX11 cX11_differ 6) (O : RO X 4 0 0) {r : Int32 × AH} (E : RX Y X (some .int) (some (.int r.1)) r.2 0 0) {k98 : AH → Nat → Int32 → Int32 → Int32 → Int32 → Int32 → Option (Int32 × AH)} (hk98 : ∀ (h : AH) (v0 : Nat) (v1 : Int32) (v2 : Int32) (v4 : Int32) (s0 : Int32) (s1 : Int32), GO Y X 6 r h 0 0 98 [(0, .ref v0), (1, .int v1), (2, .int v2), (4, .int v4)] [.int s0, .int s1] (k98 h v0 v1 v2 v4 s0 s1)) : ∀ (h : AH) (v0 : Nat) (v1 : Int32) (v2 : Int32) (v4 : Int32) (s0 : Int32), GO Y X 6 r h 0 0 90 [(0, .ref v0), (1, .int v1), (2, .int v2), (4, .int v4)] [.int s0] (fX11_differ_J90 k98 h v0 v1 v2 v4 s0) := by
  intro h v0 v1 v2 v4 s0
  unfold fX11_differ_J90
  refine go_iconst (pc := 90) C dX11_differ_90 ki_1 ?_
  refine go_iload (pc := 91) C 3 dX11_differ_91 rfl ?_
  refine go_ishl (pc := 93) C dX11_differ_93 ?_
  refine go_goto (pc := 94) C 98 dX11_differ_94 (by decide) ?_
  refine go_sub (ls' := [(0, .ref v0), (1, .int v1), (2, .int v2), (4, .int v4)]) [0, 1, 2, 3] rfl ?_
  exact hk98 h v0 v1 v2 v4 (1 <<< (v4 &&& 31)) s0
set_option maxHeartbeats 4000000 in
theorem gX11_differ_J98 {Y : YT} {X : XT} (C : CT Y X RX11 cX11_differ 6) (O : RO X 4 0 0) {r : Int32 × AH} (E : RX Y X (some .int) (some (.int r.1)) r.2 0 0) {k21 : AH → Nat → Int32 → Int32 → Int32 → Int32 → Option (Int32 × AH)} (hk21 : ∀ (h : AH) (v0 : Nat) (v1 : Int32) (v2 : Int32) (v3 : Int32) (v4 : Int32), GO Y X 6 r h 0 0 21 [(0, .ref v0), (1, .int v1), (2, .int v2), (3, .int v3), (4, .int v4)] [] (k21 h v0 v1 v2 v3 v4)) : ∀ (h : AH) (v0 : Nat) (v1 : Int32) (v2 : Int32) (v4 : Int32) (s0 : Int32) (s1 : Int32), GO Y X 6 r h 0 0 98 [(0, .ref v0), (1, .int v1), (2, .int v2), (4, .int v4)] [.int s0, .int s1] (fX11_differ_J98 k21 h v0 v1 v2 v4 s0 s1) := by
  intro h v0 v1 v2 v4 s0 s1
  unfold fX11_differ_J98
  refine go_ior (pc := 98) C dX11_differ_98 ?_
  refine go_istore_nL (pc := 99) C dX11_differ_99 (by decide) (fun x1 => [(3, .int x1), (0, .ref v0), (1, .int v1), (2, .int v2), (4, .int v4)]) (fun _ => rfl) (fun x1 => ?_)
  refine go_iincL (pc := 100) C 4 dX11_differ_100 rfl ki_1 (by decide) (fun x2 => [(4, .int x2), (3, .int x1), (0, .ref v0), (1, .int v1), (2, .int v2)]) (fun _ => rfl) (fun x2 => ?_)
  refine go_goto (pc := 103) C 21 dX11_differ_103 (by decide) ?_
  refine go_sub (ls' := [(0, .ref v0), (1, .int v1), (2, .int v2), (3, .int x1), (4, .int x2)]) [2, 3, 4, 1, 0] rfl ?_
  exact hk21 h v0 v1 v2 x1 x2
set_option maxHeartbeats 4000000 in
theorem gX11_differ_J59 {Y : YT} {X : XT} (C : CT Y X RX11 cX11_differ 6) (O : RO X 4 0 0) {r : Int32 × AH} (E : RX Y X (some .int) (some (.int r.1)) r.2 0 0) {k21 : AH → Nat → Int32 → Int32 → Int32 → Int32 → Option (Int32 × AH)} (hk21 : ∀ (h : AH) (v0 : Nat) (v1 : Int32) (v2 : Int32) (v3 : Int32) (v4 : Int32), GO Y X 6 r h 0 0 21 [(0, .ref v0), (1, .int v1), (2, .int v2), (3, .int v3), (4, .int v4)] [] (k21 h v0 v1 v2 v3 v4)) : ∀ (h : AH) (v0 : Nat) (v1 : Int32) (v2 : Int32) (v3 : Int32) (v4 : Int32) (s0 : Int32), GO Y X 6 r h 0 0 59 [(0, .ref v0), (1, .int v1), (2, .int v2), (3, .int v3), (4, .int v4)] [.int s0] (fX11_differ_J59 k21 h v0 v1 v2 v3 v4 s0) := by
  intro h v0 v1 v2 v3 v4 s0
  unfold fX11_differ_J59
  refine go_istore (ls' := [(5, .int s0), (0, .ref v0), (1, .int v1), (2, .int v2), (3, .int v3), (4, .int v4)]) (pc := 59) C dX11_differ_59 (by decide) rfl ?_
  refine go_iload_n (pc := 61) C 4 dX11_differ_61 rfl ?_
  refine go_iload (pc := 62) C 0 dX11_differ_62 rfl ?_
  refine go_if_ne (pc := 64) C 90 dX11_differ_64 (by decide) (fun _ => ?_) (fun _ => ?_)
  · refine go_aload_n (pc := 67) C 1 dX11_differ_67 rfl ?_
    refine go_gR (pc := 68) C fdX11_9 dX11_differ_68 (fun x3 => ?_)
    refine go_iload_n (pc := 71) C 2 dX11_differ_71 rfl ?_
    refine go_iload (pc := 72) C 5 dX11_differ_72 rfl ?_
    refine go_bind (fun q4 hq4 => ?_)
    refine go_callS (rest := [.int v3]) (st' := [.int q4, .int v3]) (c' := 0) (s' := 0) (pc := 74) C O miX11_268 w_1617 [.ref x3, .int v1, .int v4] rfl (mX11_fetchOf hq4) dX11_differ_74 ⟨by decide, by decide, by decide, by decide⟩ rfl (Nat.le_of_ble_eq_true rfl) rfl ⟨rfl, rfl⟩ ?_
    refine go_aload_n (pc := 77) C 1 dX11_differ_77 rfl ?_
    refine go_gR (pc := 78) C fdX11_9 dX11_differ_78 (fun x5 => ?_)
    refine go_iload_n (pc := 81) C 3 dX11_differ_81 rfl ?_
    refine go_iload (pc := 82) C 5 dX11_differ_82 rfl ?_
    refine go_bind (fun q6 hq6 => ?_)
    refine go_callS (rest := [.int q4, .int v3]) (st' := [.int q6, .int q4, .int v3]) (c' := 0) (s' := 0) (pc := 84) C O miX11_268 w_1617 [.ref x5, .int v2, .int v4] rfl (mX11_fetchOf hq6) dX11_differ_84 ⟨by decide, by decide, by decide, by decide⟩ rfl (Nat.le_of_ble_eq_true rfl) rfl ⟨rfl, rfl⟩ ?_
    refine go_icmp_eq (pc := 87) C 97 dX11_differ_87 (by decide) (fun _ => ?_) (fun _ => ?_)
    · refine go_iconst (pc := 97) C dX11_differ_97 ki_0 ?_
      refine go_sub (ls' := [(0, .ref v0), (1, .int v1), (2, .int v2), (4, .int v4)]) [1, 2, 3, 5] rfl ?_
      refine gX11_differ_J98 C O E (hk21) h v0 v1 v2 v4 0 v3
    · refine go_sub (ls' := [(0, .ref v0), (1, .int v1), (2, .int v2), (4, .int v4)]) [1, 2, 3, 5] rfl ?_
      refine gX11_differ_J90 C O E (fun h13 x7 x8 x9 x10 x11 x12 => ?_) h v0 v1 v2 v4 v3
      · refine go_sub (ls' := [(0, .ref x7), (1, .int x8), (2, .int x9), (4, .int x10)]) [0, 1, 2, 3] rfl ?_
        refine gX11_differ_J98 C O E (hk21) h13 x7 x8 x9 x10 x11 x12
  · refine go_sub (ls' := [(0, .ref v0), (1, .int v1), (2, .int v2), (4, .int v4)]) [1, 2, 3, 5] rfl ?_
    refine gX11_differ_J90 C O E (fun h20 x14 x15 x16 x17 x18 x19 => ?_) h v0 v1 v2 v4 v3
    · refine go_sub (ls' := [(0, .ref x14), (1, .int x15), (2, .int x16), (4, .int x17)]) [0, 1, 2, 3] rfl ?_
      refine gX11_differ_J98 C O E (hk21) h20 x14 x15 x16 x17 x18 x19
set_option maxHeartbeats 4000000 in
theorem gX11_differ_L21 {Y : YT} {X : XT} (C : CT Y X RX11 cX11_differ 6) (O : RO X 4 0 0) {r : Int32 × AH} (E : RX Y X (some .int) (some (.int r.1)) r.2 0 0) {k106 : AH → Nat → Int32 → Option (Int32 × AH)} (hk106 : ∀ (h : AH) (v0 : Nat) (v3 : Int32), GO Y X 6 r h 0 0 106 [(0, .ref v0), (3, .int v3)] [] (k106 h v0 v3)) : ∀ (n : Nat) (h : AH) (v0 : Nat) (v1 : Int32) (v2 : Int32) (v3 : Int32) (v4 : Int32), GO Y X 6 r h 0 0 21 [(0, .ref v0), (1, .int v1), (2, .int v2), (3, .int v3), (4, .int v4)] [] (fX11_differ_L21 k106 n h v0 v1 v2 v3 v4) := by
  intro n
  induction n with
  | zero => intros; exact go_none _ _ _
  | succ n ih =>
    intro h v0 v1 v2 v3 v4
    rw [fX11_differ_L21]
    refine go_iload (pc := 21) C 4 dX11_differ_21 rfl ?_
    refine go_bipush (pc := 23) C dX11_differ_23 kb_8 ?_
    refine go_icmp_ge (pc := 25) C 106 dX11_differ_25 (by decide) (fun _ => ?_) (fun _ => ?_)
    · refine go_sub (ls' := [(0, .ref v0), (3, .int v3)]) [0, 3] rfl ?_
      exact hk106 h v0 v3
    · refine go_aload_n (pc := 28) C 0 dX11_differ_28 rfl ?_
      refine go_gR (pc := 29) C fdX11_9 dX11_differ_29 (fun x21 => ?_)
      refine go_iload_n (pc := 32) C 1 dX11_differ_32 rfl ?_
      refine go_iload (pc := 33) C 4 dX11_differ_33 rfl ?_
      refine go_bind (fun q22 hq22 => ?_)
      refine go_callS (rest := []) (st' := [.int q22]) (c' := 0) (s' := 0) (pc := 35) C O miX11_271 w_1599 [.ref x21, .int v1, .int v4] rfl (mX11_refusesFetch hq22) dX11_differ_35 ⟨by decide, by decide, by decide, by decide⟩ rfl (Nat.le_of_ble_eq_true rfl) rfl ⟨rfl, rfl⟩ ?_
      refine go_if_lt (pc := 38) C 54 dX11_differ_38 (by decide) (fun _ => ?_) (fun _ => ?_)
      · refine go_iconst (pc := 54) C dX11_differ_54 ki_1 ?_
        refine go_goto (pc := 55) C 59 dX11_differ_55 (by decide) ?_
        refine go_sub (ls' := [(0, .ref v0), (1, .int v1), (2, .int v2), (3, .int v3), (4, .int v4)]) [0, 1, 2, 3, 4] rfl ?_
        refine gX11_differ_J59 C O E (ih) h v0 v1 v2 v3 v4 1
      · refine go_aload_n (pc := 41) C 0 dX11_differ_41 rfl ?_
        refine go_gR (pc := 42) C fdX11_9 dX11_differ_42 (fun x23 => ?_)
        refine go_iload_n (pc := 45) C 2 dX11_differ_45 rfl ?_
        refine go_iload (pc := 46) C 4 dX11_differ_46 rfl ?_
        refine go_bind (fun q24 hq24 => ?_)
        refine go_callS (rest := []) (st' := [.int q24]) (c' := 0) (s' := 0) (pc := 48) C O miX11_271 w_1599 [.ref x23, .int v2, .int v4] rfl (mX11_refusesFetch hq24) dX11_differ_48 ⟨by decide, by decide, by decide, by decide⟩ rfl (Nat.le_of_ble_eq_true rfl) rfl ⟨rfl, rfl⟩ ?_
        refine go_if_ge (pc := 51) C 58 dX11_differ_51 (by decide) (fun _ => ?_) (fun _ => ?_)
        · refine go_iconst (pc := 58) C dX11_differ_58 ki_0 ?_
          refine go_sub (ls' := [(0, .ref v0), (1, .int v1), (2, .int v2), (3, .int v3), (4, .int v4)]) [0, 1, 2, 3, 4] rfl ?_
          refine gX11_differ_J59 C O E (ih) h v0 v1 v2 v3 v4 0
        · refine go_iconst (pc := 54) C dX11_differ_54 ki_1 ?_
          refine go_goto (pc := 55) C 59 dX11_differ_55 (by decide) ?_
          refine go_sub (ls' := [(0, .ref v0), (1, .int v1), (2, .int v2), (3, .int v3), (4, .int v4)]) [0, 1, 2, 3, 4] rfl ?_
          refine gX11_differ_J59 C O E (ih) h v0 v1 v2 v3 v4 1
set_option maxHeartbeats 4000000 in
theorem mX11_differ {h : AH} {a0 : Nat} {a1 : Int32} {a2 : Int32} {r : Int32 × AH} (hr : fX11_differ h a0 a1 a2 = some r) : hasC h 11 a0 = true ∧ MC yX11_differ cX11_differ 6 (some .int) 4 0 0 [.ref a0, .int a1, .int a2] h (some (.int r.1)) r.2 := by
  unfold fX11_differ at hr
  obtain ⟨hc, hr⟩ := if_some hr
  refine ⟨hc, mc_of (l0 := [(0, .ref a0), (1, .int a1), (2, .int a2)]) rfl pn_X11 (Nat.le_of_ble_eq_true rfl) (fun Y X C E O hnm => go_run hr ?_)⟩
  have C : CT Y X RX11 cX11_differ 6 := C
  refine go_aload_n (pc := 0) C 0 dX11_differ_0 rfl ?_
  refine go_iconst (pc := 1) C dX11_differ_1 ki_0 ?_
  refine go_pI (pc := 2) C fpX11_77 dX11_differ_2 (fun h25 => ?_)
  refine go_aload_n (pc := 5) C 0 dX11_differ_5 rfl ?_
  refine go_iload_n (pc := 6) C 1 dX11_differ_6 rfl ?_
  refine go_iload_n (pc := 7) C 2 dX11_differ_7 rfl ?_
  refine go_bind (fun q26 hq26 => ?_)
  refine go_callV (rest := []) (st' := [.int (b2i q26)]) (c' := 0) (s' := 0) (pc := 8) C O miX11_353 mvX11_areTwo [.int a1, .int a2] rfl (mX11_areTwo hq26).1 (mX11_areTwo hq26).2 dX11_differ_8 ⟨by decide, by decide, by decide, by decide⟩ rfl (Nat.le_of_ble_eq_true rfl) rfl ⟨rfl, rfl⟩ ?_
  refine go_ifZ_ne (pc := 11) C 16 dX11_differ_11 (by decide) (fun _ => ?_) (fun _ => ?_)
  · refine go_iconst (pc := 16) C dX11_differ_16 ki_0 ?_
    refine go_istore_n (ls' := [(3, .int 0), (0, .ref a0), (1, .int a1), (2, .int a2)]) (pc := 17) C dX11_differ_17 (by decide) rfl ?_
    refine go_iconst (pc := 18) C dX11_differ_18 ki_0 ?_
    refine go_istore (ls' := [(4, .int 0), (3, .int 0), (0, .ref a0), (1, .int a1), (2, .int a2)]) (pc := 19) C dX11_differ_19 (by decide) rfl ?_
    refine go_sub (ls' := [(0, .ref a0), (1, .int a1), (2, .int a2), (3, .int 0), (4, .int 0)]) [2, 3, 4, 1, 0] rfl ?_
    refine gX11_differ_L21 C O E (fun h29 x27 x28 => ?_) FU h25 a0 a1 a2 0 0
    · refine go_aload_n (pc := 106) C 0 dX11_differ_106 rfl ?_
      refine go_iload_n (pc := 107) C 1 dX11_differ_107 rfl ?_
      refine go_bind (fun q30 hq30 => ?_)
      refine go_callV (rest := []) (st' := [.int q30.1]) (c' := 0) (s' := 0) (pc := 108) C O miX11_359 mvX11_tellBits [.int x28] rfl (mX11_tellBits hq30).1 (mX11_tellBits hq30).2 dX11_differ_108 ⟨by decide, by decide, by decide, by decide⟩ rfl (Nat.le_of_ble_eq_true rfl) rfl ⟨rfl, rfl⟩ ?_
      exact go_iret (w := wIh) (pc := 111) C E ((q30.1, q30.2)) q30.1 dX11_differ_111 rfl
  · refine go_iconst (pc := 14) C dX11_differ_14 ki_m1 ?_
    exact go_iret (w := wIh) (pc := 15) C E (((-1), h25)) ((-1)) dX11_differ_15 rfl
theorem dX11_common_0 : decode cX11_common 0 = .ok (.aload_n 0, 1) := by decide +kernel
theorem dX11_common_1 : decode cX11_common 1 = .ok (.iconst 0, 1) := by decide +kernel
theorem dX11_common_2 : decode cX11_common 2 = .ok (.putfield 77, 3) := by decide +kernel
theorem dX11_common_5 : decode cX11_common 5 = .ok (.aload_n 0, 1) := by decide +kernel
theorem dX11_common_6 : decode cX11_common 6 = .ok (.iload_n 1, 1) := by decide +kernel
theorem dX11_common_7 : decode cX11_common 7 = .ok (.iload_n 2, 1) := by decide +kernel
theorem dX11_common_8 : decode cX11_common 8 = .ok (.invokevirtual 353, 3) := by decide +kernel
theorem dX11_common_11 : decode cX11_common 11 = .ok (.ifCond .ne 5, 3) := by decide +kernel
theorem dX11_common_14 : decode cX11_common 14 = .ok (.iconst (-1), 1) := by decide +kernel
theorem dX11_common_15 : decode cX11_common 15 = .ok (.ireturn, 1) := by decide +kernel
theorem dX11_common_16 : decode cX11_common 16 = .ok (.iconst 0, 1) := by decide +kernel
theorem dX11_common_17 : decode cX11_common 17 = .ok (.istore_n 3, 1) := by decide +kernel
theorem dX11_common_18 : decode cX11_common 18 = .ok (.iload_n 3, 1) := by decide +kernel
theorem dX11_common_19 : decode cX11_common 19 = .ok (.aload_n 0, 1) := by decide +kernel
theorem dX11_common_20 : decode cX11_common 20 = .ok (.getfield 9, 3) := by decide +kernel
theorem dX11_common_23 : decode cX11_common 23 = .ok (.iload_n 1, 1) := by decide +kernel
theorem dX11_common_24 : decode cX11_common 24 = .ok (.invokestatic 116, 3) := by decide +kernel
theorem dX11_common_27 : decode cX11_common 27 = .ok (.if_icmp .ge 81, 3) := by decide +kernel
theorem dX11_common_30 : decode cX11_common 30 = .ok (.aload_n 0, 1) := by decide +kernel
theorem dX11_common_31 : decode cX11_common 31 = .ok (.getfield 9, 3) := by decide +kernel
theorem dX11_common_34 : decode cX11_common 34 = .ok (.iload_n 1, 1) := by decide +kernel
theorem dX11_common_35 : decode cX11_common 35 = .ok (.iload_n 3, 1) := by decide +kernel
theorem dX11_common_36 : decode cX11_common 36 = .ok (.invokestatic 119, 3) := by decide +kernel
theorem dX11_common_39 : decode cX11_common 39 = .ok (.istore 4, 2) := by decide +kernel
theorem dX11_common_41 : decode cX11_common 41 = .ok (.aload_n 0, 1) := by decide +kernel
theorem dX11_common_42 : decode cX11_common 42 = .ok (.getfield 9, 3) := by decide +kernel
theorem dX11_common_45 : decode cX11_common 45 = .ok (.iload_n 2, 1) := by decide +kernel
theorem dX11_common_46 : decode cX11_common 46 = .ok (.iload 4, 2) := by decide +kernel
theorem dX11_common_48 : decode cX11_common 48 = .ok (.invokestatic 347, 3) := by decide +kernel
theorem dX11_common_51 : decode cX11_common 51 = .ok (.ifCond .ne 6, 3) := by decide +kernel
theorem dX11_common_54 : decode cX11_common 54 = .ok (.goto 48, 3) := by decide +kernel
theorem dX11_common_57 : decode cX11_common 57 = .ok (.iconst 0, 1) := by decide +kernel
theorem dX11_common_58 : decode cX11_common 58 = .ok (.istore 5, 2) := by decide +kernel
theorem dX11_common_60 : decode cX11_common 60 = .ok (.aload_n 0, 1) := by decide +kernel
theorem dX11_common_61 : decode cX11_common 61 = .ok (.getfield 9, 3) := by decide +kernel
theorem dX11_common_64 : decode cX11_common 64 = .ok (.iload_n 2, 1) := by decide +kernel
theorem dX11_common_65 : decode cX11_common 65 = .ok (.iload 5, 2) := by decide +kernel
theorem dX11_common_67 : decode cX11_common 67 = .ok (.invokestatic 119, 3) := by decide +kernel
theorem dX11_common_70 : decode cX11_common 70 = .ok (.iload 4, 2) := by decide +kernel
theorem dX11_common_72 : decode cX11_common 72 = .ok (.if_icmp .eq 9, 3) := by decide +kernel
theorem dX11_common_75 : decode cX11_common 75 = .ok (.iinc 5 1, 3) := by decide +kernel
theorem dX11_common_78 : decode cX11_common 78 = .ok (.goto (-18), 3) := by decide +kernel
theorem dX11_common_81 : decode cX11_common 81 = .ok (.aload_n 0, 1) := by decide +kernel
theorem dX11_common_82 : decode cX11_common 82 = .ok (.iconst 0, 1) := by decide +kernel
theorem dX11_common_83 : decode cX11_common 83 = .ok (.putfield 81, 3) := by decide +kernel
theorem dX11_common_86 : decode cX11_common 86 = .ok (.aload_n 0, 1) := by decide +kernel
theorem dX11_common_87 : decode cX11_common 87 = .ok (.iload_n 3, 1) := by decide +kernel
theorem dX11_common_88 : decode cX11_common 88 = .ok (.i2l, 1) := by decide +kernel
theorem dX11_common_89 : decode cX11_common 89 = .ok (.invokevirtual 283, 3) := by decide +kernel
theorem dX11_common_92 : decode cX11_common 92 = .ok (.aload_n 0, 1) := by decide +kernel
theorem dX11_common_93 : decode cX11_common 93 = .ok (.iload 5, 2) := by decide +kernel
theorem dX11_common_95 : decode cX11_common 95 = .ok (.i2l, 1) := by decide +kernel
theorem dX11_common_96 : decode cX11_common 96 = .ok (.invokevirtual 283, 3) := by decide +kernel
theorem dX11_common_99 : decode cX11_common 99 = .ok (.iload 4, 2) := by decide +kernel
theorem dX11_common_101 : decode cX11_common 101 = .ok (.ireturn, 1) := by decide +kernel
theorem dX11_common_102 : decode cX11_common 102 = .ok (.iinc 3 1, 3) := by decide +kernel
theorem dX11_common_105 : decode cX11_common 105 = .ok (.goto (-87), 3) := by decide +kernel
theorem dX11_common_108 : decode cX11_common 108 = .ok (.bipush (-2), 2) := by decide +kernel
theorem dX11_common_110 : decode cX11_common 110 = .ok (.ireturn, 1) := by decide +kernel
def fX11_common_L18 (k57 : AH → Nat → Int32 → Int32 → Int32 → Option (Int32 × AH)) : Nat → AH → Nat → Int32 → Int32 → Int32 → Option (Int32 × AH)
  | 0, _, _, _, _, _ => none
  | n + 1, h, v0, v1, v2, v3 =>
    (gR h 11 v0 0).bind fun x1 =>
    (fX11_lengthOf h x1 v1).bind fun q2 =>
    if q2 ≤ v3 then (
      some (((-2), h))
    ) else (
      (gR h 11 v0 0).bind fun x3 =>
      (fX11_objectAt h x3 v1 v3).bind fun q4 =>
      (gR h 11 v0 0).bind fun x5 =>
      (fX11_isInChain h x5 v2 q4).bind fun q6 =>
      if q6 = true then (
        k57 h v0 v2 v3 q4
      ) else (
        letF (v3 + 1 : Int32) fun x7 =>
        fX11_common_L18 k57 n h v0 v1 v2 x7
      )
    )
def fX11_common_L60 (k81 : AH → Nat → Int32 → Int32 → Int32 → Option (Int32 × AH)) : Nat → AH → Nat → Int32 → Int32 → Int32 → Int32 → Option (Int32 × AH)
  | 0, _, _, _, _, _, _ => none
  | n + 1, h, v0, v2, v3, v4, v5 =>
    (gR h 11 v0 0).bind fun x8 =>
    (fX11_objectAt h x8 v2 v5).bind fun q9 =>
    if q9 = v4 then (
      k81 h v0 v3 v4 v5
    ) else (
      letF (v5 + 1 : Int32) fun x10 =>
      fX11_common_L60 k81 n h v0 v2 v3 v4 x10
    )
def fX11_common (h : AH) (a0 : Nat) (a1 : Int32) (a2 : Int32) : Option (Int32 × AH) :=
  if hasC h 11 a0 = true then (
    (pF h 11 a0 5 (.int 0)).bind fun h11 =>
    (fX11_areTwo h11 a0 a1 a2).bind fun q12 =>
    if q12 = true then (
      fX11_common_L18
        (fun h17 x13 x14 x15 x16 =>
          fX11_common_L60
            (fun h22 x18 x19 x20 x21 =>
              (pF h22 11 x18 4 (.int 0)).bind fun h23 =>
              (fX11_tell h23 x18 (Int32.toInt64 x19)).bind fun q24 =>
              (fX11_tell q24 x18 (Int32.toInt64 x21)).bind fun q25 =>
              some ((x20, q25)))
            FU h17 x13 x14 x15 x16 0)
        FU h11 a0 a1 a2 0
    ) else (
      some (((-1), h11))
    )
  ) else none
set_option maxHeartbeats 4000000 in
theorem gX11_common_L18 {Y : YT} {X : XT} (C : CT Y X RX11 cX11_common 6) (O : RO X 4 0 0) {r : Int32 × AH} (E : RX Y X (some .int) (some (.int r.1)) r.2 0 0) {k57 : AH → Nat → Int32 → Int32 → Int32 → Option (Int32 × AH)} (hk57 : ∀ (h : AH) (v0 : Nat) (v2 : Int32) (v3 : Int32) (v4 : Int32), GO Y X 6 r h 0 0 57 [(0, .ref v0), (2, .int v2), (3, .int v3), (4, .int v4)] [] (k57 h v0 v2 v3 v4)) : ∀ (n : Nat) (h : AH) (v0 : Nat) (v1 : Int32) (v2 : Int32) (v3 : Int32), GO Y X 6 r h 0 0 18 [(0, .ref v0), (1, .int v1), (2, .int v2), (3, .int v3)] [] (fX11_common_L18 k57 n h v0 v1 v2 v3) := by
  intro n
  induction n with
  | zero => intros; exact go_none _ _ _
  | succ n ih =>
    intro h v0 v1 v2 v3
    rw [fX11_common_L18]
    refine go_iload_n (pc := 18) C 3 dX11_common_18 rfl ?_
    refine go_aload_n (pc := 19) C 0 dX11_common_19 rfl ?_
    refine go_gR (pc := 20) C fdX11_9 dX11_common_20 (fun x1 => ?_)
    refine go_iload_n (pc := 23) C 1 dX11_common_23 rfl ?_
    refine go_bind (fun q2 hq2 => ?_)
    refine go_callS (rest := [.int v3]) (st' := [.int q2, .int v3]) (c' := 0) (s' := 0) (pc := 24) C O miX11_116 w_1555 [.ref x1, .int v1] rfl (mX11_lengthOf hq2) dX11_common_24 ⟨by decide, by decide, by decide, by decide⟩ rfl (Nat.le_of_ble_eq_true rfl) rfl ⟨rfl, rfl⟩ ?_
    refine go_icmp_ge (pc := 27) C 108 dX11_common_27 (by decide) (fun _ => ?_) (fun _ => ?_)
    · refine go_bipush (pc := 108) C dX11_common_108 kb_m2 ?_
      exact go_iret (w := wIh) (pc := 110) C E (((-2), h)) ((-2)) dX11_common_110 rfl
    · refine go_aload_n (pc := 30) C 0 dX11_common_30 rfl ?_
      refine go_gR (pc := 31) C fdX11_9 dX11_common_31 (fun x3 => ?_)
      refine go_iload_n (pc := 34) C 1 dX11_common_34 rfl ?_
      refine go_iload_n (pc := 35) C 3 dX11_common_35 rfl ?_
      refine go_bind (fun q4 hq4 => ?_)
      refine go_callS (rest := []) (st' := [.int q4]) (c' := 0) (s' := 0) (pc := 36) C O miX11_119 w_1608 [.ref x3, .int v1, .int v3] rfl (mX11_objectAt hq4) dX11_common_36 ⟨by decide, by decide, by decide, by decide⟩ rfl (Nat.le_of_ble_eq_true rfl) rfl ⟨rfl, rfl⟩ ?_
      refine go_istore (ls' := [(4, .int q4), (0, .ref v0), (1, .int v1), (2, .int v2), (3, .int v3)]) (pc := 39) C dX11_common_39 (by decide) rfl ?_
      refine go_aload_n (pc := 41) C 1 dX11_common_41 rfl ?_
      refine go_gR (pc := 42) C fdX11_9 dX11_common_42 (fun x5 => ?_)
      refine go_iload_n (pc := 45) C 3 dX11_common_45 rfl ?_
      refine go_iload (pc := 46) C 0 dX11_common_46 rfl ?_
      refine go_bind (fun q6 hq6 => ?_)
      refine go_callS (rest := []) (st' := [.int (b2i q6)]) (c' := 0) (s' := 0) (pc := 48) C O miX11_347 w_1733 [.ref x5, .int v2, .int q4] rfl (mX11_isInChain hq6) dX11_common_48 ⟨by decide, by decide, by decide, by decide⟩ rfl (Nat.le_of_ble_eq_true rfl) rfl ⟨rfl, rfl⟩ ?_
      refine go_ifZ_ne (pc := 51) C 57 dX11_common_51 (by decide) (fun _ => ?_) (fun _ => ?_)
      · refine go_sub (ls' := [(0, .ref v0), (2, .int v2), (3, .int v3), (4, .int q4)]) [1, 3, 4, 0] rfl ?_
        exact hk57 h v0 v2 v3 q4
      · refine go_goto (pc := 54) C 102 dX11_common_54 (by decide) ?_
        refine go_iincL (pc := 102) C 4 dX11_common_102 rfl ki_1 (by decide) (fun x7 => [(3, .int x7), (4, .int q4), (0, .ref v0), (1, .int v1), (2, .int v2)]) (fun _ => rfl) (fun x7 => ?_)
        refine go_goto (pc := 105) C 18 dX11_common_105 (by decide) ?_
        refine go_sub (ls' := [(0, .ref v0), (1, .int v1), (2, .int v2), (3, .int x7)]) [2, 3, 4, 0] rfl ?_
        exact ih h v0 v1 v2 x7
set_option maxHeartbeats 4000000 in
theorem gX11_common_L60 {Y : YT} {X : XT} (C : CT Y X RX11 cX11_common 6) (O : RO X 4 0 0) {r : Int32 × AH} (E : RX Y X (some .int) (some (.int r.1)) r.2 0 0) {k81 : AH → Nat → Int32 → Int32 → Int32 → Option (Int32 × AH)} (hk81 : ∀ (h : AH) (v0 : Nat) (v3 : Int32) (v4 : Int32) (v5 : Int32), GO Y X 6 r h 0 0 81 [(0, .ref v0), (3, .int v3), (4, .int v4), (5, .int v5)] [] (k81 h v0 v3 v4 v5)) : ∀ (n : Nat) (h : AH) (v0 : Nat) (v2 : Int32) (v3 : Int32) (v4 : Int32) (v5 : Int32), GO Y X 6 r h 0 0 60 [(0, .ref v0), (2, .int v2), (3, .int v3), (4, .int v4), (5, .int v5)] [] (fX11_common_L60 k81 n h v0 v2 v3 v4 v5) := by
  intro n
  induction n with
  | zero => intros; exact go_none _ _ _
  | succ n ih =>
    intro h v0 v2 v3 v4 v5
    rw [fX11_common_L60]
    refine go_aload_n (pc := 60) C 0 dX11_common_60 rfl ?_
    refine go_gR (pc := 61) C fdX11_9 dX11_common_61 (fun x8 => ?_)
    refine go_iload_n (pc := 64) C 1 dX11_common_64 rfl ?_
    refine go_iload (pc := 65) C 4 dX11_common_65 rfl ?_
    refine go_bind (fun q9 hq9 => ?_)
    refine go_callS (rest := []) (st' := [.int q9]) (c' := 0) (s' := 0) (pc := 67) C O miX11_119 w_1608 [.ref x8, .int v2, .int v5] rfl (mX11_objectAt hq9) dX11_common_67 ⟨by decide, by decide, by decide, by decide⟩ rfl (Nat.le_of_ble_eq_true rfl) rfl ⟨rfl, rfl⟩ ?_
    refine go_iload (pc := 70) C 3 dX11_common_70 rfl ?_
    refine go_icmp_eq (pc := 72) C 81 dX11_common_72 (by decide) (fun _ => ?_) (fun _ => ?_)
    · refine go_sub (ls' := [(0, .ref v0), (3, .int v3), (4, .int v4), (5, .int v5)]) [0, 2, 3, 4] rfl ?_
      exact hk81 h v0 v3 v4 v5
    · refine go_iincL (pc := 75) C 4 dX11_common_75 rfl ki_1 (by decide) (fun x10 => [(5, .int x10), (0, .ref v0), (2, .int v2), (3, .int v3), (4, .int v4)]) (fun _ => rfl) (fun x10 => ?_)
      refine go_goto (pc := 78) C 60 dX11_common_78 (by decide) ?_
      refine go_sub (ls' := [(0, .ref v0), (2, .int v2), (3, .int v3), (4, .int v4), (5, .int x10)]) [1, 2, 3, 4, 0] rfl ?_
      exact ih h v0 v2 v3 v4 x10
set_option maxHeartbeats 4000000 in
theorem mX11_common {h : AH} {a0 : Nat} {a1 : Int32} {a2 : Int32} {r : Int32 × AH} (hr : fX11_common h a0 a1 a2 = some r) : hasC h 11 a0 = true ∧ MC yX11_common cX11_common 6 (some .int) 4 0 0 [.ref a0, .int a1, .int a2] h (some (.int r.1)) r.2 := by
  unfold fX11_common at hr
  obtain ⟨hc, hr⟩ := if_some hr
  refine ⟨hc, mc_of (l0 := [(0, .ref a0), (1, .int a1), (2, .int a2)]) rfl pn_X11 (Nat.le_of_ble_eq_true rfl) (fun Y X C E O hnm => go_run hr ?_)⟩
  have C : CT Y X RX11 cX11_common 6 := C
  refine go_aload_n (pc := 0) C 0 dX11_common_0 rfl ?_
  refine go_iconst (pc := 1) C dX11_common_1 ki_0 ?_
  refine go_pI (pc := 2) C fpX11_77 dX11_common_2 (fun h11 => ?_)
  refine go_aload_n (pc := 5) C 0 dX11_common_5 rfl ?_
  refine go_iload_n (pc := 6) C 1 dX11_common_6 rfl ?_
  refine go_iload_n (pc := 7) C 2 dX11_common_7 rfl ?_
  refine go_bind (fun q12 hq12 => ?_)
  refine go_callV (rest := []) (st' := [.int (b2i q12)]) (c' := 0) (s' := 0) (pc := 8) C O miX11_353 mvX11_areTwo [.int a1, .int a2] rfl (mX11_areTwo hq12).1 (mX11_areTwo hq12).2 dX11_common_8 ⟨by decide, by decide, by decide, by decide⟩ rfl (Nat.le_of_ble_eq_true rfl) rfl ⟨rfl, rfl⟩ ?_
  refine go_ifZ_ne (pc := 11) C 16 dX11_common_11 (by decide) (fun _ => ?_) (fun _ => ?_)
  · refine go_iconst (pc := 16) C dX11_common_16 ki_0 ?_
    refine go_istore_n (ls' := [(3, .int 0), (0, .ref a0), (1, .int a1), (2, .int a2)]) (pc := 17) C dX11_common_17 (by decide) rfl ?_
    refine go_sub (ls' := [(0, .ref a0), (1, .int a1), (2, .int a2), (3, .int 0)]) [1, 2, 3, 0] rfl ?_
    refine gX11_common_L18 C O E (fun h17 x13 x14 x15 x16 => ?_) FU h11 a0 a1 a2 0
    · refine go_iconst (pc := 57) C dX11_common_57 ki_0 ?_
      refine go_istore (ls' := [(5, .int 0), (0, .ref x13), (2, .int x14), (3, .int x15), (4, .int x16)]) (pc := 58) C dX11_common_58 (by decide) rfl ?_
      refine go_sub (ls' := [(0, .ref x13), (2, .int x14), (3, .int x15), (4, .int x16), (5, .int 0)]) [1, 2, 3, 4, 0] rfl ?_
      refine gX11_common_L60 C O E (fun h22 x18 x19 x20 x21 => ?_) FU h17 x13 x14 x15 x16 0
      · refine go_aload_n (pc := 81) C 0 dX11_common_81 rfl ?_
        refine go_iconst (pc := 82) C dX11_common_82 ki_0 ?_
        refine go_pI (pc := 83) C fpX11_81 dX11_common_83 (fun h23 => ?_)
        refine go_aload_n (pc := 86) C 0 dX11_common_86 rfl ?_
        refine go_iload_n (pc := 87) C 1 dX11_common_87 rfl ?_
        refine go_i2l (pc := 88) C dX11_common_88 ?_
        refine go_bind (fun q24 hq24 => ?_)
        refine go_callV (rest := []) (st' := []) (c' := 0) (s' := 0) (pc := 89) C O miX11_283 mvX11_tell [.long (Int32.toInt64 x19)] rfl (mX11_tell hq24).1 (mX11_tell hq24).2 dX11_common_89 ⟨by decide, by decide, by decide, by decide⟩ rfl (Nat.le_of_ble_eq_true rfl) rfl ⟨rfl, rfl⟩ ?_
        refine go_aload_n (pc := 92) C 0 dX11_common_92 rfl ?_
        refine go_iload (pc := 93) C 3 dX11_common_93 rfl ?_
        refine go_i2l (pc := 95) C dX11_common_95 ?_
        refine go_bind (fun q25 hq25 => ?_)
        refine go_callV (rest := []) (st' := []) (c' := 0) (s' := 0) (pc := 96) C O miX11_283 mvX11_tell [.long (Int32.toInt64 x21)] rfl (mX11_tell hq25).1 (mX11_tell hq25).2 dX11_common_96 ⟨by decide, by decide, by decide, by decide⟩ rfl (Nat.le_of_ble_eq_true rfl) rfl ⟨rfl, rfl⟩ ?_
        refine go_iload (pc := 99) C 2 dX11_common_99 rfl ?_
        exact go_iret (w := wIh) (pc := 101) C E ((x20, q25)) x20 dX11_common_101 rfl
  · refine go_iconst (pc := 14) C dX11_common_14 ki_m1 ?_
    exact go_iret (w := wIh) (pc := 15) C E (((-1), h11)) ((-1)) dX11_common_15 rfl
theorem dX11_havers_0 : decode cX11_havers 0 = .ok (.iconst 0, 1) := by decide +kernel
theorem dX11_havers_1 : decode cX11_havers 1 = .ok (.istore_n 3, 1) := by decide +kernel
theorem dX11_havers_2 : decode cX11_havers 2 = .ok (.iconst 0, 1) := by decide +kernel
theorem dX11_havers_3 : decode cX11_havers 3 = .ok (.istore 4, 2) := by decide +kernel
theorem dX11_havers_5 : decode cX11_havers 5 = .ok (.iload 4, 2) := by decide +kernel
theorem dX11_havers_7 : decode cX11_havers 7 = .ok (.bipush 6, 2) := by decide +kernel
theorem dX11_havers_9 : decode cX11_havers 9 = .ok (.if_icmp .ge 46, 3) := by decide +kernel
theorem dX11_havers_12 : decode cX11_havers 12 = .ok (.iload_n 3, 1) := by decide +kernel
theorem dX11_havers_13 : decode cX11_havers 13 = .ok (.aload_n 0, 1) := by decide +kernel
theorem dX11_havers_14 : decode cX11_havers 14 = .ok (.getfield 9, 3) := by decide +kernel
theorem dX11_havers_17 : decode cX11_havers 17 = .ok (.iload 4, 2) := by decide +kernel
theorem dX11_havers_19 : decode cX11_havers 19 = .ok (.invokestatic 106, 3) := by decide +kernel
theorem dX11_havers_22 : decode cX11_havers 22 = .ok (.ifCond .eq 24, 3) := by decide +kernel
theorem dX11_havers_25 : decode cX11_havers 25 = .ok (.aload_n 0, 1) := by decide +kernel
theorem dX11_havers_26 : decode cX11_havers 26 = .ok (.getfield 9, 3) := by decide +kernel
theorem dX11_havers_29 : decode cX11_havers 29 = .ok (.iload 4, 2) := by decide +kernel
theorem dX11_havers_31 : decode cX11_havers 31 = .ok (.iload_n 2, 1) := by decide +kernel
theorem dX11_havers_32 : decode cX11_havers 32 = .ok (.invokestatic 356, 3) := by decide +kernel
theorem dX11_havers_35 : decode cX11_havers 35 = .ok (.iload_n 1, 1) := by decide +kernel
theorem dX11_havers_36 : decode cX11_havers 36 = .ok (.if_icmp .ne 10, 3) := by decide +kernel
theorem dX11_havers_39 : decode cX11_havers 39 = .ok (.iconst 1, 1) := by decide +kernel
theorem dX11_havers_40 : decode cX11_havers 40 = .ok (.iload 4, 2) := by decide +kernel
theorem dX11_havers_42 : decode cX11_havers 42 = .ok (.ishl, 1) := by decide +kernel
theorem dX11_havers_43 : decode cX11_havers 43 = .ok (.goto 4, 3) := by decide +kernel
theorem dX11_havers_46 : decode cX11_havers 46 = .ok (.iconst 0, 1) := by decide +kernel
theorem dX11_havers_47 : decode cX11_havers 47 = .ok (.ior, 1) := by decide +kernel
theorem dX11_havers_48 : decode cX11_havers 48 = .ok (.istore_n 3, 1) := by decide +kernel
theorem dX11_havers_49 : decode cX11_havers 49 = .ok (.iinc 4 1, 3) := by decide +kernel
theorem dX11_havers_52 : decode cX11_havers 52 = .ok (.goto (-47), 3) := by decide +kernel
theorem dX11_havers_55 : decode cX11_havers 55 = .ok (.iload_n 3, 1) := by decide +kernel
theorem dX11_havers_56 : decode cX11_havers 56 = .ok (.ireturn, 1) := by decide +kernel
def fX11_havers_J47 (h : AH) (k5 : Nat → Int32 → Int32 → Int32 → Int32 → Option (Int32)) (v0 : Nat) (v1 : Int32) (v2 : Int32) (v4 : Int32) (s0 : Int32) (s1 : Int32) : Option (Int32) :=
    letF (s1 ||| s0 : Int32) fun x1 =>
    letF (v4 + 1 : Int32) fun x2 =>
    k5 v0 v1 v2 x1 x2
def fX11_havers_L5 (h : AH) : Nat → Nat → Int32 → Int32 → Int32 → Int32 → Option (Int32)
  | 0, _, _, _, _, _ => none
  | n + 1, v0, v1, v2, v3, v4 =>
    if 6 ≤ v4 then (
      some v3
    ) else (
      (gR h 11 v0 0).bind fun x3 =>
      (fX11_isSpace h x3 v4).bind fun q4 =>
      if q4 = true then (
        (gR h 11 v0 0).bind fun x5 =>
        (fX11_frameOf h x5 v4 v2).bind fun q6 =>
        if q6 = v1 then (
          fX11_havers_J47 h (fX11_havers_L5 h n) v0 v1 v2 v4 (1 <<< (v4 &&& 31)) v3
        ) else (
          fX11_havers_J47 h (fX11_havers_L5 h n) v0 v1 v2 v4 0 v3
        )
      ) else (
        fX11_havers_J47 h (fX11_havers_L5 h n) v0 v1 v2 v4 0 v3
      )
    )
def fX11_havers (h : AH) (a0 : Nat) (a1 : Int32) (a2 : Int32) : Option (Int32) :=
  if hasC h 11 a0 = true then (
    fX11_havers_L5 h FU a0 a1 a2 0 0
  ) else none
set_option maxHeartbeats 4000000 in
theorem gX11_havers_J47 {Y : YT} {X : XT} (C : CT Y X RX11 cX11_havers 5) (O : RO X 4 0 0) {h : AH} {r : Int32} (E : RX Y X (some .int) (some (.int r)) h 0 0) {k5 : Nat → Int32 → Int32 → Int32 → Int32 → Option (Int32)} (hk5 : ∀ (v0 : Nat) (v1 : Int32) (v2 : Int32) (v3 : Int32) (v4 : Int32), GO Y X 5 r h 0 0 5 [(0, .ref v0), (1, .int v1), (2, .int v2), (3, .int v3), (4, .int v4)] [] (k5 v0 v1 v2 v3 v4)) : ∀ (v0 : Nat) (v1 : Int32) (v2 : Int32) (v4 : Int32) (s0 : Int32) (s1 : Int32), GO Y X 5 r h 0 0 47 [(0, .ref v0), (1, .int v1), (2, .int v2), (4, .int v4)] [.int s0, .int s1] (fX11_havers_J47 h k5 v0 v1 v2 v4 s0 s1) := by
  intro v0 v1 v2 v4 s0 s1
  unfold fX11_havers_J47
  refine go_ior (pc := 47) C dX11_havers_47 ?_
  refine go_istore_nL (pc := 48) C dX11_havers_48 (by decide) (fun x1 => [(3, .int x1), (0, .ref v0), (1, .int v1), (2, .int v2), (4, .int v4)]) (fun _ => rfl) (fun x1 => ?_)
  refine go_iincL (pc := 49) C 4 dX11_havers_49 rfl ki_1 (by decide) (fun x2 => [(4, .int x2), (3, .int x1), (0, .ref v0), (1, .int v1), (2, .int v2)]) (fun _ => rfl) (fun x2 => ?_)
  refine go_goto (pc := 52) C 5 dX11_havers_52 (by decide) ?_
  refine go_sub (ls' := [(0, .ref v0), (1, .int v1), (2, .int v2), (3, .int x1), (4, .int x2)]) [2, 3, 4, 1, 0] rfl ?_
  exact hk5 v0 v1 v2 x1 x2
set_option maxHeartbeats 4000000 in
theorem gX11_havers_L5 {Y : YT} {X : XT} (C : CT Y X RX11 cX11_havers 5) (O : RO X 4 0 0) {h : AH} {r : Int32} (E : RX Y X (some .int) (some (.int r)) h 0 0) : ∀ (n : Nat) (v0 : Nat) (v1 : Int32) (v2 : Int32) (v3 : Int32) (v4 : Int32), GO Y X 5 r h 0 0 5 [(0, .ref v0), (1, .int v1), (2, .int v2), (3, .int v3), (4, .int v4)] [] (fX11_havers_L5 h n v0 v1 v2 v3 v4) := by
  intro n
  induction n with
  | zero => intros; exact go_none _ _ _
  | succ n ih =>
    intro v0 v1 v2 v3 v4
    rw [fX11_havers_L5]
    refine go_iload (pc := 5) C 4 dX11_havers_5 rfl ?_
    refine go_bipush (pc := 7) C dX11_havers_7 kb_6 ?_
    refine go_icmp_ge (pc := 9) C 55 dX11_havers_9 (by decide) (fun _ => ?_) (fun _ => ?_)
    · refine go_iload_n (pc := 55) C 3 dX11_havers_55 rfl ?_
      exact go_iret (w := (wI h)) (pc := 56) C E v3 v3 dX11_havers_56 rfl
    · refine go_iload_n (pc := 12) C 3 dX11_havers_12 rfl ?_
      refine go_aload_n (pc := 13) C 0 dX11_havers_13 rfl ?_
      refine go_gR (pc := 14) C fdX11_9 dX11_havers_14 (fun x3 => ?_)
      refine go_iload (pc := 17) C 4 dX11_havers_17 rfl ?_
      refine go_bind (fun q4 hq4 => ?_)
      refine go_callS (rest := [.int v3]) (st' := [.int (b2i q4), .int v3]) (c' := 0) (s' := 0) (pc := 19) C O miX11_106 w_1479 [.ref x3, .int v4] rfl (mX11_isSpace hq4) dX11_havers_19 ⟨by decide, by decide, by decide, by decide⟩ rfl (Nat.le_of_ble_eq_true rfl) rfl ⟨rfl, rfl⟩ ?_
      refine go_ifZ_eq (pc := 22) C 46 dX11_havers_22 (by decide) (fun _ => ?_) (fun _ => ?_)
      · refine go_aload_n (pc := 25) C 0 dX11_havers_25 rfl ?_
        refine go_gR (pc := 26) C fdX11_9 dX11_havers_26 (fun x5 => ?_)
        refine go_iload (pc := 29) C 4 dX11_havers_29 rfl ?_
        refine go_iload_n (pc := 31) C 2 dX11_havers_31 rfl ?_
        refine go_bind (fun q6 hq6 => ?_)
        refine go_callS (rest := [.int v3]) (st' := [.int q6, .int v3]) (c' := 0) (s' := 0) (pc := 32) C O miX11_356 w_1744 [.ref x5, .int v4, .int v2] rfl (mX11_frameOf hq6) dX11_havers_32 ⟨by decide, by decide, by decide, by decide⟩ rfl (Nat.le_of_ble_eq_true rfl) rfl ⟨rfl, rfl⟩ ?_
        refine go_iload_n (pc := 35) C 1 dX11_havers_35 rfl ?_
        refine go_icmp_ne (pc := 36) C 46 dX11_havers_36 (by decide) (fun _ => ?_) (fun _ => ?_)
        · refine go_iconst (pc := 39) C dX11_havers_39 ki_1 ?_
          refine go_iload (pc := 40) C 4 dX11_havers_40 rfl ?_
          refine go_ishl (pc := 42) C dX11_havers_42 ?_
          refine go_goto (pc := 43) C 47 dX11_havers_43 (by decide) ?_
          refine go_sub (ls' := [(0, .ref v0), (1, .int v1), (2, .int v2), (4, .int v4)]) [0, 1, 2, 4] rfl ?_
          refine gX11_havers_J47 C O E (ih) v0 v1 v2 v4 (1 <<< (v4 &&& 31)) v3
        · refine go_iconst (pc := 46) C dX11_havers_46 ki_0 ?_
          refine go_sub (ls' := [(0, .ref v0), (1, .int v1), (2, .int v2), (4, .int v4)]) [0, 1, 2, 4] rfl ?_
          refine gX11_havers_J47 C O E (ih) v0 v1 v2 v4 0 v3
      · refine go_iconst (pc := 46) C dX11_havers_46 ki_0 ?_
        refine go_sub (ls' := [(0, .ref v0), (1, .int v1), (2, .int v2), (4, .int v4)]) [0, 1, 2, 4] rfl ?_
        refine gX11_havers_J47 C O E (ih) v0 v1 v2 v4 0 v3
set_option maxHeartbeats 4000000 in
theorem mX11_havers {h : AH} {a0 : Nat} {a1 : Int32} {a2 : Int32} {r : Int32} (hr : fX11_havers h a0 a1 a2 = some r) : hasC h 11 a0 = true ∧ MC yX11_havers cX11_havers 5 (some .int) 4 0 0 [.ref a0, .int a1, .int a2] h (some (.int r)) h := by
  unfold fX11_havers at hr
  obtain ⟨hc, hr⟩ := if_some hr
  refine ⟨hc, mc_of (l0 := [(0, .ref a0), (1, .int a1), (2, .int a2)]) rfl pn_X11 (Nat.le_of_ble_eq_true rfl) (fun Y X C E O hnm => go_run hr ?_)⟩
  have C : CT Y X RX11 cX11_havers 5 := C
  refine go_iconst (pc := 0) C dX11_havers_0 ki_0 ?_
  refine go_istore_n (ls' := [(3, .int 0), (0, .ref a0), (1, .int a1), (2, .int a2)]) (pc := 1) C dX11_havers_1 (by decide) rfl ?_
  refine go_iconst (pc := 2) C dX11_havers_2 ki_0 ?_
  refine go_istore (ls' := [(4, .int 0), (3, .int 0), (0, .ref a0), (1, .int a1), (2, .int a2)]) (pc := 3) C dX11_havers_3 (by decide) rfl ?_
  refine go_sub (ls' := [(0, .ref a0), (1, .int a1), (2, .int a2), (3, .int 0), (4, .int 0)]) [2, 3, 4, 1, 0] rfl ?_
  refine gX11_havers_L5 C O E FU a0 a1 a2 0 0
theorem dX11_hidden_0 : decode cX11_hidden 0 = .ok (.aload_n 0, 1) := by decide +kernel
theorem dX11_hidden_1 : decode cX11_hidden 1 = .ok (.iconst 0, 1) := by decide +kernel
theorem dX11_hidden_2 : decode cX11_hidden 2 = .ok (.putfield 77, 3) := by decide +kernel
theorem dX11_hidden_5 : decode cX11_hidden 5 = .ok (.iconst 0, 1) := by decide +kernel
theorem dX11_hidden_6 : decode cX11_hidden 6 = .ok (.istore_n 1, 1) := by decide +kernel
theorem dX11_hidden_7 : decode cX11_hidden 7 = .ok (.aload_n 0, 1) := by decide +kernel
theorem dX11_hidden_8 : decode cX11_hidden 8 = .ok (.iconst 0, 1) := by decide +kernel
theorem dX11_hidden_9 : decode cX11_hidden 9 = .ok (.putfield 81, 3) := by decide +kernel
theorem dX11_hidden_12 : decode cX11_hidden 12 = .ok (.iconst 0, 1) := by decide +kernel
theorem dX11_hidden_13 : decode cX11_hidden 13 = .ok (.istore_n 2, 1) := by decide +kernel
theorem dX11_hidden_14 : decode cX11_hidden 14 = .ok (.iload_n 2, 1) := by decide +kernel
theorem dX11_hidden_15 : decode cX11_hidden 15 = .ok (.bipush 24, 2) := by decide +kernel
theorem dX11_hidden_17 : decode cX11_hidden 17 = .ok (.if_icmp .ge 66, 3) := by decide +kernel
theorem dX11_hidden_20 : decode cX11_hidden 20 = .ok (.iconst 0, 1) := by decide +kernel
theorem dX11_hidden_21 : decode cX11_hidden 21 = .ok (.istore_n 3, 1) := by decide +kernel
theorem dX11_hidden_22 : decode cX11_hidden 22 = .ok (.iload_n 3, 1) := by decide +kernel
theorem dX11_hidden_23 : decode cX11_hidden 23 = .ok (.bipush 8, 2) := by decide +kernel
theorem dX11_hidden_25 : decode cX11_hidden 25 = .ok (.if_icmp .ge 52, 3) := by decide +kernel
theorem dX11_hidden_28 : decode cX11_hidden 28 = .ok (.aload_n 0, 1) := by decide +kernel
theorem dX11_hidden_29 : decode cX11_hidden 29 = .ok (.getfield 9, 3) := by decide +kernel
theorem dX11_hidden_32 : decode cX11_hidden 32 = .ok (.iload_n 2, 1) := by decide +kernel
theorem dX11_hidden_33 : decode cX11_hidden 33 = .ok (.iload_n 3, 1) := by decide +kernel
theorem dX11_hidden_34 : decode cX11_hidden 34 = .ok (.invokestatic 92, 3) := by decide +kernel
theorem dX11_hidden_37 : decode cX11_hidden 37 = .ok (.ifCond .eq 34, 3) := by decide +kernel
theorem dX11_hidden_40 : decode cX11_hidden 40 = .ok (.aload_n 0, 1) := by decide +kernel
theorem dX11_hidden_41 : decode cX11_hidden 41 = .ok (.iload_n 2, 1) := by decide +kernel
theorem dX11_hidden_42 : decode cX11_hidden 42 = .ok (.iload_n 3, 1) := by decide +kernel
theorem dX11_hidden_43 : decode cX11_hidden 43 = .ok (.invokevirtual 362, 3) := by decide +kernel
theorem dX11_hidden_46 : decode cX11_hidden 46 = .ok (.ifCond .eq 6, 3) := by decide +kernel
theorem dX11_hidden_49 : decode cX11_hidden 49 = .ok (.goto 22, 3) := by decide +kernel
theorem dX11_hidden_52 : decode cX11_hidden 52 = .ok (.iload_n 1, 1) := by decide +kernel
theorem dX11_hidden_53 : decode cX11_hidden 53 = .ok (.ifCond .ne 15, 3) := by decide +kernel
theorem dX11_hidden_56 : decode cX11_hidden 56 = .ok (.aload_n 0, 1) := by decide +kernel
theorem dX11_hidden_57 : decode cX11_hidden 57 = .ok (.iload_n 2, 1) := by decide +kernel
theorem dX11_hidden_58 : decode cX11_hidden 58 = .ok (.i2l, 1) := by decide +kernel
theorem dX11_hidden_59 : decode cX11_hidden 59 = .ok (.invokevirtual 283, 3) := by decide +kernel
theorem dX11_hidden_62 : decode cX11_hidden 62 = .ok (.aload_n 0, 1) := by decide +kernel
theorem dX11_hidden_63 : decode cX11_hidden 63 = .ok (.iload_n 3, 1) := by decide +kernel
theorem dX11_hidden_64 : decode cX11_hidden 64 = .ok (.i2l, 1) := by decide +kernel
theorem dX11_hidden_65 : decode cX11_hidden 65 = .ok (.invokevirtual 283, 3) := by decide +kernel
theorem dX11_hidden_68 : decode cX11_hidden 68 = .ok (.iinc 1 1, 3) := by decide +kernel
theorem dX11_hidden_71 : decode cX11_hidden 71 = .ok (.iinc 3 1, 3) := by decide +kernel
theorem dX11_hidden_74 : decode cX11_hidden 74 = .ok (.goto (-52), 3) := by decide +kernel
theorem dX11_hidden_77 : decode cX11_hidden 77 = .ok (.iinc 2 1, 3) := by decide +kernel
theorem dX11_hidden_80 : decode cX11_hidden 80 = .ok (.goto (-66), 3) := by decide +kernel
theorem dX11_hidden_83 : decode cX11_hidden 83 = .ok (.iload_n 1, 1) := by decide +kernel
theorem dX11_hidden_84 : decode cX11_hidden 84 = .ok (.ireturn, 1) := by decide +kernel
def fX11_hidden_L22 (k77 : AH → Nat → Int32 → Int32 → Option (Int32 × AH)) : Nat → AH → Nat → Int32 → Int32 → Int32 → Option (Int32 × AH)
  | 0, _, _, _, _, _ => none
  | n + 1, h, v0, v1, v2, v3 =>
    if 8 ≤ v3 then (
      k77 h v0 v1 v2
    ) else (
      (gR h 11 v0 0).bind fun x1 =>
      (fX11_holds h x1 v2 v3).bind fun q2 =>
      if q2 = true then (
        (fX11_havers h v0 v2 v3).bind fun q3 =>
        if q3 = 0 then (
          if v1 = 0 then (
            (fX11_tell h v0 (Int32.toInt64 v2)).bind fun q4 =>
            (fX11_tell q4 v0 (Int32.toInt64 v3)).bind fun q5 =>
            letF (v1 + 1 : Int32) fun x6 =>
            letF (v3 + 1 : Int32) fun x7 =>
            fX11_hidden_L22 k77 n q5 v0 x6 v2 x7
          ) else (
            letF (v1 + 1 : Int32) fun x8 =>
            letF (v3 + 1 : Int32) fun x9 =>
            fX11_hidden_L22 k77 n h v0 x8 v2 x9
          )
        ) else (
          letF (v3 + 1 : Int32) fun x10 =>
          fX11_hidden_L22 k77 n h v0 v1 v2 x10
        )
      ) else (
        letF (v3 + 1 : Int32) fun x11 =>
        fX11_hidden_L22 k77 n h v0 v1 v2 x11
      )
    )
def fX11_hidden_L14 : Nat → AH → Nat → Int32 → Int32 → Option (Int32 × AH)
  | 0, _, _, _, _ => none
  | n + 1, h, v0, v1, v2 =>
    if 24 ≤ v2 then (
      some ((v1, h))
    ) else (
      fX11_hidden_L22
        (fun h15 x12 x13 x14 =>
          letF (x14 + 1 : Int32) fun x16 =>
          fX11_hidden_L14 n h15 x12 x13 x16)
        FU h v0 v1 v2 0
    )
def fX11_hidden (h : AH) (a0 : Nat) : Option (Int32 × AH) :=
  if hasC h 11 a0 = true then (
    (pF h 11 a0 5 (.int 0)).bind fun h17 =>
    (pF h17 11 a0 4 (.int 0)).bind fun h18 =>
    fX11_hidden_L14 FU h18 a0 0 0
  ) else none
set_option maxHeartbeats 4000000 in
theorem gX11_hidden_L22 {Y : YT} {X : XT} (C : CT Y X RX11 cX11_hidden 4) (O : RO X 5 0 0) {r : Int32 × AH} (E : RX Y X (some .int) (some (.int r.1)) r.2 0 0) {k77 : AH → Nat → Int32 → Int32 → Option (Int32 × AH)} (hk77 : ∀ (h : AH) (v0 : Nat) (v1 : Int32) (v2 : Int32), GO Y X 4 r h 0 0 77 [(0, .ref v0), (1, .int v1), (2, .int v2)] [] (k77 h v0 v1 v2)) : ∀ (n : Nat) (h : AH) (v0 : Nat) (v1 : Int32) (v2 : Int32) (v3 : Int32), GO Y X 4 r h 0 0 22 [(0, .ref v0), (1, .int v1), (2, .int v2), (3, .int v3)] [] (fX11_hidden_L22 k77 n h v0 v1 v2 v3) := by
  intro n
  induction n with
  | zero => intros; exact go_none _ _ _
  | succ n ih =>
    intro h v0 v1 v2 v3
    rw [fX11_hidden_L22]
    refine go_iload_n (pc := 22) C 3 dX11_hidden_22 rfl ?_
    refine go_bipush (pc := 23) C dX11_hidden_23 kb_8 ?_
    refine go_icmp_ge (pc := 25) C 77 dX11_hidden_25 (by decide) (fun _ => ?_) (fun _ => ?_)
    · refine go_sub (ls' := [(0, .ref v0), (1, .int v1), (2, .int v2)]) [0, 1, 2] rfl ?_
      exact hk77 h v0 v1 v2
    · refine go_aload_n (pc := 28) C 0 dX11_hidden_28 rfl ?_
      refine go_gR (pc := 29) C fdX11_9 dX11_hidden_29 (fun x1 => ?_)
      refine go_iload_n (pc := 32) C 2 dX11_hidden_32 rfl ?_
      refine go_iload_n (pc := 33) C 3 dX11_hidden_33 rfl ?_
      refine go_bind (fun q2 hq2 => ?_)
      refine go_callS (rest := []) (st' := [.int (b2i q2)]) (c' := 0) (s' := 0) (pc := 34) C O miX11_92 w_1494 [.ref x1, .int v2, .int v3] rfl (mX11_holds hq2) dX11_hidden_34 ⟨by decide, by decide, by decide, by decide⟩ rfl (Nat.le_of_ble_eq_true rfl) rfl ⟨rfl, rfl⟩ ?_
      refine go_ifZ_eq (pc := 37) C 71 dX11_hidden_37 (by decide) (fun _ => ?_) (fun _ => ?_)
      · refine go_aload_n (pc := 40) C 0 dX11_hidden_40 rfl ?_
        refine go_iload_n (pc := 41) C 2 dX11_hidden_41 rfl ?_
        refine go_iload_n (pc := 42) C 3 dX11_hidden_42 rfl ?_
        refine go_bind (fun q3 hq3 => ?_)
        refine go_callV (rest := []) (st' := [.int q3]) (c' := 0) (s' := 0) (pc := 43) C O miX11_362 mvX11_havers [.int v2, .int v3] rfl (mX11_havers hq3).1 (mX11_havers hq3).2 dX11_hidden_43 ⟨by decide, by decide, by decide, by decide⟩ rfl (Nat.le_of_ble_eq_true rfl) rfl ⟨rfl, rfl⟩ ?_
        refine go_if_eq (pc := 46) C 52 dX11_hidden_46 (by decide) (fun _ => ?_) (fun _ => ?_)
        · refine go_iload_n (pc := 52) C 1 dX11_hidden_52 rfl ?_
          refine go_if_ne (pc := 53) C 68 dX11_hidden_53 (by decide) (fun _ => ?_) (fun _ => ?_)
          · refine go_aload_n (pc := 56) C 0 dX11_hidden_56 rfl ?_
            refine go_iload_n (pc := 57) C 2 dX11_hidden_57 rfl ?_
            refine go_i2l (pc := 58) C dX11_hidden_58 ?_
            refine go_bind (fun q4 hq4 => ?_)
            refine go_callV (rest := []) (st' := []) (c' := 0) (s' := 0) (pc := 59) C O miX11_283 mvX11_tell [.long (Int32.toInt64 v2)] rfl (mX11_tell hq4).1 (mX11_tell hq4).2 dX11_hidden_59 ⟨by decide, by decide, by decide, by decide⟩ rfl (Nat.le_of_ble_eq_true rfl) rfl ⟨rfl, rfl⟩ ?_
            refine go_aload_n (pc := 62) C 0 dX11_hidden_62 rfl ?_
            refine go_iload_n (pc := 63) C 3 dX11_hidden_63 rfl ?_
            refine go_i2l (pc := 64) C dX11_hidden_64 ?_
            refine go_bind (fun q5 hq5 => ?_)
            refine go_callV (rest := []) (st' := []) (c' := 0) (s' := 0) (pc := 65) C O miX11_283 mvX11_tell [.long (Int32.toInt64 v3)] rfl (mX11_tell hq5).1 (mX11_tell hq5).2 dX11_hidden_65 ⟨by decide, by decide, by decide, by decide⟩ rfl (Nat.le_of_ble_eq_true rfl) rfl ⟨rfl, rfl⟩ ?_
            refine go_iincL (pc := 68) C 1 dX11_hidden_68 rfl ki_1 (by decide) (fun x6 => [(1, .int x6), (0, .ref v0), (2, .int v2), (3, .int v3)]) (fun _ => rfl) (fun x6 => ?_)
            refine go_iincL (pc := 71) C 3 dX11_hidden_71 rfl ki_1 (by decide) (fun x7 => [(3, .int x7), (1, .int x6), (0, .ref v0), (2, .int v2)]) (fun _ => rfl) (fun x7 => ?_)
            refine go_goto (pc := 74) C 22 dX11_hidden_74 (by decide) ?_
            refine go_sub (ls' := [(0, .ref v0), (1, .int x6), (2, .int v2), (3, .int x7)]) [2, 1, 3, 0] rfl ?_
            exact ih q5 v0 x6 v2 x7
          · refine go_iincL (pc := 68) C 1 dX11_hidden_68 rfl ki_1 (by decide) (fun x8 => [(1, .int x8), (0, .ref v0), (2, .int v2), (3, .int v3)]) (fun _ => rfl) (fun x8 => ?_)
            refine go_iincL (pc := 71) C 3 dX11_hidden_71 rfl ki_1 (by decide) (fun x9 => [(3, .int x9), (1, .int x8), (0, .ref v0), (2, .int v2)]) (fun _ => rfl) (fun x9 => ?_)
            refine go_goto (pc := 74) C 22 dX11_hidden_74 (by decide) ?_
            refine go_sub (ls' := [(0, .ref v0), (1, .int x8), (2, .int v2), (3, .int x9)]) [2, 1, 3, 0] rfl ?_
            exact ih h v0 x8 v2 x9
        · refine go_goto (pc := 49) C 71 dX11_hidden_49 (by decide) ?_
          refine go_iincL (pc := 71) C 3 dX11_hidden_71 rfl ki_1 (by decide) (fun x10 => [(3, .int x10), (0, .ref v0), (1, .int v1), (2, .int v2)]) (fun _ => rfl) (fun x10 => ?_)
          refine go_goto (pc := 74) C 22 dX11_hidden_74 (by decide) ?_
          refine go_sub (ls' := [(0, .ref v0), (1, .int v1), (2, .int v2), (3, .int x10)]) [1, 2, 3, 0] rfl ?_
          exact ih h v0 v1 v2 x10
      · refine go_iincL (pc := 71) C 3 dX11_hidden_71 rfl ki_1 (by decide) (fun x11 => [(3, .int x11), (0, .ref v0), (1, .int v1), (2, .int v2)]) (fun _ => rfl) (fun x11 => ?_)
        refine go_goto (pc := 74) C 22 dX11_hidden_74 (by decide) ?_
        refine go_sub (ls' := [(0, .ref v0), (1, .int v1), (2, .int v2), (3, .int x11)]) [1, 2, 3, 0] rfl ?_
        exact ih h v0 v1 v2 x11
set_option maxHeartbeats 4000000 in
theorem gX11_hidden_L14 {Y : YT} {X : XT} (C : CT Y X RX11 cX11_hidden 4) (O : RO X 5 0 0) {r : Int32 × AH} (E : RX Y X (some .int) (some (.int r.1)) r.2 0 0) : ∀ (n : Nat) (h : AH) (v0 : Nat) (v1 : Int32) (v2 : Int32), GO Y X 4 r h 0 0 14 [(0, .ref v0), (1, .int v1), (2, .int v2)] [] (fX11_hidden_L14 n h v0 v1 v2) := by
  intro n
  induction n with
  | zero => intros; exact go_none _ _ _
  | succ n ih =>
    intro h v0 v1 v2
    rw [fX11_hidden_L14]
    refine go_iload_n (pc := 14) C 2 dX11_hidden_14 rfl ?_
    refine go_bipush (pc := 15) C dX11_hidden_15 kb_24 ?_
    refine go_icmp_ge (pc := 17) C 83 dX11_hidden_17 (by decide) (fun _ => ?_) (fun _ => ?_)
    · refine go_iload_n (pc := 83) C 1 dX11_hidden_83 rfl ?_
      exact go_iret (w := wIh) (pc := 84) C E ((v1, h)) v1 dX11_hidden_84 rfl
    · refine go_iconst (pc := 20) C dX11_hidden_20 ki_0 ?_
      refine go_istore_n (ls' := [(3, .int 0), (0, .ref v0), (1, .int v1), (2, .int v2)]) (pc := 21) C dX11_hidden_21 (by decide) rfl ?_
      refine go_sub (ls' := [(0, .ref v0), (1, .int v1), (2, .int v2), (3, .int 0)]) [1, 2, 3, 0] rfl ?_
      refine gX11_hidden_L22 C O E (fun h15 x12 x13 x14 => ?_) FU h v0 v1 v2 0
      · refine go_iincL (pc := 77) C 2 dX11_hidden_77 rfl ki_1 (by decide) (fun x16 => [(2, .int x16), (0, .ref x12), (1, .int x13)]) (fun _ => rfl) (fun x16 => ?_)
        refine go_goto (pc := 80) C 14 dX11_hidden_80 (by decide) ?_
        refine go_sub (ls' := [(0, .ref x12), (1, .int x13), (2, .int x16)]) [1, 2, 0] rfl ?_
        exact ih h15 x12 x13 x16
set_option maxHeartbeats 4000000 in
theorem mX11_hidden {h : AH} {a0 : Nat} {r : Int32 × AH} (hr : fX11_hidden h a0 = some r) : hasC h 11 a0 = true ∧ MC yX11_hidden cX11_hidden 4 (some .int) 5 0 0 [.ref a0] h (some (.int r.1)) r.2 := by
  unfold fX11_hidden at hr
  obtain ⟨hc, hr⟩ := if_some hr
  refine ⟨hc, mc_of (l0 := [(0, .ref a0)]) rfl pn_X11 (Nat.le_of_ble_eq_true rfl) (fun Y X C E O hnm => go_run hr ?_)⟩
  have C : CT Y X RX11 cX11_hidden 4 := C
  refine go_aload_n (pc := 0) C 0 dX11_hidden_0 rfl ?_
  refine go_iconst (pc := 1) C dX11_hidden_1 ki_0 ?_
  refine go_pI (pc := 2) C fpX11_77 dX11_hidden_2 (fun h17 => ?_)
  refine go_iconst (pc := 5) C dX11_hidden_5 ki_0 ?_
  refine go_istore_n (ls' := [(1, .int 0), (0, .ref a0)]) (pc := 6) C dX11_hidden_6 (by decide) rfl ?_
  refine go_aload_n (pc := 7) C 1 dX11_hidden_7 rfl ?_
  refine go_iconst (pc := 8) C dX11_hidden_8 ki_0 ?_
  refine go_pI (pc := 9) C fpX11_81 dX11_hidden_9 (fun h18 => ?_)
  refine go_iconst (pc := 12) C dX11_hidden_12 ki_0 ?_
  refine go_istore_n (ls' := [(2, .int 0), (1, .int 0), (0, .ref a0)]) (pc := 13) C dX11_hidden_13 (by decide) rfl ?_
  refine go_sub (ls' := [(0, .ref a0), (1, .int 0), (2, .int 0)]) [2, 1, 0] rfl ?_
  refine gX11_hidden_L14 C O E FU h18 a0 0 0
theorem dX11_frames_0 : decode cX11_frames 0 = .ok (.aload_n 0, 1) := by decide +kernel
theorem dX11_frames_1 : decode cX11_frames 1 = .ok (.iconst 0, 1) := by decide +kernel
theorem dX11_frames_2 : decode cX11_frames 2 = .ok (.putfield 77, 3) := by decide +kernel
theorem dX11_frames_5 : decode cX11_frames 5 = .ok (.iconst 0, 1) := by decide +kernel
theorem dX11_frames_6 : decode cX11_frames 6 = .ok (.istore_n 1, 1) := by decide +kernel
theorem dX11_frames_7 : decode cX11_frames 7 = .ok (.iconst 0, 1) := by decide +kernel
theorem dX11_frames_8 : decode cX11_frames 8 = .ok (.istore_n 2, 1) := by decide +kernel
theorem dX11_frames_9 : decode cX11_frames 9 = .ok (.iload_n 2, 1) := by decide +kernel
theorem dX11_frames_10 : decode cX11_frames 10 = .ok (.bipush 6, 2) := by decide +kernel
theorem dX11_frames_12 : decode cX11_frames 12 = .ok (.if_icmp .ge 55, 3) := by decide +kernel
theorem dX11_frames_15 : decode cX11_frames 15 = .ok (.iconst 0, 1) := by decide +kernel
theorem dX11_frames_16 : decode cX11_frames 16 = .ok (.istore_n 3, 1) := by decide +kernel
theorem dX11_frames_17 : decode cX11_frames 17 = .ok (.iload_n 3, 1) := by decide +kernel
theorem dX11_frames_18 : decode cX11_frames 18 = .ok (.bipush 8, 2) := by decide +kernel
theorem dX11_frames_20 : decode cX11_frames 20 = .ok (.if_icmp .ge 41, 3) := by decide +kernel
theorem dX11_frames_23 : decode cX11_frames 23 = .ok (.iload_n 1, 1) := by decide +kernel
theorem dX11_frames_24 : decode cX11_frames 24 = .ok (.aload_n 0, 1) := by decide +kernel
theorem dX11_frames_25 : decode cX11_frames 25 = .ok (.getfield 9, 3) := by decide +kernel
theorem dX11_frames_28 : decode cX11_frames 28 = .ok (.iload_n 2, 1) := by decide +kernel
theorem dX11_frames_29 : decode cX11_frames 29 = .ok (.invokestatic 106, 3) := by decide +kernel
theorem dX11_frames_32 : decode cX11_frames 32 = .ok (.ifCond .eq 20, 3) := by decide +kernel
theorem dX11_frames_35 : decode cX11_frames 35 = .ok (.aload_n 0, 1) := by decide +kernel
theorem dX11_frames_36 : decode cX11_frames 36 = .ok (.getfield 9, 3) := by decide +kernel
theorem dX11_frames_39 : decode cX11_frames 39 = .ok (.iload_n 2, 1) := by decide +kernel
theorem dX11_frames_40 : decode cX11_frames 40 = .ok (.iload_n 3, 1) := by decide +kernel
theorem dX11_frames_41 : decode cX11_frames 41 = .ok (.invokestatic 356, 3) := by decide +kernel
theorem dX11_frames_44 : decode cX11_frames 44 = .ok (.iconst (-1), 1) := by decide +kernel
theorem dX11_frames_45 : decode cX11_frames 45 = .ok (.if_icmp .eq 7, 3) := by decide +kernel
theorem dX11_frames_48 : decode cX11_frames 48 = .ok (.iconst 1, 1) := by decide +kernel
theorem dX11_frames_49 : decode cX11_frames 49 = .ok (.goto 4, 3) := by decide +kernel
theorem dX11_frames_52 : decode cX11_frames 52 = .ok (.iconst 0, 1) := by decide +kernel
theorem dX11_frames_53 : decode cX11_frames 53 = .ok (.iadd, 1) := by decide +kernel
theorem dX11_frames_54 : decode cX11_frames 54 = .ok (.istore_n 1, 1) := by decide +kernel
theorem dX11_frames_55 : decode cX11_frames 55 = .ok (.iinc 3 1, 3) := by decide +kernel
theorem dX11_frames_58 : decode cX11_frames 58 = .ok (.goto (-41), 3) := by decide +kernel
theorem dX11_frames_61 : decode cX11_frames 61 = .ok (.iinc 2 1, 3) := by decide +kernel
theorem dX11_frames_64 : decode cX11_frames 64 = .ok (.goto (-55), 3) := by decide +kernel
theorem dX11_frames_67 : decode cX11_frames 67 = .ok (.aload_n 0, 1) := by decide +kernel
theorem dX11_frames_68 : decode cX11_frames 68 = .ok (.iconst 0, 1) := by decide +kernel
theorem dX11_frames_69 : decode cX11_frames 69 = .ok (.putfield 81, 3) := by decide +kernel
theorem dX11_frames_72 : decode cX11_frames 72 = .ok (.aload_n 0, 1) := by decide +kernel
theorem dX11_frames_73 : decode cX11_frames 73 = .ok (.iload_n 1, 1) := by decide +kernel
theorem dX11_frames_74 : decode cX11_frames 74 = .ok (.i2l, 1) := by decide +kernel
theorem dX11_frames_75 : decode cX11_frames 75 = .ok (.invokevirtual 283, 3) := by decide +kernel
theorem dX11_frames_78 : decode cX11_frames 78 = .ok (.aload_n 0, 1) := by decide +kernel
theorem dX11_frames_79 : decode cX11_frames 79 = .ok (.aload_n 0, 1) := by decide +kernel
theorem dX11_frames_80 : decode cX11_frames 80 = .ok (.getfield 9, 3) := by decide +kernel
theorem dX11_frames_83 : decode cX11_frames 83 = .ok (.invokestatic 224, 3) := by decide +kernel
theorem dX11_frames_86 : decode cX11_frames 86 = .ok (.invokestatic 100, 3) := by decide +kernel
theorem dX11_frames_89 : decode cX11_frames 89 = .ok (.i2l, 1) := by decide +kernel
theorem dX11_frames_90 : decode cX11_frames 90 = .ok (.invokevirtual 283, 3) := by decide +kernel
theorem dX11_frames_93 : decode cX11_frames 93 = .ok (.aload_n 0, 1) := by decide +kernel
theorem dX11_frames_94 : decode cX11_frames 94 = .ok (.getfield 9, 3) := by decide +kernel
theorem dX11_frames_97 : decode cX11_frames 97 = .ok (.invokestatic 181, 3) := by decide +kernel
theorem dX11_frames_100 : decode cX11_frames 100 = .ok (.ireturn, 1) := by decide +kernel
def fX11_frames_J53 (k17 : AH → Nat → Int32 → Int32 → Int32 → Option (Int32 × AH)) (h : AH) (v0 : Nat) (v2 : Int32) (v3 : Int32) (s0 : Int32) (s1 : Int32) : Option (Int32 × AH) :=
    letF (s1 + s0 : Int32) fun x1 =>
    letF (v3 + 1 : Int32) fun x2 =>
    k17 h v0 x1 v2 x2
def fX11_frames_L17 (k61 : AH → Nat → Int32 → Int32 → Option (Int32 × AH)) : Nat → AH → Nat → Int32 → Int32 → Int32 → Option (Int32 × AH)
  | 0, _, _, _, _, _ => none
  | n + 1, h, v0, v1, v2, v3 =>
    if 8 ≤ v3 then (
      k61 h v0 v1 v2
    ) else (
      (gR h 11 v0 0).bind fun x3 =>
      (fX11_isSpace h x3 v2).bind fun q4 =>
      if q4 = true then (
        (gR h 11 v0 0).bind fun x5 =>
        (fX11_frameOf h x5 v2 v3).bind fun q6 =>
        if q6 = ((-1)) then (
          fX11_frames_J53 (fX11_frames_L17 k61 n) h v0 v2 v3 0 v1
        ) else (
          fX11_frames_J53 (fX11_frames_L17 k61 n) h v0 v2 v3 1 v1
        )
      ) else (
        fX11_frames_J53 (fX11_frames_L17 k61 n) h v0 v2 v3 0 v1
      )
    )
def fX11_frames_L9 (k67 : AH → Nat → Int32 → Option (Int32 × AH)) : Nat → AH → Nat → Int32 → Int32 → Option (Int32 × AH)
  | 0, _, _, _, _ => none
  | n + 1, h, v0, v1, v2 =>
    if 6 ≤ v2 then (
      k67 h v0 v1
    ) else (
      fX11_frames_L17
        (fun h10 x7 x8 x9 =>
          letF (x9 + 1 : Int32) fun x11 =>
          fX11_frames_L9 k67 n h10 x7 x8 x11)
        FU h v0 v1 v2 0
    )
def fX11_frames (h : AH) (a0 : Nat) : Option (Int32 × AH) :=
  if hasC h 11 a0 = true then (
    (pF h 11 a0 5 (.int 0)).bind fun h12 =>
    fX11_frames_L9
      (fun h15 x13 x14 =>
        (pF h15 11 x13 4 (.int 0)).bind fun h16 =>
        (fX11_tell h16 x13 (Int32.toInt64 x14)).bind fun q17 =>
        (gR q17 11 x13 0).bind fun x18 =>
        (fX11_objectsOf q17 x18).bind fun q19 =>
        (fJ6_bitCount_0f7a4 q17 q19).bind fun q20 =>
        (fX11_tell q17 x13 (Int32.toInt64 q20)).bind fun q21 =>
        (gR q21 11 x13 0).bind fun x22 =>
        (fX11_framesOf q21 x22).bind fun q23 =>
        some ((q23, q21)))
      FU h12 a0 0 0
  ) else none
set_option maxHeartbeats 4000000 in
theorem gX11_frames_J53 {Y : YT} {X : XT} (C : CT Y X RX11 cX11_frames 4) (O : RO X 4 0 0) {r : Int32 × AH} (E : RX Y X (some .int) (some (.int r.1)) r.2 0 0) {k17 : AH → Nat → Int32 → Int32 → Int32 → Option (Int32 × AH)} (hk17 : ∀ (h : AH) (v0 : Nat) (v1 : Int32) (v2 : Int32) (v3 : Int32), GO Y X 4 r h 0 0 17 [(0, .ref v0), (1, .int v1), (2, .int v2), (3, .int v3)] [] (k17 h v0 v1 v2 v3)) : ∀ (h : AH) (v0 : Nat) (v2 : Int32) (v3 : Int32) (s0 : Int32) (s1 : Int32), GO Y X 4 r h 0 0 53 [(0, .ref v0), (2, .int v2), (3, .int v3)] [.int s0, .int s1] (fX11_frames_J53 k17 h v0 v2 v3 s0 s1) := by
  intro h v0 v2 v3 s0 s1
  unfold fX11_frames_J53
  refine go_iadd (pc := 53) C dX11_frames_53 ?_
  refine go_istore_nL (pc := 54) C dX11_frames_54 (by decide) (fun x1 => [(1, .int x1), (0, .ref v0), (2, .int v2), (3, .int v3)]) (fun _ => rfl) (fun x1 => ?_)
  refine go_iincL (pc := 55) C 3 dX11_frames_55 rfl ki_1 (by decide) (fun x2 => [(3, .int x2), (1, .int x1), (0, .ref v0), (2, .int v2)]) (fun _ => rfl) (fun x2 => ?_)
  refine go_goto (pc := 58) C 17 dX11_frames_58 (by decide) ?_
  refine go_sub (ls' := [(0, .ref v0), (1, .int x1), (2, .int v2), (3, .int x2)]) [2, 1, 3, 0] rfl ?_
  exact hk17 h v0 x1 v2 x2
set_option maxHeartbeats 4000000 in
theorem gX11_frames_L17 {Y : YT} {X : XT} (C : CT Y X RX11 cX11_frames 4) (O : RO X 4 0 0) {r : Int32 × AH} (E : RX Y X (some .int) (some (.int r.1)) r.2 0 0) {k61 : AH → Nat → Int32 → Int32 → Option (Int32 × AH)} (hk61 : ∀ (h : AH) (v0 : Nat) (v1 : Int32) (v2 : Int32), GO Y X 4 r h 0 0 61 [(0, .ref v0), (1, .int v1), (2, .int v2)] [] (k61 h v0 v1 v2)) : ∀ (n : Nat) (h : AH) (v0 : Nat) (v1 : Int32) (v2 : Int32) (v3 : Int32), GO Y X 4 r h 0 0 17 [(0, .ref v0), (1, .int v1), (2, .int v2), (3, .int v3)] [] (fX11_frames_L17 k61 n h v0 v1 v2 v3) := by
  intro n
  induction n with
  | zero => intros; exact go_none _ _ _
  | succ n ih =>
    intro h v0 v1 v2 v3
    rw [fX11_frames_L17]
    refine go_iload_n (pc := 17) C 3 dX11_frames_17 rfl ?_
    refine go_bipush (pc := 18) C dX11_frames_18 kb_8 ?_
    refine go_icmp_ge (pc := 20) C 61 dX11_frames_20 (by decide) (fun _ => ?_) (fun _ => ?_)
    · refine go_sub (ls' := [(0, .ref v0), (1, .int v1), (2, .int v2)]) [0, 1, 2] rfl ?_
      exact hk61 h v0 v1 v2
    · refine go_iload_n (pc := 23) C 1 dX11_frames_23 rfl ?_
      refine go_aload_n (pc := 24) C 0 dX11_frames_24 rfl ?_
      refine go_gR (pc := 25) C fdX11_9 dX11_frames_25 (fun x3 => ?_)
      refine go_iload_n (pc := 28) C 2 dX11_frames_28 rfl ?_
      refine go_bind (fun q4 hq4 => ?_)
      refine go_callS (rest := [.int v1]) (st' := [.int (b2i q4), .int v1]) (c' := 0) (s' := 0) (pc := 29) C O miX11_106 w_1479 [.ref x3, .int v2] rfl (mX11_isSpace hq4) dX11_frames_29 ⟨by decide, by decide, by decide, by decide⟩ rfl (Nat.le_of_ble_eq_true rfl) rfl ⟨rfl, rfl⟩ ?_
      refine go_ifZ_eq (pc := 32) C 52 dX11_frames_32 (by decide) (fun _ => ?_) (fun _ => ?_)
      · refine go_aload_n (pc := 35) C 0 dX11_frames_35 rfl ?_
        refine go_gR (pc := 36) C fdX11_9 dX11_frames_36 (fun x5 => ?_)
        refine go_iload_n (pc := 39) C 2 dX11_frames_39 rfl ?_
        refine go_iload_n (pc := 40) C 3 dX11_frames_40 rfl ?_
        refine go_bind (fun q6 hq6 => ?_)
        refine go_callS (rest := [.int v1]) (st' := [.int q6, .int v1]) (c' := 0) (s' := 0) (pc := 41) C O miX11_356 w_1744 [.ref x5, .int v2, .int v3] rfl (mX11_frameOf hq6) dX11_frames_41 ⟨by decide, by decide, by decide, by decide⟩ rfl (Nat.le_of_ble_eq_true rfl) rfl ⟨rfl, rfl⟩ ?_
        refine go_iconst (pc := 44) C dX11_frames_44 ki_m1 ?_
        refine go_icmp_eq (pc := 45) C 52 dX11_frames_45 (by decide) (fun _ => ?_) (fun _ => ?_)
        · refine go_iconst (pc := 52) C dX11_frames_52 ki_0 ?_
          refine go_sub (ls' := [(0, .ref v0), (2, .int v2), (3, .int v3)]) [0, 2, 3] rfl ?_
          refine gX11_frames_J53 C O E (ih) h v0 v2 v3 0 v1
        · refine go_iconst (pc := 48) C dX11_frames_48 ki_1 ?_
          refine go_goto (pc := 49) C 53 dX11_frames_49 (by decide) ?_
          refine go_sub (ls' := [(0, .ref v0), (2, .int v2), (3, .int v3)]) [0, 2, 3] rfl ?_
          refine gX11_frames_J53 C O E (ih) h v0 v2 v3 1 v1
      · refine go_iconst (pc := 52) C dX11_frames_52 ki_0 ?_
        refine go_sub (ls' := [(0, .ref v0), (2, .int v2), (3, .int v3)]) [0, 2, 3] rfl ?_
        refine gX11_frames_J53 C O E (ih) h v0 v2 v3 0 v1
set_option maxHeartbeats 4000000 in
theorem gX11_frames_L9 {Y : YT} {X : XT} (C : CT Y X RX11 cX11_frames 4) (O : RO X 4 0 0) {r : Int32 × AH} (E : RX Y X (some .int) (some (.int r.1)) r.2 0 0) {k67 : AH → Nat → Int32 → Option (Int32 × AH)} (hk67 : ∀ (h : AH) (v0 : Nat) (v1 : Int32), GO Y X 4 r h 0 0 67 [(0, .ref v0), (1, .int v1)] [] (k67 h v0 v1)) : ∀ (n : Nat) (h : AH) (v0 : Nat) (v1 : Int32) (v2 : Int32), GO Y X 4 r h 0 0 9 [(0, .ref v0), (1, .int v1), (2, .int v2)] [] (fX11_frames_L9 k67 n h v0 v1 v2) := by
  intro n
  induction n with
  | zero => intros; exact go_none _ _ _
  | succ n ih =>
    intro h v0 v1 v2
    rw [fX11_frames_L9]
    refine go_iload_n (pc := 9) C 2 dX11_frames_9 rfl ?_
    refine go_bipush (pc := 10) C dX11_frames_10 kb_6 ?_
    refine go_icmp_ge (pc := 12) C 67 dX11_frames_12 (by decide) (fun _ => ?_) (fun _ => ?_)
    · refine go_sub (ls' := [(0, .ref v0), (1, .int v1)]) [0, 1] rfl ?_
      exact hk67 h v0 v1
    · refine go_iconst (pc := 15) C dX11_frames_15 ki_0 ?_
      refine go_istore_n (ls' := [(3, .int 0), (0, .ref v0), (1, .int v1), (2, .int v2)]) (pc := 16) C dX11_frames_16 (by decide) rfl ?_
      refine go_sub (ls' := [(0, .ref v0), (1, .int v1), (2, .int v2), (3, .int 0)]) [1, 2, 3, 0] rfl ?_
      refine gX11_frames_L17 C O E (fun h10 x7 x8 x9 => ?_) FU h v0 v1 v2 0
      · refine go_iincL (pc := 61) C 2 dX11_frames_61 rfl ki_1 (by decide) (fun x11 => [(2, .int x11), (0, .ref x7), (1, .int x8)]) (fun _ => rfl) (fun x11 => ?_)
        refine go_goto (pc := 64) C 9 dX11_frames_64 (by decide) ?_
        refine go_sub (ls' := [(0, .ref x7), (1, .int x8), (2, .int x11)]) [1, 2, 0] rfl ?_
        exact ih h10 x7 x8 x11
set_option maxHeartbeats 4000000 in
theorem mX11_frames {h : AH} {a0 : Nat} {r : Int32 × AH} (hr : fX11_frames h a0 = some r) : hasC h 11 a0 = true ∧ MC yX11_frames cX11_frames 4 (some .int) 4 0 0 [.ref a0] h (some (.int r.1)) r.2 := by
  unfold fX11_frames at hr
  obtain ⟨hc, hr⟩ := if_some hr
  refine ⟨hc, mc_of (l0 := [(0, .ref a0)]) rfl pn_X11 (Nat.le_of_ble_eq_true rfl) (fun Y X C E O hnm => go_run hr ?_)⟩
  have C : CT Y X RX11 cX11_frames 4 := C
  refine go_aload_n (pc := 0) C 0 dX11_frames_0 rfl ?_
  refine go_iconst (pc := 1) C dX11_frames_1 ki_0 ?_
  refine go_pI (pc := 2) C fpX11_77 dX11_frames_2 (fun h12 => ?_)
  refine go_iconst (pc := 5) C dX11_frames_5 ki_0 ?_
  refine go_istore_n (ls' := [(1, .int 0), (0, .ref a0)]) (pc := 6) C dX11_frames_6 (by decide) rfl ?_
  refine go_iconst (pc := 7) C dX11_frames_7 ki_0 ?_
  refine go_istore_n (ls' := [(2, .int 0), (1, .int 0), (0, .ref a0)]) (pc := 8) C dX11_frames_8 (by decide) rfl ?_
  refine go_sub (ls' := [(0, .ref a0), (1, .int 0), (2, .int 0)]) [2, 1, 0] rfl ?_
  refine gX11_frames_L9 C O E (fun h15 x13 x14 => ?_) FU h12 a0 0 0
  · refine go_aload_n (pc := 67) C 0 dX11_frames_67 rfl ?_
    refine go_iconst (pc := 68) C dX11_frames_68 ki_0 ?_
    refine go_pI (pc := 69) C fpX11_81 dX11_frames_69 (fun h16 => ?_)
    refine go_aload_n (pc := 72) C 0 dX11_frames_72 rfl ?_
    refine go_iload_n (pc := 73) C 1 dX11_frames_73 rfl ?_
    refine go_i2l (pc := 74) C dX11_frames_74 ?_
    refine go_bind (fun q17 hq17 => ?_)
    refine go_callV (rest := []) (st' := []) (c' := 0) (s' := 0) (pc := 75) C O miX11_283 mvX11_tell [.long (Int32.toInt64 x14)] rfl (mX11_tell hq17).1 (mX11_tell hq17).2 dX11_frames_75 ⟨by decide, by decide, by decide, by decide⟩ rfl (Nat.le_of_ble_eq_true rfl) rfl ⟨rfl, rfl⟩ ?_
    refine go_aload_n (pc := 78) C 0 dX11_frames_78 rfl ?_
    refine go_aload_n (pc := 79) C 0 dX11_frames_79 rfl ?_
    refine go_gR (pc := 80) C fdX11_9 dX11_frames_80 (fun x18 => ?_)
    refine go_bind (fun q19 hq19 => ?_)
    refine go_callS (rest := [.ref x13]) (st' := [.int q19, .ref x13]) (c' := 0) (s' := 0) (pc := 83) C O miX11_224 w_1562 [.ref x18] rfl (mX11_objectsOf hq19) dX11_frames_83 ⟨by decide, by decide, by decide, by decide⟩ rfl (Nat.le_of_ble_eq_true rfl) rfl ⟨rfl, rfl⟩ ?_
    refine go_bind (fun q20 hq20 => ?_)
    refine go_callS (rest := [.ref x13]) (st' := [.int q20, .ref x13]) (c' := 0) (s' := 0) (pc := 86) C O miX11_100 w_397 [.int q19] rfl (mJ6_bitCount_0f7a4 hq20) dX11_frames_86 ⟨by decide, by decide, by decide, by decide⟩ rfl (Nat.le_of_ble_eq_true rfl) rfl ⟨rfl, rfl⟩ ?_
    refine go_i2l (pc := 89) C dX11_frames_89 ?_
    refine go_bind (fun q21 hq21 => ?_)
    refine go_callV (rest := []) (st' := []) (c' := 0) (s' := 0) (pc := 90) C O miX11_283 mvX11_tell [.long (Int32.toInt64 q20)] rfl (mX11_tell hq21).1 (mX11_tell hq21).2 dX11_frames_90 ⟨by decide, by decide, by decide, by decide⟩ rfl (Nat.le_of_ble_eq_true rfl) rfl ⟨rfl, rfl⟩ ?_
    refine go_aload_n (pc := 93) C 0 dX11_frames_93 rfl ?_
    refine go_gR (pc := 94) C fdX11_9 dX11_frames_94 (fun x22 => ?_)
    refine go_bind (fun q23 hq23 => ?_)
    refine go_callS (rest := []) (st' := [.int q23]) (c' := 0) (s' := 0) (pc := 97) C O miX11_181 w_1488 [.ref x22] rfl (mX11_framesOf hq23) dX11_frames_97 ⟨by decide, by decide, by decide, by decide⟩ rfl (Nat.le_of_ble_eq_true rfl) rfl ⟨rfl, rfl⟩ ?_
    exact go_iret (w := wIh) (pc := 100) C E ((q23, q21)) q23 dX11_frames_100 rfl
theorem dX11_deepest_0 : decode cX11_deepest 0 = .ok (.aload_n 0, 1) := by decide +kernel
theorem dX11_deepest_1 : decode cX11_deepest 1 = .ok (.iconst 0, 1) := by decide +kernel
theorem dX11_deepest_2 : decode cX11_deepest 2 = .ok (.putfield 77, 3) := by decide +kernel
theorem dX11_deepest_5 : decode cX11_deepest 5 = .ok (.iconst (-1), 1) := by decide +kernel
theorem dX11_deepest_6 : decode cX11_deepest 6 = .ok (.istore_n 1, 1) := by decide +kernel
theorem dX11_deepest_7 : decode cX11_deepest 7 = .ok (.iconst 0, 1) := by decide +kernel
theorem dX11_deepest_8 : decode cX11_deepest 8 = .ok (.istore_n 2, 1) := by decide +kernel
theorem dX11_deepest_9 : decode cX11_deepest 9 = .ok (.iconst 0, 1) := by decide +kernel
theorem dX11_deepest_10 : decode cX11_deepest 10 = .ok (.istore_n 3, 1) := by decide +kernel
theorem dX11_deepest_11 : decode cX11_deepest 11 = .ok (.iload_n 3, 1) := by decide +kernel
theorem dX11_deepest_12 : decode cX11_deepest 12 = .ok (.bipush 6, 2) := by decide +kernel
theorem dX11_deepest_14 : decode cX11_deepest 14 = .ok (.if_icmp .ge 84, 3) := by decide +kernel
theorem dX11_deepest_17 : decode cX11_deepest 17 = .ok (.aload_n 0, 1) := by decide +kernel
theorem dX11_deepest_18 : decode cX11_deepest 18 = .ok (.getfield 9, 3) := by decide +kernel
theorem dX11_deepest_21 : decode cX11_deepest 21 = .ok (.iload_n 3, 1) := by decide +kernel
theorem dX11_deepest_22 : decode cX11_deepest 22 = .ok (.invokestatic 106, 3) := by decide +kernel
theorem dX11_deepest_25 : decode cX11_deepest 25 = .ok (.ifCond .ne 6, 3) := by decide +kernel
theorem dX11_deepest_28 : decode cX11_deepest 28 = .ok (.goto 64, 3) := by decide +kernel
theorem dX11_deepest_31 : decode cX11_deepest 31 = .ok (.iload_n 1, 1) := by decide +kernel
theorem dX11_deepest_32 : decode cX11_deepest 32 = .ok (.iconst (-1), 1) := by decide +kernel
theorem dX11_deepest_33 : decode cX11_deepest 33 = .ok (.if_icmp .ne 7, 3) := by decide +kernel
theorem dX11_deepest_36 : decode cX11_deepest 36 = .ok (.iconst 1, 1) := by decide +kernel
theorem dX11_deepest_37 : decode cX11_deepest 37 = .ok (.goto 20, 3) := by decide +kernel
theorem dX11_deepest_40 : decode cX11_deepest 40 = .ok (.aload_n 0, 1) := by decide +kernel
theorem dX11_deepest_41 : decode cX11_deepest 41 = .ok (.getfield 9, 3) := by decide +kernel
theorem dX11_deepest_44 : decode cX11_deepest 44 = .ok (.iload_n 3, 1) := by decide +kernel
theorem dX11_deepest_45 : decode cX11_deepest 45 = .ok (.invokestatic 116, 3) := by decide +kernel
theorem dX11_deepest_48 : decode cX11_deepest 48 = .ok (.aload_n 0, 1) := by decide +kernel
theorem dX11_deepest_49 : decode cX11_deepest 49 = .ok (.getfield 9, 3) := by decide +kernel
theorem dX11_deepest_52 : decode cX11_deepest 52 = .ok (.iload_n 1, 1) := by decide +kernel
theorem dX11_deepest_53 : decode cX11_deepest 53 = .ok (.invokestatic 116, 3) := by decide +kernel
theorem dX11_deepest_56 : decode cX11_deepest 56 = .ok (.isub, 1) := by decide +kernel
theorem dX11_deepest_57 : decode cX11_deepest 57 = .ok (.istore 4, 2) := by decide +kernel
theorem dX11_deepest_59 : decode cX11_deepest 59 = .ok (.iload 4, 2) := by decide +kernel
theorem dX11_deepest_61 : decode cX11_deepest 61 = .ok (.ifCond .le 7, 3) := by decide +kernel
theorem dX11_deepest_64 : decode cX11_deepest 64 = .ok (.iload_n 3, 1) := by decide +kernel
theorem dX11_deepest_65 : decode cX11_deepest 65 = .ok (.goto 4, 3) := by decide +kernel
theorem dX11_deepest_68 : decode cX11_deepest 68 = .ok (.iload_n 1, 1) := by decide +kernel
theorem dX11_deepest_69 : decode cX11_deepest 69 = .ok (.istore_n 1, 1) := by decide +kernel
theorem dX11_deepest_70 : decode cX11_deepest 70 = .ok (.iload 4, 2) := by decide +kernel
theorem dX11_deepest_72 : decode cX11_deepest 72 = .ok (.ifCond .le 7, 3) := by decide +kernel
theorem dX11_deepest_75 : decode cX11_deepest 75 = .ok (.iconst 1, 1) := by decide +kernel
theorem dX11_deepest_76 : decode cX11_deepest 76 = .ok (.goto 15, 3) := by decide +kernel
theorem dX11_deepest_79 : decode cX11_deepest 79 = .ok (.iload 4, 2) := by decide +kernel
theorem dX11_deepest_81 : decode cX11_deepest 81 = .ok (.ifCond .ne 9, 3) := by decide +kernel
theorem dX11_deepest_84 : decode cX11_deepest 84 = .ok (.iload_n 2, 1) := by decide +kernel
theorem dX11_deepest_85 : decode cX11_deepest 85 = .ok (.iconst 1, 1) := by decide +kernel
theorem dX11_deepest_86 : decode cX11_deepest 86 = .ok (.iadd, 1) := by decide +kernel
theorem dX11_deepest_87 : decode cX11_deepest 87 = .ok (.goto 4, 3) := by decide +kernel
theorem dX11_deepest_90 : decode cX11_deepest 90 = .ok (.iload_n 2, 1) := by decide +kernel
theorem dX11_deepest_91 : decode cX11_deepest 91 = .ok (.istore_n 2, 1) := by decide +kernel
theorem dX11_deepest_92 : decode cX11_deepest 92 = .ok (.iinc 3 1, 3) := by decide +kernel
theorem dX11_deepest_95 : decode cX11_deepest 95 = .ok (.goto (-84), 3) := by decide +kernel
theorem dX11_deepest_98 : decode cX11_deepest 98 = .ok (.iload_n 1, 1) := by decide +kernel
theorem dX11_deepest_99 : decode cX11_deepest 99 = .ok (.iconst (-1), 1) := by decide +kernel
theorem dX11_deepest_100 : decode cX11_deepest 100 = .ok (.if_icmp .ne 6, 3) := by decide +kernel
theorem dX11_deepest_103 : decode cX11_deepest 103 = .ok (.bipush (-2), 2) := by decide +kernel
theorem dX11_deepest_105 : decode cX11_deepest 105 = .ok (.ireturn, 1) := by decide +kernel
theorem dX11_deepest_106 : decode cX11_deepest 106 = .ok (.aload_n 0, 1) := by decide +kernel
theorem dX11_deepest_107 : decode cX11_deepest 107 = .ok (.iconst 0, 1) := by decide +kernel
theorem dX11_deepest_108 : decode cX11_deepest 108 = .ok (.putfield 81, 3) := by decide +kernel
theorem dX11_deepest_111 : decode cX11_deepest 111 = .ok (.aload_n 0, 1) := by decide +kernel
theorem dX11_deepest_112 : decode cX11_deepest 112 = .ok (.aload_n 0, 1) := by decide +kernel
theorem dX11_deepest_113 : decode cX11_deepest 113 = .ok (.getfield 9, 3) := by decide +kernel
theorem dX11_deepest_116 : decode cX11_deepest 116 = .ok (.iload_n 1, 1) := by decide +kernel
theorem dX11_deepest_117 : decode cX11_deepest 117 = .ok (.invokestatic 116, 3) := by decide +kernel
theorem dX11_deepest_120 : decode cX11_deepest 120 = .ok (.i2l, 1) := by decide +kernel
theorem dX11_deepest_121 : decode cX11_deepest 121 = .ok (.invokevirtual 283, 3) := by decide +kernel
theorem dX11_deepest_124 : decode cX11_deepest 124 = .ok (.aload_n 0, 1) := by decide +kernel
theorem dX11_deepest_125 : decode cX11_deepest 125 = .ok (.iload_n 2, 1) := by decide +kernel
theorem dX11_deepest_126 : decode cX11_deepest 126 = .ok (.i2l, 1) := by decide +kernel
theorem dX11_deepest_127 : decode cX11_deepest 127 = .ok (.invokevirtual 283, 3) := by decide +kernel
theorem dX11_deepest_130 : decode cX11_deepest 130 = .ok (.iload_n 1, 1) := by decide +kernel
theorem dX11_deepest_131 : decode cX11_deepest 131 = .ok (.ireturn, 1) := by decide +kernel
def fX11_deepest_J69 (k92 : AH → Nat → Int32 → Int32 → Int32 → Option (Int32 × AH)) (h : AH) (v0 : Nat) (v2 : Int32) (v3 : Int32) (v4 : Int32) (s0 : Int32) : Option (Int32 × AH) :=
    if v4 ≤ 0 then (
      if v4 = 0 then (
        letF (v2 + 1 : Int32) fun x1 =>
        k92 h v0 s0 x1 v3
      ) else (
        k92 h v0 s0 v2 v3
      )
    ) else (
      k92 h v0 s0 1 v3
    )
def fX11_deepest_J57 (k92 : AH → Nat → Int32 → Int32 → Int32 → Option (Int32 × AH)) (h : AH) (v0 : Nat) (v1 : Int32) (v2 : Int32) (v3 : Int32) (s0 : Int32) : Option (Int32 × AH) :=
    if s0 ≤ 0 then (
      fX11_deepest_J69 k92 h v0 v2 v3 s0 v1
    ) else (
      fX11_deepest_J69 k92 h v0 v2 v3 s0 v3
    )
def fX11_deepest_L11 (k98 : AH → Nat → Int32 → Int32 → Option (Int32 × AH)) : Nat → AH → Nat → Int32 → Int32 → Int32 → Option (Int32 × AH)
  | 0, _, _, _, _, _ => none
  | n + 1, h, v0, v1, v2, v3 =>
    if 6 ≤ v3 then (
      k98 h v0 v1 v2
    ) else (
      (gR h 11 v0 0).bind fun x2 =>
      (fX11_isSpace h x2 v3).bind fun q3 =>
      if q3 = true then (
        if v1 = ((-1)) then (
          fX11_deepest_J57
            (fun h8 x4 x5 x6 x7 =>
              letF (x7 + 1 : Int32) fun x9 =>
              fX11_deepest_L11 k98 n h8 x4 x5 x6 x9)
            h v0 v1 v2 v3 1
        ) else (
          (gR h 11 v0 0).bind fun x10 =>
          (fX11_lengthOf h x10 v3).bind fun q11 =>
          (gR h 11 v0 0).bind fun x12 =>
          (fX11_lengthOf h x12 v1).bind fun q13 =>
          fX11_deepest_J57
            (fun h18 x14 x15 x16 x17 =>
              letF (x17 + 1 : Int32) fun x19 =>
              fX11_deepest_L11 k98 n h18 x14 x15 x16 x19)
            h v0 v1 v2 v3 (q11 - q13)
        )
      ) else (
        letF (v3 + 1 : Int32) fun x20 =>
        fX11_deepest_L11 k98 n h v0 v1 v2 x20
      )
    )
def fX11_deepest (h : AH) (a0 : Nat) : Option (Int32 × AH) :=
  if hasC h 11 a0 = true then (
    (pF h 11 a0 5 (.int 0)).bind fun h21 =>
    fX11_deepest_L11
      (fun h25 x22 x23 x24 =>
        if x23 = ((-1)) then (
          some (((-2), h25))
        ) else (
          (pF h25 11 x22 4 (.int 0)).bind fun h26 =>
          (gR h26 11 x22 0).bind fun x27 =>
          (fX11_lengthOf h26 x27 x23).bind fun q28 =>
          (fX11_tell h26 x22 (Int32.toInt64 q28)).bind fun q29 =>
          (fX11_tell q29 x22 (Int32.toInt64 x24)).bind fun q30 =>
          some ((x23, q30))
        ))
      FU h21 a0 ((-1)) 0 0
  ) else none
set_option maxHeartbeats 4000000 in
theorem gX11_deepest_J69 {Y : YT} {X : XT} (C : CT Y X RX11 cX11_deepest 5) (O : RO X 3 0 0) {r : Int32 × AH} (E : RX Y X (some .int) (some (.int r.1)) r.2 0 0) {k92 : AH → Nat → Int32 → Int32 → Int32 → Option (Int32 × AH)} (hk92 : ∀ (h : AH) (v0 : Nat) (v1 : Int32) (v2 : Int32) (v3 : Int32), GO Y X 5 r h 0 0 92 [(0, .ref v0), (1, .int v1), (2, .int v2), (3, .int v3)] [] (k92 h v0 v1 v2 v3)) : ∀ (h : AH) (v0 : Nat) (v2 : Int32) (v3 : Int32) (v4 : Int32) (s0 : Int32), GO Y X 5 r h 0 0 69 [(0, .ref v0), (2, .int v2), (3, .int v3), (4, .int v4)] [.int s0] (fX11_deepest_J69 k92 h v0 v2 v3 v4 s0) := by
  intro h v0 v2 v3 v4 s0
  unfold fX11_deepest_J69
  refine go_istore_n (ls' := [(1, .int s0), (0, .ref v0), (2, .int v2), (3, .int v3), (4, .int v4)]) (pc := 69) C dX11_deepest_69 (by decide) rfl ?_
  refine go_iload (pc := 70) C 4 dX11_deepest_70 rfl ?_
  refine go_if_le (pc := 72) C 79 dX11_deepest_72 (by decide) (fun _ => ?_) (fun _ => ?_)
  · refine go_iload (pc := 79) C 4 dX11_deepest_79 rfl ?_
    refine go_if_ne (pc := 81) C 90 dX11_deepest_81 (by decide) (fun _ => ?_) (fun _ => ?_)
    · refine go_iload_n (pc := 84) C 2 dX11_deepest_84 rfl ?_
      refine go_iconst (pc := 85) C dX11_deepest_85 ki_1 ?_
      refine go_iadd (pc := 86) C dX11_deepest_86 ?_
      refine go_goto (pc := 87) C 91 dX11_deepest_87 (by decide) ?_
      refine go_istore_nL (pc := 91) C dX11_deepest_91 (by decide) (fun x1 => [(2, .int x1), (1, .int s0), (0, .ref v0), (3, .int v3), (4, .int v4)]) (fun _ => rfl) (fun x1 => ?_)
      refine go_sub (ls' := [(0, .ref v0), (1, .int s0), (2, .int x1), (3, .int v3)]) [2, 1, 0, 3] rfl ?_
      exact hk92 h v0 s0 x1 v3
    · refine go_iload_n (pc := 90) C 2 dX11_deepest_90 rfl ?_
      refine go_istore_n (ls' := [(2, .int v2), (1, .int s0), (0, .ref v0), (3, .int v3), (4, .int v4)]) (pc := 91) C dX11_deepest_91 (by decide) rfl ?_
      refine go_sub (ls' := [(0, .ref v0), (1, .int s0), (2, .int v2), (3, .int v3)]) [2, 1, 0, 3] rfl ?_
      exact hk92 h v0 s0 v2 v3
  · refine go_iconst (pc := 75) C dX11_deepest_75 ki_1 ?_
    refine go_goto (pc := 76) C 91 dX11_deepest_76 (by decide) ?_
    refine go_istore_n (ls' := [(2, .int 1), (1, .int s0), (0, .ref v0), (3, .int v3), (4, .int v4)]) (pc := 91) C dX11_deepest_91 (by decide) rfl ?_
    refine go_sub (ls' := [(0, .ref v0), (1, .int s0), (2, .int 1), (3, .int v3)]) [2, 1, 0, 3] rfl ?_
    exact hk92 h v0 s0 1 v3
set_option maxHeartbeats 4000000 in
theorem gX11_deepest_J57 {Y : YT} {X : XT} (C : CT Y X RX11 cX11_deepest 5) (O : RO X 3 0 0) {r : Int32 × AH} (E : RX Y X (some .int) (some (.int r.1)) r.2 0 0) {k92 : AH → Nat → Int32 → Int32 → Int32 → Option (Int32 × AH)} (hk92 : ∀ (h : AH) (v0 : Nat) (v1 : Int32) (v2 : Int32) (v3 : Int32), GO Y X 5 r h 0 0 92 [(0, .ref v0), (1, .int v1), (2, .int v2), (3, .int v3)] [] (k92 h v0 v1 v2 v3)) : ∀ (h : AH) (v0 : Nat) (v1 : Int32) (v2 : Int32) (v3 : Int32) (s0 : Int32), GO Y X 5 r h 0 0 57 [(0, .ref v0), (1, .int v1), (2, .int v2), (3, .int v3)] [.int s0] (fX11_deepest_J57 k92 h v0 v1 v2 v3 s0) := by
  intro h v0 v1 v2 v3 s0
  unfold fX11_deepest_J57
  refine go_istore (ls' := [(4, .int s0), (0, .ref v0), (1, .int v1), (2, .int v2), (3, .int v3)]) (pc := 57) C dX11_deepest_57 (by decide) rfl ?_
  refine go_iload (pc := 59) C 0 dX11_deepest_59 rfl ?_
  refine go_if_le (pc := 61) C 68 dX11_deepest_61 (by decide) (fun _ => ?_) (fun _ => ?_)
  · refine go_iload_n (pc := 68) C 2 dX11_deepest_68 rfl ?_
    refine go_sub (ls' := [(0, .ref v0), (2, .int v2), (3, .int v3), (4, .int s0)]) [1, 3, 4, 0] rfl ?_
    refine gX11_deepest_J69 C O E (hk92) h v0 v2 v3 s0 v1
  · refine go_iload_n (pc := 64) C 4 dX11_deepest_64 rfl ?_
    refine go_goto (pc := 65) C 69 dX11_deepest_65 (by decide) ?_
    refine go_sub (ls' := [(0, .ref v0), (2, .int v2), (3, .int v3), (4, .int s0)]) [1, 3, 4, 0] rfl ?_
    refine gX11_deepest_J69 C O E (hk92) h v0 v2 v3 s0 v3
set_option maxHeartbeats 4000000 in
theorem gX11_deepest_L11 {Y : YT} {X : XT} (C : CT Y X RX11 cX11_deepest 5) (O : RO X 3 0 0) {r : Int32 × AH} (E : RX Y X (some .int) (some (.int r.1)) r.2 0 0) {k98 : AH → Nat → Int32 → Int32 → Option (Int32 × AH)} (hk98 : ∀ (h : AH) (v0 : Nat) (v1 : Int32) (v2 : Int32), GO Y X 5 r h 0 0 98 [(0, .ref v0), (1, .int v1), (2, .int v2)] [] (k98 h v0 v1 v2)) : ∀ (n : Nat) (h : AH) (v0 : Nat) (v1 : Int32) (v2 : Int32) (v3 : Int32), GO Y X 5 r h 0 0 11 [(0, .ref v0), (1, .int v1), (2, .int v2), (3, .int v3)] [] (fX11_deepest_L11 k98 n h v0 v1 v2 v3) := by
  intro n
  induction n with
  | zero => intros; exact go_none _ _ _
  | succ n ih =>
    intro h v0 v1 v2 v3
    rw [fX11_deepest_L11]
    refine go_iload_n (pc := 11) C 3 dX11_deepest_11 rfl ?_
    refine go_bipush (pc := 12) C dX11_deepest_12 kb_6 ?_
    refine go_icmp_ge (pc := 14) C 98 dX11_deepest_14 (by decide) (fun _ => ?_) (fun _ => ?_)
    · refine go_sub (ls' := [(0, .ref v0), (1, .int v1), (2, .int v2)]) [0, 1, 2] rfl ?_
      exact hk98 h v0 v1 v2
    · refine go_aload_n (pc := 17) C 0 dX11_deepest_17 rfl ?_
      refine go_gR (pc := 18) C fdX11_9 dX11_deepest_18 (fun x2 => ?_)
      refine go_iload_n (pc := 21) C 3 dX11_deepest_21 rfl ?_
      refine go_bind (fun q3 hq3 => ?_)
      refine go_callS (rest := []) (st' := [.int (b2i q3)]) (c' := 0) (s' := 0) (pc := 22) C O miX11_106 w_1479 [.ref x2, .int v3] rfl (mX11_isSpace hq3) dX11_deepest_22 ⟨by decide, by decide, by decide, by decide⟩ rfl (Nat.le_of_ble_eq_true rfl) rfl ⟨rfl, rfl⟩ ?_
      refine go_ifZ_ne (pc := 25) C 31 dX11_deepest_25 (by decide) (fun _ => ?_) (fun _ => ?_)
      · refine go_iload_n (pc := 31) C 1 dX11_deepest_31 rfl ?_
        refine go_iconst (pc := 32) C dX11_deepest_32 ki_m1 ?_
        refine go_icmp_ne (pc := 33) C 40 dX11_deepest_33 (by decide) (fun _ => ?_) (fun _ => ?_)
        · refine go_iconst (pc := 36) C dX11_deepest_36 ki_1 ?_
          refine go_goto (pc := 37) C 57 dX11_deepest_37 (by decide) ?_
          refine go_sub (ls' := [(0, .ref v0), (1, .int v1), (2, .int v2), (3, .int v3)]) [0, 1, 2, 3] rfl ?_
          refine gX11_deepest_J57 C O E (fun h8 x4 x5 x6 x7 => ?_) h v0 v1 v2 v3 1
          · refine go_iincL (pc := 92) C 3 dX11_deepest_92 rfl ki_1 (by decide) (fun x9 => [(3, .int x9), (0, .ref x4), (1, .int x5), (2, .int x6)]) (fun _ => rfl) (fun x9 => ?_)
            refine go_goto (pc := 95) C 11 dX11_deepest_95 (by decide) ?_
            refine go_sub (ls' := [(0, .ref x4), (1, .int x5), (2, .int x6), (3, .int x9)]) [1, 2, 3, 0] rfl ?_
            exact ih h8 x4 x5 x6 x9
        · refine go_aload_n (pc := 40) C 0 dX11_deepest_40 rfl ?_
          refine go_gR (pc := 41) C fdX11_9 dX11_deepest_41 (fun x10 => ?_)
          refine go_iload_n (pc := 44) C 3 dX11_deepest_44 rfl ?_
          refine go_bind (fun q11 hq11 => ?_)
          refine go_callS (rest := []) (st' := [.int q11]) (c' := 0) (s' := 0) (pc := 45) C O miX11_116 w_1555 [.ref x10, .int v3] rfl (mX11_lengthOf hq11) dX11_deepest_45 ⟨by decide, by decide, by decide, by decide⟩ rfl (Nat.le_of_ble_eq_true rfl) rfl ⟨rfl, rfl⟩ ?_
          refine go_aload_n (pc := 48) C 0 dX11_deepest_48 rfl ?_
          refine go_gR (pc := 49) C fdX11_9 dX11_deepest_49 (fun x12 => ?_)
          refine go_iload_n (pc := 52) C 1 dX11_deepest_52 rfl ?_
          refine go_bind (fun q13 hq13 => ?_)
          refine go_callS (rest := [.int q11]) (st' := [.int q13, .int q11]) (c' := 0) (s' := 0) (pc := 53) C O miX11_116 w_1555 [.ref x12, .int v1] rfl (mX11_lengthOf hq13) dX11_deepest_53 ⟨by decide, by decide, by decide, by decide⟩ rfl (Nat.le_of_ble_eq_true rfl) rfl ⟨rfl, rfl⟩ ?_
          refine go_isub (pc := 56) C dX11_deepest_56 ?_
          refine go_sub (ls' := [(0, .ref v0), (1, .int v1), (2, .int v2), (3, .int v3)]) [0, 1, 2, 3] rfl ?_
          refine gX11_deepest_J57 C O E (fun h18 x14 x15 x16 x17 => ?_) h v0 v1 v2 v3 (q11 - q13)
          · refine go_iincL (pc := 92) C 3 dX11_deepest_92 rfl ki_1 (by decide) (fun x19 => [(3, .int x19), (0, .ref x14), (1, .int x15), (2, .int x16)]) (fun _ => rfl) (fun x19 => ?_)
            refine go_goto (pc := 95) C 11 dX11_deepest_95 (by decide) ?_
            refine go_sub (ls' := [(0, .ref x14), (1, .int x15), (2, .int x16), (3, .int x19)]) [1, 2, 3, 0] rfl ?_
            exact ih h18 x14 x15 x16 x19
      · refine go_goto (pc := 28) C 92 dX11_deepest_28 (by decide) ?_
        refine go_iincL (pc := 92) C 3 dX11_deepest_92 rfl ki_1 (by decide) (fun x20 => [(3, .int x20), (0, .ref v0), (1, .int v1), (2, .int v2)]) (fun _ => rfl) (fun x20 => ?_)
        refine go_goto (pc := 95) C 11 dX11_deepest_95 (by decide) ?_
        refine go_sub (ls' := [(0, .ref v0), (1, .int v1), (2, .int v2), (3, .int x20)]) [1, 2, 3, 0] rfl ?_
        exact ih h v0 v1 v2 x20
set_option maxHeartbeats 4000000 in
theorem mX11_deepest {h : AH} {a0 : Nat} {r : Int32 × AH} (hr : fX11_deepest h a0 = some r) : hasC h 11 a0 = true ∧ MC yX11_deepest cX11_deepest 5 (some .int) 3 0 0 [.ref a0] h (some (.int r.1)) r.2 := by
  unfold fX11_deepest at hr
  obtain ⟨hc, hr⟩ := if_some hr
  refine ⟨hc, mc_of (l0 := [(0, .ref a0)]) rfl pn_X11 (Nat.le_of_ble_eq_true rfl) (fun Y X C E O hnm => go_run hr ?_)⟩
  have C : CT Y X RX11 cX11_deepest 5 := C
  refine go_aload_n (pc := 0) C 0 dX11_deepest_0 rfl ?_
  refine go_iconst (pc := 1) C dX11_deepest_1 ki_0 ?_
  refine go_pI (pc := 2) C fpX11_77 dX11_deepest_2 (fun h21 => ?_)
  refine go_iconst (pc := 5) C dX11_deepest_5 ki_m1 ?_
  refine go_istore_n (ls' := [(1, .int ((-1))), (0, .ref a0)]) (pc := 6) C dX11_deepest_6 (by decide) rfl ?_
  refine go_iconst (pc := 7) C dX11_deepest_7 ki_0 ?_
  refine go_istore_n (ls' := [(2, .int 0), (1, .int ((-1))), (0, .ref a0)]) (pc := 8) C dX11_deepest_8 (by decide) rfl ?_
  refine go_iconst (pc := 9) C dX11_deepest_9 ki_0 ?_
  refine go_istore_n (ls' := [(3, .int 0), (2, .int 0), (1, .int ((-1))), (0, .ref a0)]) (pc := 10) C dX11_deepest_10 (by decide) rfl ?_
  refine go_sub (ls' := [(0, .ref a0), (1, .int ((-1))), (2, .int 0), (3, .int 0)]) [3, 2, 1, 0] rfl ?_
  refine gX11_deepest_L11 C O E (fun h25 x22 x23 x24 => ?_) FU h21 a0 ((-1)) 0 0
  · refine go_iload_n (pc := 98) C 1 dX11_deepest_98 rfl ?_
    refine go_iconst (pc := 99) C dX11_deepest_99 ki_m1 ?_
    refine go_icmp_ne (pc := 100) C 106 dX11_deepest_100 (by decide) (fun _ => ?_) (fun _ => ?_)
    · refine go_bipush (pc := 103) C dX11_deepest_103 kb_m2 ?_
      exact go_iret (w := wIh) (pc := 105) C E (((-2), h25)) ((-2)) dX11_deepest_105 rfl
    · refine go_aload_n (pc := 106) C 0 dX11_deepest_106 rfl ?_
      refine go_iconst (pc := 107) C dX11_deepest_107 ki_0 ?_
      refine go_pI (pc := 108) C fpX11_81 dX11_deepest_108 (fun h26 => ?_)
      refine go_aload_n (pc := 111) C 0 dX11_deepest_111 rfl ?_
      refine go_aload_n (pc := 112) C 0 dX11_deepest_112 rfl ?_
      refine go_gR (pc := 113) C fdX11_9 dX11_deepest_113 (fun x27 => ?_)
      refine go_iload_n (pc := 116) C 1 dX11_deepest_116 rfl ?_
      refine go_bind (fun q28 hq28 => ?_)
      refine go_callS (rest := [.ref x22]) (st' := [.int q28, .ref x22]) (c' := 0) (s' := 0) (pc := 117) C O miX11_116 w_1555 [.ref x27, .int x23] rfl (mX11_lengthOf hq28) dX11_deepest_117 ⟨by decide, by decide, by decide, by decide⟩ rfl (Nat.le_of_ble_eq_true rfl) rfl ⟨rfl, rfl⟩ ?_
      refine go_i2l (pc := 120) C dX11_deepest_120 ?_
      refine go_bind (fun q29 hq29 => ?_)
      refine go_callV (rest := []) (st' := []) (c' := 0) (s' := 0) (pc := 121) C O miX11_283 mvX11_tell [.long (Int32.toInt64 q28)] rfl (mX11_tell hq29).1 (mX11_tell hq29).2 dX11_deepest_121 ⟨by decide, by decide, by decide, by decide⟩ rfl (Nat.le_of_ble_eq_true rfl) rfl ⟨rfl, rfl⟩ ?_
      refine go_aload_n (pc := 124) C 0 dX11_deepest_124 rfl ?_
      refine go_iload_n (pc := 125) C 2 dX11_deepest_125 rfl ?_
      refine go_i2l (pc := 126) C dX11_deepest_126 ?_
      refine go_bind (fun q30 hq30 => ?_)
      refine go_callV (rest := []) (st' := []) (c' := 0) (s' := 0) (pc := 127) C O miX11_283 mvX11_tell [.long (Int32.toInt64 x24)] rfl (mX11_tell hq30).1 (mX11_tell hq30).2 dX11_deepest_127 ⟨by decide, by decide, by decide, by decide⟩ rfl (Nat.le_of_ble_eq_true rfl) rfl ⟨rfl, rfl⟩ ?_
      refine go_iload_n (pc := 130) C 1 dX11_deepest_130 rfl ?_
      exact go_iret (w := wIh) (pc := 131) C E ((x23, q30)) x23 dX11_deepest_131 rfl
theorem dX11_would_0 : decode cX11_would 0 = .ok (.aload_n 0, 1) := by decide +kernel
theorem dX11_would_1 : decode cX11_would 1 = .ok (.iconst 0, 1) := by decide +kernel
theorem dX11_would_2 : decode cX11_would 2 = .ok (.putfield 77, 3) := by decide +kernel
theorem dX11_would_5 : decode cX11_would 5 = .ok (.aload_n 0, 1) := by decide +kernel
theorem dX11_would_6 : decode cX11_would 6 = .ok (.getfield 9, 3) := by decide +kernel
theorem dX11_would_9 : decode cX11_would 9 = .ok (.iload_n 1, 1) := by decide +kernel
theorem dX11_would_10 : decode cX11_would 10 = .ok (.invokestatic 106, 3) := by decide +kernel
theorem dX11_would_13 : decode cX11_would 13 = .ok (.ifCond .ne 5, 3) := by decide +kernel
theorem dX11_would_16 : decode cX11_would 16 = .ok (.iconst (-1), 1) := by decide +kernel
theorem dX11_would_17 : decode cX11_would 17 = .ok (.ireturn, 1) := by decide +kernel
theorem dX11_would_18 : decode cX11_would 18 = .ok (.aload_n 0, 1) := by decide +kernel
theorem dX11_would_19 : decode cX11_would 19 = .ok (.getfield 9, 3) := by decide +kernel
theorem dX11_would_22 : decode cX11_would 22 = .ok (.aload_n 0, 1) := by decide +kernel
theorem dX11_would_23 : decode cX11_would 23 = .ok (.getfield 39, 3) := by decide +kernel
theorem dX11_would_26 : decode cX11_would 26 = .ok (.iconst 0, 1) := by decide +kernel
theorem dX11_would_27 : decode cX11_would 27 = .ok (.invokestatic 255, 3) := by decide +kernel
theorem dX11_would_30 : decode cX11_would 30 = .ok (.aload_n 0, 1) := by decide +kernel
theorem dX11_would_31 : decode cX11_would 31 = .ok (.aload_n 0, 1) := by decide +kernel
theorem dX11_would_32 : decode cX11_would 32 = .ok (.getfield 39, 3) := by decide +kernel
theorem dX11_would_35 : decode cX11_would 35 = .ok (.iload_n 1, 1) := by decide +kernel
theorem dX11_would_36 : decode cX11_would 36 = .ok (.invokevirtual 290, 3) := by decide +kernel
theorem dX11_would_39 : decode cX11_would 39 = .ok (.aload_n 0, 1) := by decide +kernel
theorem dX11_would_40 : decode cX11_would 40 = .ok (.iconst 0, 1) := by decide +kernel
theorem dX11_would_41 : decode cX11_would 41 = .ok (.putfield 81, 3) := by decide +kernel
theorem dX11_would_44 : decode cX11_would 44 = .ok (.aload_n 0, 1) := by decide +kernel
theorem dX11_would_45 : decode cX11_would 45 = .ok (.aload_n 0, 1) := by decide +kernel
theorem dX11_would_46 : decode cX11_would 46 = .ok (.getfield 326, 3) := by decide +kernel
theorem dX11_would_49 : decode cX11_would 49 = .ok (.i2l, 1) := by decide +kernel
theorem dX11_would_50 : decode cX11_would 50 = .ok (.invokevirtual 283, 3) := by decide +kernel
theorem dX11_would_53 : decode cX11_would 53 = .ok (.aload_n 0, 1) := by decide +kernel
theorem dX11_would_54 : decode cX11_would 54 = .ok (.aload_n 0, 1) := by decide +kernel
theorem dX11_would_55 : decode cX11_would 55 = .ok (.getfield 323, 3) := by decide +kernel
theorem dX11_would_58 : decode cX11_would 58 = .ok (.i2l, 1) := by decide +kernel
theorem dX11_would_59 : decode cX11_would 59 = .ok (.invokevirtual 283, 3) := by decide +kernel
theorem dX11_would_62 : decode cX11_would 62 = .ok (.aload_n 0, 1) := by decide +kernel
theorem dX11_would_63 : decode cX11_would 63 = .ok (.aload_n 0, 1) := by decide +kernel
theorem dX11_would_64 : decode cX11_would 64 = .ok (.getfield 39, 3) := by decide +kernel
theorem dX11_would_67 : decode cX11_would 67 = .ok (.iload_n 1, 1) := by decide +kernel
theorem dX11_would_68 : decode cX11_would 68 = .ok (.invokestatic 116, 3) := by decide +kernel
theorem dX11_would_71 : decode cX11_would 71 = .ok (.i2l, 1) := by decide +kernel
theorem dX11_would_72 : decode cX11_would 72 = .ok (.invokevirtual 283, 3) := by decide +kernel
theorem dX11_would_75 : decode cX11_would 75 = .ok (.aload_n 0, 1) := by decide +kernel
theorem dX11_would_76 : decode cX11_would 76 = .ok (.aload_n 0, 1) := by decide +kernel
theorem dX11_would_77 : decode cX11_would 77 = .ok (.getfield 39, 3) := by decide +kernel
theorem dX11_would_80 : decode cX11_would 80 = .ok (.invokestatic 181, 3) := by decide +kernel
theorem dX11_would_83 : decode cX11_would 83 = .ok (.i2l, 1) := by decide +kernel
theorem dX11_would_84 : decode cX11_would 84 = .ok (.invokevirtual 283, 3) := by decide +kernel
theorem dX11_would_87 : decode cX11_would 87 = .ok (.aload_n 0, 1) := by decide +kernel
theorem dX11_would_88 : decode cX11_would 88 = .ok (.getfield 326, 3) := by decide +kernel
theorem dX11_would_91 : decode cX11_would 91 = .ok (.aload_n 0, 1) := by decide +kernel
theorem dX11_would_92 : decode cX11_would 92 = .ok (.getfield 323, 3) := by decide +kernel
theorem dX11_would_95 : decode cX11_would 95 = .ok (.iadd, 1) := by decide +kernel
theorem dX11_would_96 : decode cX11_would 96 = .ok (.ireturn, 1) := by decide +kernel
def fX11_would (h : AH) (a0 : Nat) (a1 : Int32) : Option (Int32 × AH) :=
  if hasC h 11 a0 = true then (
    (pF h 11 a0 5 (.int 0)).bind fun h1 =>
    (gR h1 11 a0 0).bind fun x2 =>
    (fX11_isSpace h1 x2 a1).bind fun q3 =>
    if q3 = true then (
      (gR h1 11 a0 0).bind fun x4 =>
      (gR h1 11 a0 20).bind fun x5 =>
      (fX11_lay h1 x4 x5 0).bind fun q6 =>
      (gR q6 11 a0 20).bind fun x7 =>
      (fX11_goTidy q6 a0 x7 a1).bind fun q8 =>
      (pF q8 11 a0 4 (.int 0)).bind fun h9 =>
      (gI h9 11 a0 21).bind fun x10 =>
      (fX11_tell h9 a0 (Int32.toInt64 x10)).bind fun q11 =>
      (gI q11 11 a0 22).bind fun x12 =>
      (fX11_tell q11 a0 (Int32.toInt64 x12)).bind fun q13 =>
      (gR q13 11 a0 20).bind fun x14 =>
      (fX11_lengthOf q13 x14 a1).bind fun q15 =>
      (fX11_tell q13 a0 (Int32.toInt64 q15)).bind fun q16 =>
      (gR q16 11 a0 20).bind fun x17 =>
      (fX11_framesOf q16 x17).bind fun q18 =>
      (fX11_tell q16 a0 (Int32.toInt64 q18)).bind fun q19 =>
      (gI q19 11 a0 21).bind fun x20 =>
      (gI q19 11 a0 22).bind fun x21 =>
      some ((x20 + x21, q19))
    ) else (
      some (((-1), h1))
    )
  ) else none
set_option maxHeartbeats 4000000 in
theorem mX11_would {h : AH} {a0 : Nat} {a1 : Int32} {r : Int32 × AH} (hr : fX11_would h a0 a1 = some r) : hasC h 11 a0 = true ∧ MC yX11_would cX11_would 2 (some .int) 6 0 0 [.ref a0, .int a1] h (some (.int r.1)) r.2 := by
  unfold fX11_would at hr
  obtain ⟨hc, hr⟩ := if_some hr
  refine ⟨hc, mc_of (l0 := [(0, .ref a0), (1, .int a1)]) rfl pn_X11 (Nat.le_of_ble_eq_true rfl) (fun Y X C E O hnm => go_run hr ?_)⟩
  have C : CT Y X RX11 cX11_would 2 := C
  refine go_aload_n (pc := 0) C 0 dX11_would_0 rfl ?_
  refine go_iconst (pc := 1) C dX11_would_1 ki_0 ?_
  refine go_pI (pc := 2) C fpX11_77 dX11_would_2 (fun h1 => ?_)
  refine go_aload_n (pc := 5) C 0 dX11_would_5 rfl ?_
  refine go_gR (pc := 6) C fdX11_9 dX11_would_6 (fun x2 => ?_)
  refine go_iload_n (pc := 9) C 1 dX11_would_9 rfl ?_
  refine go_bind (fun q3 hq3 => ?_)
  refine go_callS (rest := []) (st' := [.int (b2i q3)]) (c' := 0) (s' := 0) (pc := 10) C O miX11_106 w_1479 [.ref x2, .int a1] rfl (mX11_isSpace hq3) dX11_would_10 ⟨by decide, by decide, by decide, by decide⟩ rfl (Nat.le_of_ble_eq_true rfl) rfl ⟨rfl, rfl⟩ ?_
  refine go_ifZ_ne (pc := 13) C 18 dX11_would_13 (by decide) (fun _ => ?_) (fun _ => ?_)
  · refine go_aload_n (pc := 18) C 0 dX11_would_18 rfl ?_
    refine go_gR (pc := 19) C fdX11_9 dX11_would_19 (fun x4 => ?_)
    refine go_aload_n (pc := 22) C 0 dX11_would_22 rfl ?_
    refine go_gR (pc := 23) C fdX11_39 dX11_would_23 (fun x5 => ?_)
    refine go_iconst (pc := 26) C dX11_would_26 ki_0 ?_
    refine go_bind (fun q6 hq6 => ?_)
    refine go_callS (rest := []) (st' := []) (c' := 0) (s' := 0) (pc := 27) C O miX11_255 w_1502 [.ref x4, .ref x5, .int 0] rfl (mX11_lay hq6) dX11_would_27 ⟨by decide, by decide, by decide, by decide⟩ rfl (Nat.le_of_ble_eq_true rfl) rfl ⟨rfl, rfl⟩ ?_
    refine go_aload_n (pc := 30) C 0 dX11_would_30 rfl ?_
    refine go_aload_n (pc := 31) C 0 dX11_would_31 rfl ?_
    refine go_gR (pc := 32) C fdX11_39 dX11_would_32 (fun x7 => ?_)
    refine go_iload_n (pc := 35) C 1 dX11_would_35 rfl ?_
    refine go_bind (fun q8 hq8 => ?_)
    refine go_callV (rest := []) (st' := []) (c' := 0) (s' := 0) (pc := 36) C O miX11_290 mvX11_goTidy [.ref x7, .int a1] rfl (mX11_goTidy hq8).1 (mX11_goTidy hq8).2 dX11_would_36 ⟨by decide, by decide, by decide, by decide⟩ rfl (Nat.le_of_ble_eq_true rfl) rfl ⟨rfl, rfl⟩ ?_
    refine go_aload_n (pc := 39) C 0 dX11_would_39 rfl ?_
    refine go_iconst (pc := 40) C dX11_would_40 ki_0 ?_
    refine go_pI (pc := 41) C fpX11_81 dX11_would_41 (fun h9 => ?_)
    refine go_aload_n (pc := 44) C 0 dX11_would_44 rfl ?_
    refine go_aload_n (pc := 45) C 0 dX11_would_45 rfl ?_
    refine go_gI (pc := 46) C fdX11_326 dX11_would_46 (fun x10 => ?_)
    refine go_i2l (pc := 49) C dX11_would_49 ?_
    refine go_bind (fun q11 hq11 => ?_)
    refine go_callV (rest := []) (st' := []) (c' := 0) (s' := 0) (pc := 50) C O miX11_283 mvX11_tell [.long (Int32.toInt64 x10)] rfl (mX11_tell hq11).1 (mX11_tell hq11).2 dX11_would_50 ⟨by decide, by decide, by decide, by decide⟩ rfl (Nat.le_of_ble_eq_true rfl) rfl ⟨rfl, rfl⟩ ?_
    refine go_aload_n (pc := 53) C 0 dX11_would_53 rfl ?_
    refine go_aload_n (pc := 54) C 0 dX11_would_54 rfl ?_
    refine go_gI (pc := 55) C fdX11_323 dX11_would_55 (fun x12 => ?_)
    refine go_i2l (pc := 58) C dX11_would_58 ?_
    refine go_bind (fun q13 hq13 => ?_)
    refine go_callV (rest := []) (st' := []) (c' := 0) (s' := 0) (pc := 59) C O miX11_283 mvX11_tell [.long (Int32.toInt64 x12)] rfl (mX11_tell hq13).1 (mX11_tell hq13).2 dX11_would_59 ⟨by decide, by decide, by decide, by decide⟩ rfl (Nat.le_of_ble_eq_true rfl) rfl ⟨rfl, rfl⟩ ?_
    refine go_aload_n (pc := 62) C 0 dX11_would_62 rfl ?_
    refine go_aload_n (pc := 63) C 0 dX11_would_63 rfl ?_
    refine go_gR (pc := 64) C fdX11_39 dX11_would_64 (fun x14 => ?_)
    refine go_iload_n (pc := 67) C 1 dX11_would_67 rfl ?_
    refine go_bind (fun q15 hq15 => ?_)
    refine go_callS (rest := [.ref a0]) (st' := [.int q15, .ref a0]) (c' := 0) (s' := 0) (pc := 68) C O miX11_116 w_1555 [.ref x14, .int a1] rfl (mX11_lengthOf hq15) dX11_would_68 ⟨by decide, by decide, by decide, by decide⟩ rfl (Nat.le_of_ble_eq_true rfl) rfl ⟨rfl, rfl⟩ ?_
    refine go_i2l (pc := 71) C dX11_would_71 ?_
    refine go_bind (fun q16 hq16 => ?_)
    refine go_callV (rest := []) (st' := []) (c' := 0) (s' := 0) (pc := 72) C O miX11_283 mvX11_tell [.long (Int32.toInt64 q15)] rfl (mX11_tell hq16).1 (mX11_tell hq16).2 dX11_would_72 ⟨by decide, by decide, by decide, by decide⟩ rfl (Nat.le_of_ble_eq_true rfl) rfl ⟨rfl, rfl⟩ ?_
    refine go_aload_n (pc := 75) C 0 dX11_would_75 rfl ?_
    refine go_aload_n (pc := 76) C 0 dX11_would_76 rfl ?_
    refine go_gR (pc := 77) C fdX11_39 dX11_would_77 (fun x17 => ?_)
    refine go_bind (fun q18 hq18 => ?_)
    refine go_callS (rest := [.ref a0]) (st' := [.int q18, .ref a0]) (c' := 0) (s' := 0) (pc := 80) C O miX11_181 w_1488 [.ref x17] rfl (mX11_framesOf hq18) dX11_would_80 ⟨by decide, by decide, by decide, by decide⟩ rfl (Nat.le_of_ble_eq_true rfl) rfl ⟨rfl, rfl⟩ ?_
    refine go_i2l (pc := 83) C dX11_would_83 ?_
    refine go_bind (fun q19 hq19 => ?_)
    refine go_callV (rest := []) (st' := []) (c' := 0) (s' := 0) (pc := 84) C O miX11_283 mvX11_tell [.long (Int32.toInt64 q18)] rfl (mX11_tell hq19).1 (mX11_tell hq19).2 dX11_would_84 ⟨by decide, by decide, by decide, by decide⟩ rfl (Nat.le_of_ble_eq_true rfl) rfl ⟨rfl, rfl⟩ ?_
    refine go_aload_n (pc := 87) C 0 dX11_would_87 rfl ?_
    refine go_gI (pc := 88) C fdX11_326 dX11_would_88 (fun x20 => ?_)
    refine go_aload_n (pc := 91) C 0 dX11_would_91 rfl ?_
    refine go_gI (pc := 92) C fdX11_323 dX11_would_92 (fun x21 => ?_)
    refine go_iadd (pc := 95) C dX11_would_95 ?_
    exact go_iret (w := wIh) (pc := 96) C E ((x20 + x21, q19)) (x20 + x21) dX11_would_96 rfl
  · refine go_iconst (pc := 16) C dX11_would_16 ki_m1 ?_
    exact go_iret (w := wIh) (pc := 17) C E (((-1), h1)) ((-1)) dX11_would_17 rfl
theorem dX11_frees_0 : decode cX11_frees 0 = .ok (.aload_n 0, 1) := by decide +kernel
theorem dX11_frees_1 : decode cX11_frees 1 = .ok (.iconst 0, 1) := by decide +kernel
theorem dX11_frees_2 : decode cX11_frees 2 = .ok (.putfield 77, 3) := by decide +kernel
theorem dX11_frees_5 : decode cX11_frees 5 = .ok (.aload_n 0, 1) := by decide +kernel
theorem dX11_frees_6 : decode cX11_frees 6 = .ok (.iload_n 1, 1) := by decide +kernel
theorem dX11_frees_7 : decode cX11_frees 7 = .ok (.invokevirtual 242, 3) := by decide +kernel
theorem dX11_frees_10 : decode cX11_frees 10 = .ok (.ifCond .ne 5, 3) := by decide +kernel
theorem dX11_frees_13 : decode cX11_frees 13 = .ok (.iconst (-1), 1) := by decide +kernel
theorem dX11_frees_14 : decode cX11_frees 14 = .ok (.ireturn, 1) := by decide +kernel
theorem dX11_frees_15 : decode cX11_frees 15 = .ok (.aload_n 0, 1) := by decide +kernel
theorem dX11_frees_16 : decode cX11_frees 16 = .ok (.iload_n 1, 1) := by decide +kernel
theorem dX11_frees_17 : decode cX11_frees 17 = .ok (.invokevirtual 350, 3) := by decide +kernel
theorem dX11_frees_20 : decode cX11_frees 20 = .ok (.istore_n 2, 1) := by decide +kernel
theorem dX11_frees_21 : decode cX11_frees 21 = .ok (.aload_n 0, 1) := by decide +kernel
theorem dX11_frees_22 : decode cX11_frees 22 = .ok (.getfield 9, 3) := by decide +kernel
theorem dX11_frees_25 : decode cX11_frees 25 = .ok (.aload_n 0, 1) := by decide +kernel
theorem dX11_frees_26 : decode cX11_frees 26 = .ok (.getfield 39, 3) := by decide +kernel
theorem dX11_frees_29 : decode cX11_frees 29 = .ok (.iconst 0, 1) := by decide +kernel
theorem dX11_frees_30 : decode cX11_frees 30 = .ok (.invokestatic 255, 3) := by decide +kernel
theorem dX11_frees_33 : decode cX11_frees 33 = .ok (.iconst 0, 1) := by decide +kernel
theorem dX11_frees_34 : decode cX11_frees 34 = .ok (.istore_n 3, 1) := by decide +kernel
theorem dX11_frees_35 : decode cX11_frees 35 = .ok (.iload_n 3, 1) := by decide +kernel
theorem dX11_frees_36 : decode cX11_frees 36 = .ok (.bipush 6, 2) := by decide +kernel
theorem dX11_frees_38 : decode cX11_frees 38 = .ok (.if_icmp .ge 26, 3) := by decide +kernel
theorem dX11_frees_41 : decode cX11_frees 41 = .ok (.iload_n 2, 1) := by decide +kernel
theorem dX11_frees_42 : decode cX11_frees 42 = .ok (.iload_n 3, 1) := by decide +kernel
theorem dX11_frees_43 : decode cX11_frees 43 = .ok (.invokestatic 312, 3) := by decide +kernel
theorem dX11_frees_46 : decode cX11_frees 46 = .ok (.ifCond .eq 12, 3) := by decide +kernel
theorem dX11_frees_49 : decode cX11_frees 49 = .ok (.aload_n 0, 1) := by decide +kernel
theorem dX11_frees_50 : decode cX11_frees 50 = .ok (.getfield 39, 3) := by decide +kernel
theorem dX11_frees_53 : decode cX11_frees 53 = .ok (.iload_n 3, 1) := by decide +kernel
theorem dX11_frees_54 : decode cX11_frees 54 = .ok (.invokestatic 309, 3) := by decide +kernel
theorem dX11_frees_57 : decode cX11_frees 57 = .ok (.pop, 1) := by decide +kernel
theorem dX11_frees_58 : decode cX11_frees 58 = .ok (.iinc 3 1, 3) := by decide +kernel
theorem dX11_frees_61 : decode cX11_frees 61 = .ok (.goto (-26), 3) := by decide +kernel
theorem dX11_frees_64 : decode cX11_frees 64 = .ok (.aload_n 0, 1) := by decide +kernel
theorem dX11_frees_65 : decode cX11_frees 65 = .ok (.iconst 0, 1) := by decide +kernel
theorem dX11_frees_66 : decode cX11_frees 66 = .ok (.putfield 81, 3) := by decide +kernel
theorem dX11_frees_69 : decode cX11_frees 69 = .ok (.aload_n 0, 1) := by decide +kernel
theorem dX11_frees_70 : decode cX11_frees 70 = .ok (.aload_n 0, 1) := by decide +kernel
theorem dX11_frees_71 : decode cX11_frees 71 = .ok (.getfield 39, 3) := by decide +kernel
theorem dX11_frees_74 : decode cX11_frees 74 = .ok (.invokestatic 181, 3) := by decide +kernel
theorem dX11_frees_77 : decode cX11_frees 77 = .ok (.i2l, 1) := by decide +kernel
theorem dX11_frees_78 : decode cX11_frees 78 = .ok (.invokevirtual 283, 3) := by decide +kernel
theorem dX11_frees_81 : decode cX11_frees 81 = .ok (.iload_n 2, 1) := by decide +kernel
theorem dX11_frees_82 : decode cX11_frees 82 = .ok (.invokestatic 100, 3) := by decide +kernel
theorem dX11_frees_85 : decode cX11_frees 85 = .ok (.ireturn, 1) := by decide +kernel
def fX11_frees_L35 (k64 : AH → Nat → Int32 → Option (Int32 × AH)) : Nat → AH → Nat → Int32 → Int32 → Option (Int32 × AH)
  | 0, _, _, _, _ => none
  | n + 1, h, v0, v2, v3 =>
    if 6 ≤ v3 then (
      k64 h v0 v2
    ) else (
      (fX11_has h v2 v3).bind fun q1 =>
      if q1 = true then (
        (gR h 11 v0 20).bind fun x2 =>
        (fX11_goEnd h x2 v3).bind fun q3 =>
        letF (v3 + 1 : Int32) fun x4 =>
        fX11_frees_L35 k64 n q3.2 v0 v2 x4
      ) else (
        letF (v3 + 1 : Int32) fun x5 =>
        fX11_frees_L35 k64 n h v0 v2 x5
      )
    )
def fX11_frees (h : AH) (a0 : Nat) (a1 : Int32) : Option (Int32 × AH) :=
  if hasC h 11 a0 = true then (
    (pF h 11 a0 5 (.int 0)).bind fun h6 =>
    (fX11_isObject h6 a0 a1).bind fun q7 =>
    if q7 = true then (
      (fX11_inChains h6 a0 a1).bind fun q8 =>
      (gR h6 11 a0 0).bind fun x9 =>
      (gR h6 11 a0 20).bind fun x10 =>
      (fX11_lay h6 x9 x10 0).bind fun q11 =>
      fX11_frees_L35
        (fun h14 x12 x13 =>
          (pF h14 11 x12 4 (.int 0)).bind fun h15 =>
          (gR h15 11 x12 20).bind fun x16 =>
          (fX11_framesOf h15 x16).bind fun q17 =>
          (fX11_tell h15 x12 (Int32.toInt64 q17)).bind fun q18 =>
          (fJ6_bitCount_0f7a4 q18 x13).bind fun q19 =>
          some ((q19, q18)))
        FU q11 a0 q8 0
    ) else (
      some (((-1), h6))
    )
  ) else none
set_option maxHeartbeats 4000000 in
theorem gX11_frees_L35 {Y : YT} {X : XT} (C : CT Y X RX11 cX11_frees 4) (O : RO X 5 0 0) {r : Int32 × AH} (E : RX Y X (some .int) (some (.int r.1)) r.2 0 0) {k64 : AH → Nat → Int32 → Option (Int32 × AH)} (hk64 : ∀ (h : AH) (v0 : Nat) (v2 : Int32), GO Y X 4 r h 0 0 64 [(0, .ref v0), (2, .int v2)] [] (k64 h v0 v2)) : ∀ (n : Nat) (h : AH) (v0 : Nat) (v2 : Int32) (v3 : Int32), GO Y X 4 r h 0 0 35 [(0, .ref v0), (2, .int v2), (3, .int v3)] [] (fX11_frees_L35 k64 n h v0 v2 v3) := by
  intro n
  induction n with
  | zero => intros; exact go_none _ _ _
  | succ n ih =>
    intro h v0 v2 v3
    rw [fX11_frees_L35]
    refine go_iload_n (pc := 35) C 2 dX11_frees_35 rfl ?_
    refine go_bipush (pc := 36) C dX11_frees_36 kb_6 ?_
    refine go_icmp_ge (pc := 38) C 64 dX11_frees_38 (by decide) (fun _ => ?_) (fun _ => ?_)
    · refine go_sub (ls' := [(0, .ref v0), (2, .int v2)]) [0, 1] rfl ?_
      exact hk64 h v0 v2
    · refine go_iload_n (pc := 41) C 1 dX11_frees_41 rfl ?_
      refine go_iload_n (pc := 42) C 2 dX11_frees_42 rfl ?_
      refine go_bind (fun q1 hq1 => ?_)
      refine go_callS (rest := []) (st' := [.int (b2i q1)]) (c' := 0) (s' := 0) (pc := 43) C O miX11_312 w_1686 [.int v2, .int v3] rfl (mX11_has hq1) dX11_frees_43 ⟨by decide, by decide, by decide, by decide⟩ rfl (Nat.le_of_ble_eq_true rfl) rfl ⟨rfl, rfl⟩ ?_
      refine go_ifZ_eq (pc := 46) C 58 dX11_frees_46 (by decide) (fun _ => ?_) (fun _ => ?_)
      · refine go_aload_n (pc := 49) C 0 dX11_frees_49 rfl ?_
        refine go_gR (pc := 50) C fdX11_39 dX11_frees_50 (fun x2 => ?_)
        refine go_iload_n (pc := 53) C 2 dX11_frees_53 rfl ?_
        refine go_bind (fun q3 hq3 => ?_)
        refine go_callS (rest := []) (st' := [.int q3.1]) (c' := 0) (s' := 0) (pc := 54) C O miX11_309 w_1675 [.ref x2, .int v3] rfl (mX11_goEnd hq3) dX11_frees_54 ⟨by decide, by decide, by decide, by decide⟩ rfl (Nat.le_of_ble_eq_true rfl) rfl ⟨rfl, rfl⟩ ?_
        refine go_pop (pc := 57) C dX11_frees_57 rfl ?_
        refine go_iincL (pc := 58) C 2 dX11_frees_58 rfl ki_1 (by decide) (fun x4 => [(3, .int x4), (0, .ref v0), (2, .int v2)]) (fun _ => rfl) (fun x4 => ?_)
        refine go_goto (pc := 61) C 35 dX11_frees_61 (by decide) ?_
        refine go_sub (ls' := [(0, .ref v0), (2, .int v2), (3, .int x4)]) [1, 2, 0] rfl ?_
        exact ih q3.2 v0 v2 x4
      · refine go_iincL (pc := 58) C 2 dX11_frees_58 rfl ki_1 (by decide) (fun x5 => [(3, .int x5), (0, .ref v0), (2, .int v2)]) (fun _ => rfl) (fun x5 => ?_)
        refine go_goto (pc := 61) C 35 dX11_frees_61 (by decide) ?_
        refine go_sub (ls' := [(0, .ref v0), (2, .int v2), (3, .int x5)]) [1, 2, 0] rfl ?_
        exact ih h v0 v2 x5
set_option maxHeartbeats 4000000 in
theorem mX11_frees {h : AH} {a0 : Nat} {a1 : Int32} {r : Int32 × AH} (hr : fX11_frees h a0 a1 = some r) : hasC h 11 a0 = true ∧ MC yX11_frees cX11_frees 4 (some .int) 5 0 0 [.ref a0, .int a1] h (some (.int r.1)) r.2 := by
  unfold fX11_frees at hr
  obtain ⟨hc, hr⟩ := if_some hr
  refine ⟨hc, mc_of (l0 := [(0, .ref a0), (1, .int a1)]) rfl pn_X11 (Nat.le_of_ble_eq_true rfl) (fun Y X C E O hnm => go_run hr ?_)⟩
  have C : CT Y X RX11 cX11_frees 4 := C
  refine go_aload_n (pc := 0) C 0 dX11_frees_0 rfl ?_
  refine go_iconst (pc := 1) C dX11_frees_1 ki_0 ?_
  refine go_pI (pc := 2) C fpX11_77 dX11_frees_2 (fun h6 => ?_)
  refine go_aload_n (pc := 5) C 0 dX11_frees_5 rfl ?_
  refine go_iload_n (pc := 6) C 1 dX11_frees_6 rfl ?_
  refine go_bind (fun q7 hq7 => ?_)
  refine go_callV (rest := []) (st' := [.int (b2i q7)]) (c' := 0) (s' := 0) (pc := 7) C O miX11_242 mvX11_isObject [.int a1] rfl (mX11_isObject hq7).1 (mX11_isObject hq7).2 dX11_frees_7 ⟨by decide, by decide, by decide, by decide⟩ rfl (Nat.le_of_ble_eq_true rfl) rfl ⟨rfl, rfl⟩ ?_
  refine go_ifZ_ne (pc := 10) C 15 dX11_frees_10 (by decide) (fun _ => ?_) (fun _ => ?_)
  · refine go_aload_n (pc := 15) C 0 dX11_frees_15 rfl ?_
    refine go_iload_n (pc := 16) C 1 dX11_frees_16 rfl ?_
    refine go_bind (fun q8 hq8 => ?_)
    refine go_callV (rest := []) (st' := [.int q8]) (c' := 0) (s' := 0) (pc := 17) C O miX11_350 mvX11_inChains [.int a1] rfl (mX11_inChains hq8).1 (mX11_inChains hq8).2 dX11_frees_17 ⟨by decide, by decide, by decide, by decide⟩ rfl (Nat.le_of_ble_eq_true rfl) rfl ⟨rfl, rfl⟩ ?_
    refine go_istore_n (ls' := [(2, .int q8), (0, .ref a0), (1, .int a1)]) (pc := 20) C dX11_frees_20 (by decide) rfl ?_
    refine go_aload_n (pc := 21) C 1 dX11_frees_21 rfl ?_
    refine go_gR (pc := 22) C fdX11_9 dX11_frees_22 (fun x9 => ?_)
    refine go_aload_n (pc := 25) C 1 dX11_frees_25 rfl ?_
    refine go_gR (pc := 26) C fdX11_39 dX11_frees_26 (fun x10 => ?_)
    refine go_iconst (pc := 29) C dX11_frees_29 ki_0 ?_
    refine go_bind (fun q11 hq11 => ?_)
    refine go_callS (rest := []) (st' := []) (c' := 0) (s' := 0) (pc := 30) C O miX11_255 w_1502 [.ref x9, .ref x10, .int 0] rfl (mX11_lay hq11) dX11_frees_30 ⟨by decide, by decide, by decide, by decide⟩ rfl (Nat.le_of_ble_eq_true rfl) rfl ⟨rfl, rfl⟩ ?_
    refine go_iconst (pc := 33) C dX11_frees_33 ki_0 ?_
    refine go_istore_n (ls' := [(3, .int 0), (2, .int q8), (0, .ref a0), (1, .int a1)]) (pc := 34) C dX11_frees_34 (by decide) rfl ?_
    refine go_sub (ls' := [(0, .ref a0), (2, .int q8), (3, .int 0)]) [2, 1, 0] rfl ?_
    refine gX11_frees_L35 C O E (fun h14 x12 x13 => ?_) FU q11 a0 q8 0
    · refine go_aload_n (pc := 64) C 0 dX11_frees_64 rfl ?_
      refine go_iconst (pc := 65) C dX11_frees_65 ki_0 ?_
      refine go_pI (pc := 66) C fpX11_81 dX11_frees_66 (fun h15 => ?_)
      refine go_aload_n (pc := 69) C 0 dX11_frees_69 rfl ?_
      refine go_aload_n (pc := 70) C 0 dX11_frees_70 rfl ?_
      refine go_gR (pc := 71) C fdX11_39 dX11_frees_71 (fun x16 => ?_)
      refine go_bind (fun q17 hq17 => ?_)
      refine go_callS (rest := [.ref x12]) (st' := [.int q17, .ref x12]) (c' := 0) (s' := 0) (pc := 74) C O miX11_181 w_1488 [.ref x16] rfl (mX11_framesOf hq17) dX11_frees_74 ⟨by decide, by decide, by decide, by decide⟩ rfl (Nat.le_of_ble_eq_true rfl) rfl ⟨rfl, rfl⟩ ?_
      refine go_i2l (pc := 77) C dX11_frees_77 ?_
      refine go_bind (fun q18 hq18 => ?_)
      refine go_callV (rest := []) (st' := []) (c' := 0) (s' := 0) (pc := 78) C O miX11_283 mvX11_tell [.long (Int32.toInt64 q17)] rfl (mX11_tell hq18).1 (mX11_tell hq18).2 dX11_frees_78 ⟨by decide, by decide, by decide, by decide⟩ rfl (Nat.le_of_ble_eq_true rfl) rfl ⟨rfl, rfl⟩ ?_
      refine go_iload_n (pc := 81) C 1 dX11_frees_81 rfl ?_
      refine go_bind (fun q19 hq19 => ?_)
      refine go_callS (rest := []) (st' := [.int q19]) (c' := 0) (s' := 0) (pc := 82) C O miX11_100 w_397 [.int x13] rfl (mJ6_bitCount_0f7a4 hq19) dX11_frees_82 ⟨by decide, by decide, by decide, by decide⟩ rfl (Nat.le_of_ble_eq_true rfl) rfl ⟨rfl, rfl⟩ ?_
      exact go_iret (w := wIh) (pc := 85) C E ((q19, q18)) q19 dX11_frees_85 rfl
  · refine go_iconst (pc := 13) C dX11_frees_13 ki_m1 ?_
    exact go_iret (w := wIh) (pc := 14) C E (((-1), h6)) ((-1)) dX11_frees_14 rfl
theorem dX11_tryWrite_0 : decode cX11_tryWrite 0 = .ok (.aload_n 1, 1) := by decide +kernel
theorem dX11_tryWrite_1 : decode cX11_tryWrite 1 = .ok (.iload_n 2, 1) := by decide +kernel
theorem dX11_tryWrite_2 : decode cX11_tryWrite 2 = .ok (.iload_n 3, 1) := by decide +kernel
theorem dX11_tryWrite_3 : decode cX11_tryWrite 3 = .ok (.invokestatic 293, 3) := by decide +kernel
theorem dX11_tryWrite_6 : decode cX11_tryWrite 6 = .ok (.istore 5, 2) := by decide +kernel
theorem dX11_tryWrite_8 : decode cX11_tryWrite 8 = .ok (.iload 5, 2) := by decide +kernel
theorem dX11_tryWrite_10 : decode cX11_tryWrite 10 = .ok (.bipush (-3), 2) := by decide +kernel
theorem dX11_tryWrite_12 : decode cX11_tryWrite 12 = .ok (.if_icmp .ne 9, 3) := by decide +kernel
theorem dX11_tryWrite_15 : decode cX11_tryWrite 15 = .ok (.aload_n 1, 1) := by decide +kernel
theorem dX11_tryWrite_16 : decode cX11_tryWrite 16 = .ok (.iload_n 2, 1) := by decide +kernel
theorem dX11_tryWrite_17 : decode cX11_tryWrite 17 = .ok (.iload_n 3, 1) := by decide +kernel
theorem dX11_tryWrite_18 : decode cX11_tryWrite 18 = .ok (.invokestatic 277, 3) := by decide +kernel
theorem dX11_tryWrite_21 : decode cX11_tryWrite 21 = .ok (.iload 5, 2) := by decide +kernel
theorem dX11_tryWrite_23 : decode cX11_tryWrite 23 = .ok (.ifCond .ne 12, 3) := by decide +kernel
theorem dX11_tryWrite_26 : decode cX11_tryWrite 26 = .ok (.aload_n 0, 1) := by decide +kernel
theorem dX11_tryWrite_27 : decode cX11_tryWrite 27 = .ok (.aload_n 1, 1) := by decide +kernel
theorem dX11_tryWrite_28 : decode cX11_tryWrite 28 = .ok (.iload_n 2, 1) := by decide +kernel
theorem dX11_tryWrite_29 : decode cX11_tryWrite 29 = .ok (.iload_n 3, 1) := by decide +kernel
theorem dX11_tryWrite_30 : decode cX11_tryWrite 30 = .ok (.iload 4, 2) := by decide +kernel
theorem dX11_tryWrite_32 : decode cX11_tryWrite 32 = .ok (.invokevirtual 296, 3) := by decide +kernel
theorem dX11_tryWrite_35 : decode cX11_tryWrite 35 = .ok (.iload 5, 2) := by decide +kernel
theorem dX11_tryWrite_37 : decode cX11_tryWrite 37 = .ok (.ifCond .ne 7, 3) := by decide +kernel
theorem dX11_tryWrite_40 : decode cX11_tryWrite 40 = .ok (.iconst 1, 1) := by decide +kernel
theorem dX11_tryWrite_41 : decode cX11_tryWrite 41 = .ok (.goto 4, 3) := by decide +kernel
theorem dX11_tryWrite_44 : decode cX11_tryWrite 44 = .ok (.iconst 0, 1) := by decide +kernel
theorem dX11_tryWrite_45 : decode cX11_tryWrite 45 = .ok (.ireturn, 1) := by decide +kernel
def fX11_tryWrite_J35 (h : AH) (v5 : Int32) : Option (Bool × AH) :=
    if v5 = 0 then (
      some ((true, h))
    ) else (
      some ((false, h))
    )
def fX11_tryWrite_J21 (h : AH) (v0 : Nat) (v1 : Nat) (v2 : Int32) (v3 : Int32) (v4 : Int32) (v5 : Int32) : Option (Bool × AH) :=
    if v5 = 0 then (
      (fX11_goWrite h v0 v1 v2 v3 v4).bind fun q1 =>
      fX11_tryWrite_J35 q1 v5
    ) else (
      fX11_tryWrite_J35 h v5
    )
def fX11_tryWrite (h : AH) (a0 : Nat) (a1 : Nat) (a2 : Int32) (a3 : Int32) (a4 : Int32) : Option (Bool × AH) :=
  if hasC h 11 a0 = true then (
    (fX11_refusesWrite h a1 a2 a3).bind fun q2 =>
    if q2 = ((-3)) then (
      (fX11_goAwait h a1 a2 a3).bind fun q3 =>
      fX11_tryWrite_J21 q3 a0 a1 a2 a3 a4 q2
    ) else (
      fX11_tryWrite_J21 h a0 a1 a2 a3 a4 q2
    )
  ) else none
set_option maxHeartbeats 4000000 in
theorem gX11_tryWrite_J35 {Y : YT} {X : XT} (C : CT Y X RX11 cX11_tryWrite 6) (O : RO X 210 0 0) {r : Bool × AH} (E : RX Y X (some .boolean) (some (.int (b2i r.1))) r.2 0 0) : ∀ (h : AH) (v5 : Int32), GO Y X 6 r h 0 0 35 [(5, .int v5)] [] (fX11_tryWrite_J35 h v5) := by
  intro h v5
  unfold fX11_tryWrite_J35
  refine go_iload (pc := 35) C 0 dX11_tryWrite_35 rfl ?_
  refine go_if_ne (pc := 37) C 44 dX11_tryWrite_37 (by decide) (fun _ => ?_) (fun _ => ?_)
  · refine go_iconst (pc := 40) C dX11_tryWrite_40 ki_1 ?_
    refine go_goto (pc := 41) C 45 dX11_tryWrite_41 (by decide) ?_
    exact go_bret (w := wZh) (pc := 45) C E ((true, h)) 1 true rfl dX11_tryWrite_45 rfl
  · refine go_iconst (pc := 44) C dX11_tryWrite_44 ki_0 ?_
    exact go_bret (w := wZh) (pc := 45) C E ((false, h)) 0 false rfl dX11_tryWrite_45 rfl
set_option maxHeartbeats 4000000 in
theorem gX11_tryWrite_J21 {Y : YT} {X : XT} (C : CT Y X RX11 cX11_tryWrite 6) (O : RO X 210 0 0) {r : Bool × AH} (E : RX Y X (some .boolean) (some (.int (b2i r.1))) r.2 0 0) : ∀ (h : AH) (v0 : Nat) (v1 : Nat) (v2 : Int32) (v3 : Int32) (v4 : Int32) (v5 : Int32), GO Y X 6 r h 0 0 21 [(0, .ref v0), (1, .ref v1), (2, .int v2), (3, .int v3), (4, .int v4), (5, .int v5)] [] (fX11_tryWrite_J21 h v0 v1 v2 v3 v4 v5) := by
  intro h v0 v1 v2 v3 v4 v5
  unfold fX11_tryWrite_J21
  refine go_iload (pc := 21) C 5 dX11_tryWrite_21 rfl ?_
  refine go_if_ne (pc := 23) C 35 dX11_tryWrite_23 (by decide) (fun _ => ?_) (fun _ => ?_)
  · refine go_aload_n (pc := 26) C 0 dX11_tryWrite_26 rfl ?_
    refine go_aload_n (pc := 27) C 1 dX11_tryWrite_27 rfl ?_
    refine go_iload_n (pc := 28) C 2 dX11_tryWrite_28 rfl ?_
    refine go_iload_n (pc := 29) C 3 dX11_tryWrite_29 rfl ?_
    refine go_iload (pc := 30) C 4 dX11_tryWrite_30 rfl ?_
    refine go_bind (fun q1 hq1 => ?_)
    refine go_callV (rest := []) (st' := []) (c' := 0) (s' := 0) (pc := 32) C O miX11_296 mvX11_goWrite [.ref v1, .int v2, .int v3, .int v4] rfl (mX11_goWrite hq1).1 (mX11_goWrite hq1).2 dX11_tryWrite_32 ⟨by decide, by decide, by decide, by decide⟩ rfl (Nat.le_of_ble_eq_true rfl) rfl ⟨rfl, rfl⟩ ?_
    refine go_sub (ls' := [(5, .int v5)]) [5] rfl ?_
    refine gX11_tryWrite_J35 C O E q1 v5
  · refine go_sub (ls' := [(5, .int v5)]) [5] rfl ?_
    refine gX11_tryWrite_J35 C O E h v5
set_option maxHeartbeats 4000000 in
theorem mX11_tryWrite {h : AH} {a0 : Nat} {a1 : Nat} {a2 : Int32} {a3 : Int32} {a4 : Int32} {r : Bool × AH} (hr : fX11_tryWrite h a0 a1 a2 a3 a4 = some r) : hasC h 11 a0 = true ∧ MC yX11_tryWrite cX11_tryWrite 6 (some .boolean) 210 0 0 [.ref a0, .ref a1, .int a2, .int a3, .int a4] h (some (.int (b2i r.1))) r.2 := by
  unfold fX11_tryWrite at hr
  obtain ⟨hc, hr⟩ := if_some hr
  refine ⟨hc, mc_of (l0 := [(0, .ref a0), (1, .ref a1), (2, .int a2), (3, .int a3), (4, .int a4)]) rfl pn_X11 (Nat.le_of_ble_eq_true rfl) (fun Y X C E O hnm => go_run hr ?_)⟩
  have C : CT Y X RX11 cX11_tryWrite 6 := C
  refine go_aload_n (pc := 0) C 1 dX11_tryWrite_0 rfl ?_
  refine go_iload_n (pc := 1) C 2 dX11_tryWrite_1 rfl ?_
  refine go_iload_n (pc := 2) C 3 dX11_tryWrite_2 rfl ?_
  refine go_bind (fun q2 hq2 => ?_)
  refine go_callS (rest := []) (st' := [.int q2]) (c' := 0) (s' := 0) (pc := 3) C O miX11_293 w_1631 [.ref a1, .int a2, .int a3] rfl (mX11_refusesWrite hq2) dX11_tryWrite_3 ⟨by decide, by decide, by decide, by decide⟩ rfl (Nat.le_of_ble_eq_true rfl) rfl ⟨rfl, rfl⟩ ?_
  refine go_istore (ls' := [(5, .int q2), (0, .ref a0), (1, .ref a1), (2, .int a2), (3, .int a3), (4, .int a4)]) (pc := 6) C dX11_tryWrite_6 (by decide) rfl ?_
  refine go_iload (pc := 8) C 0 dX11_tryWrite_8 rfl ?_
  refine go_bipush (pc := 10) C dX11_tryWrite_10 kb_m3 ?_
  refine go_icmp_ne (pc := 12) C 21 dX11_tryWrite_12 (by decide) (fun _ => ?_) (fun _ => ?_)
  · refine go_aload_n (pc := 15) C 2 dX11_tryWrite_15 rfl ?_
    refine go_iload_n (pc := 16) C 3 dX11_tryWrite_16 rfl ?_
    refine go_iload_n (pc := 17) C 4 dX11_tryWrite_17 rfl ?_
    refine go_bind (fun q3 hq3 => ?_)
    refine go_callS (rest := []) (st' := []) (c' := 0) (s' := 0) (pc := 18) C O miX11_277 w_1614 [.ref a1, .int a2, .int a3] rfl (mX11_goAwait hq3) dX11_tryWrite_18 ⟨by decide, by decide, by decide, by decide⟩ rfl (Nat.le_of_ble_eq_true rfl) rfl ⟨rfl, rfl⟩ ?_
    refine go_sub (ls' := [(0, .ref a0), (1, .ref a1), (2, .int a2), (3, .int a3), (4, .int a4), (5, .int q2)]) [1, 2, 3, 4, 5, 0] rfl ?_
    refine gX11_tryWrite_J21 C O E q3 a0 a1 a2 a3 a4 q2
  · refine go_sub (ls' := [(0, .ref a0), (1, .ref a1), (2, .int a2), (3, .int a3), (4, .int a4), (5, .int q2)]) [1, 2, 3, 4, 5, 0] rfl ?_
    refine gX11_tryWrite_J21 C O E h a0 a1 a2 a3 a4 q2
theorem dX11_storm_0 : decode cX11_storm 0 = .ok (.aload_n 0, 1) := by decide +kernel
theorem dX11_storm_1 : decode cX11_storm 1 = .ok (.iconst 0, 1) := by decide +kernel
theorem dX11_storm_2 : decode cX11_storm 2 = .ok (.putfield 77, 3) := by decide +kernel
theorem dX11_storm_5 : decode cX11_storm 5 = .ok (.aload_n 0, 1) := by decide +kernel
theorem dX11_storm_6 : decode cX11_storm 6 = .ok (.getfield 9, 3) := by decide +kernel
theorem dX11_storm_9 : decode cX11_storm 9 = .ok (.iload_n 1, 1) := by decide +kernel
theorem dX11_storm_10 : decode cX11_storm 10 = .ok (.invokestatic 106, 3) := by decide +kernel
theorem dX11_storm_13 : decode cX11_storm 13 = .ok (.ifCond .eq 12, 3) := by decide +kernel
theorem dX11_storm_16 : decode cX11_storm 16 = .ok (.iload_n 2, 1) := by decide +kernel
theorem dX11_storm_17 : decode cX11_storm 17 = .ok (.iconst 0, 1) := by decide +kernel
theorem dX11_storm_18 : decode cX11_storm 18 = .ok (.iconst 5, 1) := by decide +kernel
theorem dX11_storm_19 : decode cX11_storm 19 = .ok (.invokestatic 84, 3) := by decide +kernel
theorem dX11_storm_22 : decode cX11_storm 22 = .ok (.ifCond .ne 5, 3) := by decide +kernel
theorem dX11_storm_25 : decode cX11_storm 25 = .ok (.iconst (-1), 1) := by decide +kernel
theorem dX11_storm_26 : decode cX11_storm 26 = .ok (.ireturn, 1) := by decide +kernel
theorem dX11_storm_27 : decode cX11_storm 27 = .ok (.aload_n 0, 1) := by decide +kernel
theorem dX11_storm_28 : decode cX11_storm 28 = .ok (.getfield 9, 3) := by decide +kernel
theorem dX11_storm_31 : decode cX11_storm 31 = .ok (.aload_n 0, 1) := by decide +kernel
theorem dX11_storm_32 : decode cX11_storm 32 = .ok (.getfield 39, 3) := by decide +kernel
theorem dX11_storm_35 : decode cX11_storm 35 = .ok (.iconst 0, 1) := by decide +kernel
theorem dX11_storm_36 : decode cX11_storm 36 = .ok (.invokestatic 255, 3) := by decide +kernel
theorem dX11_storm_39 : decode cX11_storm 39 = .ok (.iconst 0, 1) := by decide +kernel
theorem dX11_storm_40 : decode cX11_storm 40 = .ok (.istore_n 3, 1) := by decide +kernel
theorem dX11_storm_41 : decode cX11_storm 41 = .ok (.iload_n 3, 1) := by decide +kernel
theorem dX11_storm_42 : decode cX11_storm 42 = .ok (.iload_n 2, 1) := by decide +kernel
theorem dX11_storm_43 : decode cX11_storm 43 = .ok (.if_icmp .ge 47, 3) := by decide +kernel
theorem dX11_storm_46 : decode cX11_storm 46 = .ok (.aload_n 0, 1) := by decide +kernel
theorem dX11_storm_47 : decode cX11_storm 47 = .ok (.getfield 39, 3) := by decide +kernel
theorem dX11_storm_50 : decode cX11_storm 50 = .ok (.iload_n 1, 1) := by decide +kernel
theorem dX11_storm_51 : decode cX11_storm 51 = .ok (.invokestatic 300, 3) := by decide +kernel
theorem dX11_storm_54 : decode cX11_storm 54 = .ok (.ifCond .ge 6, 3) := by decide +kernel
theorem dX11_storm_57 : decode cX11_storm 57 = .ok (.goto 27, 3) := by decide +kernel
theorem dX11_storm_60 : decode cX11_storm 60 = .ok (.aload_n 0, 1) := by decide +kernel
theorem dX11_storm_61 : decode cX11_storm 61 = .ok (.getfield 39, 3) := by decide +kernel
theorem dX11_storm_64 : decode cX11_storm 64 = .ok (.iload_n 1, 1) := by decide +kernel
theorem dX11_storm_65 : decode cX11_storm 65 = .ok (.invokestatic 303, 3) := by decide +kernel
theorem dX11_storm_68 : decode cX11_storm 68 = .ok (.istore 4, 2) := by decide +kernel
theorem dX11_storm_70 : decode cX11_storm 70 = .ok (.aload_n 0, 1) := by decide +kernel
theorem dX11_storm_71 : decode cX11_storm 71 = .ok (.aload_n 0, 1) := by decide +kernel
theorem dX11_storm_72 : decode cX11_storm 72 = .ok (.getfield 39, 3) := by decide +kernel
theorem dX11_storm_75 : decode cX11_storm 75 = .ok (.iload 4, 2) := by decide +kernel
theorem dX11_storm_77 : decode cX11_storm 77 = .ok (.iconst 0, 1) := by decide +kernel
theorem dX11_storm_78 : decode cX11_storm 78 = .ok (.iload 4, 2) := by decide +kernel
theorem dX11_storm_80 : decode cX11_storm 80 = .ok (.invokevirtual 365, 3) := by decide +kernel
theorem dX11_storm_83 : decode cX11_storm 83 = .ok (.pop, 1) := by decide +kernel
theorem dX11_storm_84 : decode cX11_storm 84 = .ok (.iinc 3 1, 3) := by decide +kernel
theorem dX11_storm_87 : decode cX11_storm 87 = .ok (.goto (-46), 3) := by decide +kernel
theorem dX11_storm_90 : decode cX11_storm 90 = .ok (.aload_n 0, 1) := by decide +kernel
theorem dX11_storm_91 : decode cX11_storm 91 = .ok (.iconst 0, 1) := by decide +kernel
theorem dX11_storm_92 : decode cX11_storm 92 = .ok (.putfield 81, 3) := by decide +kernel
theorem dX11_storm_95 : decode cX11_storm 95 = .ok (.aload_n 0, 1) := by decide +kernel
theorem dX11_storm_96 : decode cX11_storm 96 = .ok (.aload_n 0, 1) := by decide +kernel
theorem dX11_storm_97 : decode cX11_storm 97 = .ok (.getfield 39, 3) := by decide +kernel
theorem dX11_storm_100 : decode cX11_storm 100 = .ok (.invokestatic 224, 3) := by decide +kernel
theorem dX11_storm_103 : decode cX11_storm 103 = .ok (.invokestatic 100, 3) := by decide +kernel
theorem dX11_storm_106 : decode cX11_storm 106 = .ok (.i2l, 1) := by decide +kernel
theorem dX11_storm_107 : decode cX11_storm 107 = .ok (.invokevirtual 283, 3) := by decide +kernel
theorem dX11_storm_110 : decode cX11_storm 110 = .ok (.aload_n 0, 1) := by decide +kernel
theorem dX11_storm_111 : decode cX11_storm 111 = .ok (.aload_n 0, 1) := by decide +kernel
theorem dX11_storm_112 : decode cX11_storm 112 = .ok (.getfield 39, 3) := by decide +kernel
theorem dX11_storm_115 : decode cX11_storm 115 = .ok (.invokestatic 369, 3) := by decide +kernel
theorem dX11_storm_118 : decode cX11_storm 118 = .ok (.invokestatic 100, 3) := by decide +kernel
theorem dX11_storm_121 : decode cX11_storm 121 = .ok (.i2l, 1) := by decide +kernel
theorem dX11_storm_122 : decode cX11_storm 122 = .ok (.invokevirtual 283, 3) := by decide +kernel
theorem dX11_storm_125 : decode cX11_storm 125 = .ok (.aload_n 0, 1) := by decide +kernel
theorem dX11_storm_126 : decode cX11_storm 126 = .ok (.getfield 39, 3) := by decide +kernel
theorem dX11_storm_129 : decode cX11_storm 129 = .ok (.invokestatic 181, 3) := by decide +kernel
theorem dX11_storm_132 : decode cX11_storm 132 = .ok (.ireturn, 1) := by decide +kernel
def fX11_storm_L41 (k90 : AH → Nat → Option (Int32 × AH)) : Nat → AH → Nat → Int32 → Int32 → Int32 → Option (Int32 × AH)
  | 0, _, _, _, _, _ => none
  | n + 1, h, v0, v1, v2, v3 =>
    if v2 ≤ v3 then (
      k90 h v0
    ) else (
      (gR h 11 v0 20).bind fun x1 =>
      (fX11_refusesFork h x1 v1).bind fun q2 =>
      if 0 ≤ q2 then (
        (gR h 11 v0 20).bind fun x3 =>
        (fX11_goFork h x3 v1).bind fun q4 =>
        (gR q4.2 11 v0 20).bind fun x5 =>
        (fX11_tryWrite q4.2 v0 x5 q4.1 0 q4.1).bind fun q6 =>
        letF (v3 + 1 : Int32) fun x7 =>
        fX11_storm_L41 k90 n q6.2 v0 v1 v2 x7
      ) else (
        letF (v3 + 1 : Int32) fun x8 =>
        fX11_storm_L41 k90 n h v0 v1 v2 x8
      )
    )
def fX11_storm (h : AH) (a0 : Nat) (a1 : Int32) (a2 : Int32) : Option (Int32 × AH) :=
  if hasC h 11 a0 = true then (
    (pF h 11 a0 5 (.int 0)).bind fun h9 =>
    (gR h9 11 a0 0).bind fun x10 =>
    (fX11_isSpace h9 x10 a1).bind fun q11 =>
    if q11 = true then (
      (fX11_in h9 a2 0 5).bind fun q12 =>
      if q12 = true then (
        (gR h9 11 a0 0).bind fun x13 =>
        (gR h9 11 a0 20).bind fun x14 =>
        (fX11_lay h9 x13 x14 0).bind fun q15 =>
        fX11_storm_L41
          (fun h17 x16 =>
            (pF h17 11 x16 4 (.int 0)).bind fun h18 =>
            (gR h18 11 x16 20).bind fun x19 =>
            (fX11_objectsOf h18 x19).bind fun q20 =>
            (fJ6_bitCount_0f7a4 h18 q20).bind fun q21 =>
            (fX11_tell h18 x16 (Int32.toInt64 q21)).bind fun q22 =>
            (gR q22 11 x16 20).bind fun x23 =>
            (fX11_spacesOf q22 x23).bind fun q24 =>
            (fJ6_bitCount_0f7a4 q22 q24).bind fun q25 =>
            (fX11_tell q22 x16 (Int32.toInt64 q25)).bind fun q26 =>
            (gR q26 11 x16 20).bind fun x27 =>
            (fX11_framesOf q26 x27).bind fun q28 =>
            some ((q28, q26)))
          FU q15 a0 a1 a2 0
      ) else (
        some (((-1), h9))
      )
    ) else (
      some (((-1), h9))
    )
  ) else none
set_option maxHeartbeats 4000000 in
theorem gX11_storm_L41 {Y : YT} {X : XT} (C : CT Y X RX11 cX11_storm 5) (O : RO X 211 0 0) {r : Int32 × AH} (E : RX Y X (some .int) (some (.int r.1)) r.2 0 0) {k90 : AH → Nat → Option (Int32 × AH)} (hk90 : ∀ (h : AH) (v0 : Nat), GO Y X 5 r h 0 0 90 [(0, .ref v0)] [] (k90 h v0)) : ∀ (n : Nat) (h : AH) (v0 : Nat) (v1 : Int32) (v2 : Int32) (v3 : Int32), GO Y X 5 r h 0 0 41 [(0, .ref v0), (1, .int v1), (2, .int v2), (3, .int v3)] [] (fX11_storm_L41 k90 n h v0 v1 v2 v3) := by
  intro n
  induction n with
  | zero => intros; exact go_none _ _ _
  | succ n ih =>
    intro h v0 v1 v2 v3
    rw [fX11_storm_L41]
    refine go_iload_n (pc := 41) C 3 dX11_storm_41 rfl ?_
    refine go_iload_n (pc := 42) C 2 dX11_storm_42 rfl ?_
    refine go_icmp_ge (pc := 43) C 90 dX11_storm_43 (by decide) (fun _ => ?_) (fun _ => ?_)
    · refine go_sub (ls' := [(0, .ref v0)]) [0] rfl ?_
      exact hk90 h v0
    · refine go_aload_n (pc := 46) C 0 dX11_storm_46 rfl ?_
      refine go_gR (pc := 47) C fdX11_39 dX11_storm_47 (fun x1 => ?_)
      refine go_iload_n (pc := 50) C 1 dX11_storm_50 rfl ?_
      refine go_bind (fun q2 hq2 => ?_)
      refine go_callS (rest := []) (st' := [.int q2]) (c' := 0) (s' := 0) (pc := 51) C O miX11_300 w_1665 [.ref x1, .int v1] rfl (mX11_refusesFork hq2) dX11_storm_51 ⟨by decide, by decide, by decide, by decide⟩ rfl (Nat.le_of_ble_eq_true rfl) rfl ⟨rfl, rfl⟩ ?_
      refine go_if_ge (pc := 54) C 60 dX11_storm_54 (by decide) (fun _ => ?_) (fun _ => ?_)
      · refine go_aload_n (pc := 60) C 0 dX11_storm_60 rfl ?_
        refine go_gR (pc := 61) C fdX11_39 dX11_storm_61 (fun x3 => ?_)
        refine go_iload_n (pc := 64) C 1 dX11_storm_64 rfl ?_
        refine go_bind (fun q4 hq4 => ?_)
        refine go_callS (rest := []) (st' := [.int q4.1]) (c' := 0) (s' := 0) (pc := 65) C O miX11_303 w_1668 [.ref x3, .int v1] rfl (mX11_goFork hq4) dX11_storm_65 ⟨by decide, by decide, by decide, by decide⟩ rfl (Nat.le_of_ble_eq_true rfl) rfl ⟨rfl, rfl⟩ ?_
        refine go_istore (ls' := [(4, .int q4.1), (0, .ref v0), (1, .int v1), (2, .int v2), (3, .int v3)]) (pc := 68) C dX11_storm_68 (by decide) rfl ?_
        refine go_aload_n (pc := 70) C 1 dX11_storm_70 rfl ?_
        refine go_aload_n (pc := 71) C 1 dX11_storm_71 rfl ?_
        refine go_gR (pc := 72) C fdX11_39 dX11_storm_72 (fun x5 => ?_)
        refine go_iload (pc := 75) C 0 dX11_storm_75 rfl ?_
        refine go_iconst (pc := 77) C dX11_storm_77 ki_0 ?_
        refine go_iload (pc := 78) C 0 dX11_storm_78 rfl ?_
        refine go_bind (fun q6 hq6 => ?_)
        refine go_callV (rest := []) (st' := [.int (b2i q6.1)]) (c' := 0) (s' := 0) (pc := 80) C O miX11_365 mvX11_tryWrite [.ref x5, .int q4.1, .int 0, .int q4.1] rfl (mX11_tryWrite hq6).1 (mX11_tryWrite hq6).2 dX11_storm_80 ⟨by decide, by decide, by decide, by decide⟩ rfl (Nat.le_of_ble_eq_true rfl) rfl ⟨rfl, rfl⟩ ?_
        refine go_pop (pc := 83) C dX11_storm_83 rfl ?_
        refine go_iincL (pc := 84) C 4 dX11_storm_84 rfl ki_1 (by decide) (fun x7 => [(3, .int x7), (4, .int q4.1), (0, .ref v0), (1, .int v1), (2, .int v2)]) (fun _ => rfl) (fun x7 => ?_)
        refine go_goto (pc := 87) C 41 dX11_storm_87 (by decide) ?_
        refine go_sub (ls' := [(0, .ref v0), (1, .int v1), (2, .int v2), (3, .int x7)]) [2, 3, 4, 0] rfl ?_
        exact ih q6.2 v0 v1 v2 x7
      · refine go_goto (pc := 57) C 84 dX11_storm_57 (by decide) ?_
        refine go_iincL (pc := 84) C 3 dX11_storm_84 rfl ki_1 (by decide) (fun x8 => [(3, .int x8), (0, .ref v0), (1, .int v1), (2, .int v2)]) (fun _ => rfl) (fun x8 => ?_)
        refine go_goto (pc := 87) C 41 dX11_storm_87 (by decide) ?_
        refine go_sub (ls' := [(0, .ref v0), (1, .int v1), (2, .int v2), (3, .int x8)]) [1, 2, 3, 0] rfl ?_
        exact ih h v0 v1 v2 x8
set_option maxHeartbeats 4000000 in
theorem mX11_storm {h : AH} {a0 : Nat} {a1 : Int32} {a2 : Int32} {r : Int32 × AH} (hr : fX11_storm h a0 a1 a2 = some r) : hasC h 11 a0 = true ∧ MC yX11_storm cX11_storm 5 (some .int) 211 0 0 [.ref a0, .int a1, .int a2] h (some (.int r.1)) r.2 := by
  unfold fX11_storm at hr
  obtain ⟨hc, hr⟩ := if_some hr
  refine ⟨hc, mc_of (l0 := [(0, .ref a0), (1, .int a1), (2, .int a2)]) rfl pn_X11 (Nat.le_of_ble_eq_true rfl) (fun Y X C E O hnm => go_run hr ?_)⟩
  have C : CT Y X RX11 cX11_storm 5 := C
  refine go_aload_n (pc := 0) C 0 dX11_storm_0 rfl ?_
  refine go_iconst (pc := 1) C dX11_storm_1 ki_0 ?_
  refine go_pI (pc := 2) C fpX11_77 dX11_storm_2 (fun h9 => ?_)
  refine go_aload_n (pc := 5) C 0 dX11_storm_5 rfl ?_
  refine go_gR (pc := 6) C fdX11_9 dX11_storm_6 (fun x10 => ?_)
  refine go_iload_n (pc := 9) C 1 dX11_storm_9 rfl ?_
  refine go_bind (fun q11 hq11 => ?_)
  refine go_callS (rest := []) (st' := [.int (b2i q11)]) (c' := 0) (s' := 0) (pc := 10) C O miX11_106 w_1479 [.ref x10, .int a1] rfl (mX11_isSpace hq11) dX11_storm_10 ⟨by decide, by decide, by decide, by decide⟩ rfl (Nat.le_of_ble_eq_true rfl) rfl ⟨rfl, rfl⟩ ?_
  refine go_ifZ_eq (pc := 13) C 25 dX11_storm_13 (by decide) (fun _ => ?_) (fun _ => ?_)
  · refine go_iload_n (pc := 16) C 2 dX11_storm_16 rfl ?_
    refine go_iconst (pc := 17) C dX11_storm_17 ki_0 ?_
    refine go_iconst (pc := 18) C dX11_storm_18 ki_5 ?_
    refine go_bind (fun q12 hq12 => ?_)
    refine go_callS (rest := []) (st' := [.int (b2i q12)]) (c' := 0) (s' := 0) (pc := 19) C O miX11_84 w_1437 [.int a2, .int 0, .int 5] rfl (mX11_in hq12) dX11_storm_19 ⟨by decide, by decide, by decide, by decide⟩ rfl (Nat.le_of_ble_eq_true rfl) rfl ⟨rfl, rfl⟩ ?_
    refine go_ifZ_ne (pc := 22) C 27 dX11_storm_22 (by decide) (fun _ => ?_) (fun _ => ?_)
    · refine go_aload_n (pc := 27) C 0 dX11_storm_27 rfl ?_
      refine go_gR (pc := 28) C fdX11_9 dX11_storm_28 (fun x13 => ?_)
      refine go_aload_n (pc := 31) C 0 dX11_storm_31 rfl ?_
      refine go_gR (pc := 32) C fdX11_39 dX11_storm_32 (fun x14 => ?_)
      refine go_iconst (pc := 35) C dX11_storm_35 ki_0 ?_
      refine go_bind (fun q15 hq15 => ?_)
      refine go_callS (rest := []) (st' := []) (c' := 0) (s' := 0) (pc := 36) C O miX11_255 w_1502 [.ref x13, .ref x14, .int 0] rfl (mX11_lay hq15) dX11_storm_36 ⟨by decide, by decide, by decide, by decide⟩ rfl (Nat.le_of_ble_eq_true rfl) rfl ⟨rfl, rfl⟩ ?_
      refine go_iconst (pc := 39) C dX11_storm_39 ki_0 ?_
      refine go_istore_n (ls' := [(3, .int 0), (0, .ref a0), (1, .int a1), (2, .int a2)]) (pc := 40) C dX11_storm_40 (by decide) rfl ?_
      refine go_sub (ls' := [(0, .ref a0), (1, .int a1), (2, .int a2), (3, .int 0)]) [1, 2, 3, 0] rfl ?_
      refine gX11_storm_L41 C O E (fun h17 x16 => ?_) FU q15 a0 a1 a2 0
      · refine go_aload_n (pc := 90) C 0 dX11_storm_90 rfl ?_
        refine go_iconst (pc := 91) C dX11_storm_91 ki_0 ?_
        refine go_pI (pc := 92) C fpX11_81 dX11_storm_92 (fun h18 => ?_)
        refine go_aload_n (pc := 95) C 0 dX11_storm_95 rfl ?_
        refine go_aload_n (pc := 96) C 0 dX11_storm_96 rfl ?_
        refine go_gR (pc := 97) C fdX11_39 dX11_storm_97 (fun x19 => ?_)
        refine go_bind (fun q20 hq20 => ?_)
        refine go_callS (rest := [.ref x16]) (st' := [.int q20, .ref x16]) (c' := 0) (s' := 0) (pc := 100) C O miX11_224 w_1562 [.ref x19] rfl (mX11_objectsOf hq20) dX11_storm_100 ⟨by decide, by decide, by decide, by decide⟩ rfl (Nat.le_of_ble_eq_true rfl) rfl ⟨rfl, rfl⟩ ?_
        refine go_bind (fun q21 hq21 => ?_)
        refine go_callS (rest := [.ref x16]) (st' := [.int q21, .ref x16]) (c' := 0) (s' := 0) (pc := 103) C O miX11_100 w_397 [.int q20] rfl (mJ6_bitCount_0f7a4 hq21) dX11_storm_103 ⟨by decide, by decide, by decide, by decide⟩ rfl (Nat.le_of_ble_eq_true rfl) rfl ⟨rfl, rfl⟩ ?_
        refine go_i2l (pc := 106) C dX11_storm_106 ?_
        refine go_bind (fun q22 hq22 => ?_)
        refine go_callV (rest := []) (st' := []) (c' := 0) (s' := 0) (pc := 107) C O miX11_283 mvX11_tell [.long (Int32.toInt64 q21)] rfl (mX11_tell hq22).1 (mX11_tell hq22).2 dX11_storm_107 ⟨by decide, by decide, by decide, by decide⟩ rfl (Nat.le_of_ble_eq_true rfl) rfl ⟨rfl, rfl⟩ ?_
        refine go_aload_n (pc := 110) C 0 dX11_storm_110 rfl ?_
        refine go_aload_n (pc := 111) C 0 dX11_storm_111 rfl ?_
        refine go_gR (pc := 112) C fdX11_39 dX11_storm_112 (fun x23 => ?_)
        refine go_bind (fun q24 hq24 => ?_)
        refine go_callS (rest := [.ref x16]) (st' := [.int q24, .ref x16]) (c' := 0) (s' := 0) (pc := 115) C O miX11_369 w_1791 [.ref x23] rfl (mX11_spacesOf hq24) dX11_storm_115 ⟨by decide, by decide, by decide, by decide⟩ rfl (Nat.le_of_ble_eq_true rfl) rfl ⟨rfl, rfl⟩ ?_
        refine go_bind (fun q25 hq25 => ?_)
        refine go_callS (rest := [.ref x16]) (st' := [.int q25, .ref x16]) (c' := 0) (s' := 0) (pc := 118) C O miX11_100 w_397 [.int q24] rfl (mJ6_bitCount_0f7a4 hq25) dX11_storm_118 ⟨by decide, by decide, by decide, by decide⟩ rfl (Nat.le_of_ble_eq_true rfl) rfl ⟨rfl, rfl⟩ ?_
        refine go_i2l (pc := 121) C dX11_storm_121 ?_
        refine go_bind (fun q26 hq26 => ?_)
        refine go_callV (rest := []) (st' := []) (c' := 0) (s' := 0) (pc := 122) C O miX11_283 mvX11_tell [.long (Int32.toInt64 q25)] rfl (mX11_tell hq26).1 (mX11_tell hq26).2 dX11_storm_122 ⟨by decide, by decide, by decide, by decide⟩ rfl (Nat.le_of_ble_eq_true rfl) rfl ⟨rfl, rfl⟩ ?_
        refine go_aload_n (pc := 125) C 0 dX11_storm_125 rfl ?_
        refine go_gR (pc := 126) C fdX11_39 dX11_storm_126 (fun x27 => ?_)
        refine go_bind (fun q28 hq28 => ?_)
        refine go_callS (rest := []) (st' := [.int q28]) (c' := 0) (s' := 0) (pc := 129) C O miX11_181 w_1488 [.ref x27] rfl (mX11_framesOf hq28) dX11_storm_129 ⟨by decide, by decide, by decide, by decide⟩ rfl (Nat.le_of_ble_eq_true rfl) rfl ⟨rfl, rfl⟩ ?_
        exact go_iret (w := wIh) (pc := 132) C E ((q28, q26)) q28 dX11_storm_132 rfl
    · refine go_iconst (pc := 25) C dX11_storm_25 ki_m1 ?_
      exact go_iret (w := wIh) (pc := 26) C E (((-1), h9)) ((-1)) dX11_storm_26 rfl
  · refine go_iconst (pc := 25) C dX11_storm_25 ki_m1 ?_
    exact go_iret (w := wIh) (pc := 26) C E (((-1), h9)) ((-1)) dX11_storm_26 rfl
theorem dX11_sweep_0 : decode cX11_sweep 0 = .ok (.aload_n 0, 1) := by decide +kernel
theorem dX11_sweep_1 : decode cX11_sweep 1 = .ok (.iconst 0, 1) := by decide +kernel
theorem dX11_sweep_2 : decode cX11_sweep 2 = .ok (.putfield 77, 3) := by decide +kernel
theorem dX11_sweep_5 : decode cX11_sweep 5 = .ok (.aload_n 0, 1) := by decide +kernel
theorem dX11_sweep_6 : decode cX11_sweep 6 = .ok (.getfield 9, 3) := by decide +kernel
theorem dX11_sweep_9 : decode cX11_sweep 9 = .ok (.iload_n 1, 1) := by decide +kernel
theorem dX11_sweep_10 : decode cX11_sweep 10 = .ok (.invokestatic 106, 3) := by decide +kernel
theorem dX11_sweep_13 : decode cX11_sweep 13 = .ok (.ifCond .eq 13, 3) := by decide +kernel
theorem dX11_sweep_16 : decode cX11_sweep 16 = .ok (.iload_n 2, 1) := by decide +kernel
theorem dX11_sweep_17 : decode cX11_sweep 17 = .ok (.iconst 0, 1) := by decide +kernel
theorem dX11_sweep_18 : decode cX11_sweep 18 = .ok (.bipush 99, 2) := by decide +kernel
theorem dX11_sweep_20 : decode cX11_sweep 20 = .ok (.invokestatic 84, 3) := by decide +kernel
theorem dX11_sweep_23 : decode cX11_sweep 23 = .ok (.ifCond .ne 5, 3) := by decide +kernel
theorem dX11_sweep_26 : decode cX11_sweep 26 = .ok (.iconst (-1), 1) := by decide +kernel
theorem dX11_sweep_27 : decode cX11_sweep 27 = .ok (.ireturn, 1) := by decide +kernel
theorem dX11_sweep_28 : decode cX11_sweep 28 = .ok (.aload_n 0, 1) := by decide +kernel
theorem dX11_sweep_29 : decode cX11_sweep 29 = .ok (.getfield 9, 3) := by decide +kernel
theorem dX11_sweep_32 : decode cX11_sweep 32 = .ok (.aload_n 0, 1) := by decide +kernel
theorem dX11_sweep_33 : decode cX11_sweep 33 = .ok (.getfield 39, 3) := by decide +kernel
theorem dX11_sweep_36 : decode cX11_sweep 36 = .ok (.iconst 0, 1) := by decide +kernel
theorem dX11_sweep_37 : decode cX11_sweep 37 = .ok (.invokestatic 255, 3) := by decide +kernel
theorem dX11_sweep_40 : decode cX11_sweep 40 = .ok (.iconst 0, 1) := by decide +kernel
theorem dX11_sweep_41 : decode cX11_sweep 41 = .ok (.istore_n 3, 1) := by decide +kernel
theorem dX11_sweep_42 : decode cX11_sweep 42 = .ok (.iconst 0, 1) := by decide +kernel
theorem dX11_sweep_43 : decode cX11_sweep 43 = .ok (.istore 4, 2) := by decide +kernel
theorem dX11_sweep_45 : decode cX11_sweep 45 = .ok (.iload 4, 2) := by decide +kernel
theorem dX11_sweep_47 : decode cX11_sweep 47 = .ok (.bipush 8, 2) := by decide +kernel
theorem dX11_sweep_49 : decode cX11_sweep 49 = .ok (.if_icmp .ge 32, 3) := by decide +kernel
theorem dX11_sweep_52 : decode cX11_sweep 52 = .ok (.iload_n 3, 1) := by decide +kernel
theorem dX11_sweep_53 : decode cX11_sweep 53 = .ok (.aload_n 0, 1) := by decide +kernel
theorem dX11_sweep_54 : decode cX11_sweep 54 = .ok (.aload_n 0, 1) := by decide +kernel
theorem dX11_sweep_55 : decode cX11_sweep 55 = .ok (.getfield 39, 3) := by decide +kernel
theorem dX11_sweep_58 : decode cX11_sweep 58 = .ok (.iload_n 1, 1) := by decide +kernel
theorem dX11_sweep_59 : decode cX11_sweep 59 = .ok (.iload 4, 2) := by decide +kernel
theorem dX11_sweep_61 : decode cX11_sweep 61 = .ok (.iload_n 2, 1) := by decide +kernel
theorem dX11_sweep_62 : decode cX11_sweep 62 = .ok (.invokevirtual 365, 3) := by decide +kernel
theorem dX11_sweep_65 : decode cX11_sweep 65 = .ok (.ifCond .eq 7, 3) := by decide +kernel
theorem dX11_sweep_68 : decode cX11_sweep 68 = .ok (.iconst 0, 1) := by decide +kernel
theorem dX11_sweep_69 : decode cX11_sweep 69 = .ok (.goto 4, 3) := by decide +kernel
theorem dX11_sweep_72 : decode cX11_sweep 72 = .ok (.iconst 1, 1) := by decide +kernel
theorem dX11_sweep_73 : decode cX11_sweep 73 = .ok (.iadd, 1) := by decide +kernel
theorem dX11_sweep_74 : decode cX11_sweep 74 = .ok (.istore_n 3, 1) := by decide +kernel
theorem dX11_sweep_75 : decode cX11_sweep 75 = .ok (.iinc 4 1, 3) := by decide +kernel
theorem dX11_sweep_78 : decode cX11_sweep 78 = .ok (.goto (-33), 3) := by decide +kernel
theorem dX11_sweep_81 : decode cX11_sweep 81 = .ok (.aload_n 0, 1) := by decide +kernel
theorem dX11_sweep_82 : decode cX11_sweep 82 = .ok (.iconst 0, 1) := by decide +kernel
theorem dX11_sweep_83 : decode cX11_sweep 83 = .ok (.putfield 81, 3) := by decide +kernel
theorem dX11_sweep_86 : decode cX11_sweep 86 = .ok (.aload_n 0, 1) := by decide +kernel
theorem dX11_sweep_87 : decode cX11_sweep 87 = .ok (.aload_n 0, 1) := by decide +kernel
theorem dX11_sweep_88 : decode cX11_sweep 88 = .ok (.getfield 39, 3) := by decide +kernel
theorem dX11_sweep_91 : decode cX11_sweep 91 = .ok (.invokestatic 181, 3) := by decide +kernel
theorem dX11_sweep_94 : decode cX11_sweep 94 = .ok (.i2l, 1) := by decide +kernel
theorem dX11_sweep_95 : decode cX11_sweep 95 = .ok (.invokevirtual 283, 3) := by decide +kernel
theorem dX11_sweep_98 : decode cX11_sweep 98 = .ok (.aload_n 0, 1) := by decide +kernel
theorem dX11_sweep_99 : decode cX11_sweep 99 = .ok (.iload_n 3, 1) := by decide +kernel
theorem dX11_sweep_100 : decode cX11_sweep 100 = .ok (.i2l, 1) := by decide +kernel
theorem dX11_sweep_101 : decode cX11_sweep 101 = .ok (.invokevirtual 283, 3) := by decide +kernel
theorem dX11_sweep_104 : decode cX11_sweep 104 = .ok (.aload_n 0, 1) := by decide +kernel
theorem dX11_sweep_105 : decode cX11_sweep 105 = .ok (.getfield 39, 3) := by decide +kernel
theorem dX11_sweep_108 : decode cX11_sweep 108 = .ok (.iload_n 1, 1) := by decide +kernel
theorem dX11_sweep_109 : decode cX11_sweep 109 = .ok (.invokestatic 116, 3) := by decide +kernel
theorem dX11_sweep_112 : decode cX11_sweep 112 = .ok (.ireturn, 1) := by decide +kernel
def fX11_sweep_J73 (k45 : AH → Nat → Int32 → Int32 → Int32 → Int32 → Option (Int32 × AH)) (h : AH) (v0 : Nat) (v1 : Int32) (v2 : Int32) (v4 : Int32) (s0 : Int32) (s1 : Int32) : Option (Int32 × AH) :=
    letF (s1 + s0 : Int32) fun x1 =>
    letF (v4 + 1 : Int32) fun x2 =>
    k45 h v0 v1 v2 x1 x2
def fX11_sweep_L45 (k81 : AH → Nat → Int32 → Int32 → Option (Int32 × AH)) : Nat → AH → Nat → Int32 → Int32 → Int32 → Int32 → Option (Int32 × AH)
  | 0, _, _, _, _, _, _ => none
  | n + 1, h, v0, v1, v2, v3, v4 =>
    if 8 ≤ v4 then (
      k81 h v0 v1 v3
    ) else (
      (gR h 11 v0 20).bind fun x3 =>
      (fX11_tryWrite h v0 x3 v1 v4 v2).bind fun q4 =>
      if q4.1 = true then (
        fX11_sweep_J73 (fX11_sweep_L45 k81 n) q4.2 v0 v1 v2 v4 0 v3
      ) else (
        fX11_sweep_J73 (fX11_sweep_L45 k81 n) q4.2 v0 v1 v2 v4 1 v3
      )
    )
def fX11_sweep (h : AH) (a0 : Nat) (a1 : Int32) (a2 : Int32) : Option (Int32 × AH) :=
  if hasC h 11 a0 = true then (
    (pF h 11 a0 5 (.int 0)).bind fun h5 =>
    (gR h5 11 a0 0).bind fun x6 =>
    (fX11_isSpace h5 x6 a1).bind fun q7 =>
    if q7 = true then (
      (fX11_in h5 a2 0 99).bind fun q8 =>
      if q8 = true then (
        (gR h5 11 a0 0).bind fun x9 =>
        (gR h5 11 a0 20).bind fun x10 =>
        (fX11_lay h5 x9 x10 0).bind fun q11 =>
        fX11_sweep_L45
          (fun h15 x12 x13 x14 =>
            (pF h15 11 x12 4 (.int 0)).bind fun h16 =>
            (gR h16 11 x12 20).bind fun x17 =>
            (fX11_framesOf h16 x17).bind fun q18 =>
            (fX11_tell h16 x12 (Int32.toInt64 q18)).bind fun q19 =>
            (fX11_tell q19 x12 (Int32.toInt64 x14)).bind fun q20 =>
            (gR q20 11 x12 20).bind fun x21 =>
            (fX11_lengthOf q20 x21 x13).bind fun q22 =>
            some ((q22, q20)))
          FU q11 a0 a1 a2 0 0
      ) else (
        some (((-1), h5))
      )
    ) else (
      some (((-1), h5))
    )
  ) else none
set_option maxHeartbeats 4000000 in
theorem gX11_sweep_J73 {Y : YT} {X : XT} (C : CT Y X RX11 cX11_sweep 5) (O : RO X 211 0 0) {r : Int32 × AH} (E : RX Y X (some .int) (some (.int r.1)) r.2 0 0) {k45 : AH → Nat → Int32 → Int32 → Int32 → Int32 → Option (Int32 × AH)} (hk45 : ∀ (h : AH) (v0 : Nat) (v1 : Int32) (v2 : Int32) (v3 : Int32) (v4 : Int32), GO Y X 5 r h 0 0 45 [(0, .ref v0), (1, .int v1), (2, .int v2), (3, .int v3), (4, .int v4)] [] (k45 h v0 v1 v2 v3 v4)) : ∀ (h : AH) (v0 : Nat) (v1 : Int32) (v2 : Int32) (v4 : Int32) (s0 : Int32) (s1 : Int32), GO Y X 5 r h 0 0 73 [(0, .ref v0), (1, .int v1), (2, .int v2), (4, .int v4)] [.int s0, .int s1] (fX11_sweep_J73 k45 h v0 v1 v2 v4 s0 s1) := by
  intro h v0 v1 v2 v4 s0 s1
  unfold fX11_sweep_J73
  refine go_iadd (pc := 73) C dX11_sweep_73 ?_
  refine go_istore_nL (pc := 74) C dX11_sweep_74 (by decide) (fun x1 => [(3, .int x1), (0, .ref v0), (1, .int v1), (2, .int v2), (4, .int v4)]) (fun _ => rfl) (fun x1 => ?_)
  refine go_iincL (pc := 75) C 4 dX11_sweep_75 rfl ki_1 (by decide) (fun x2 => [(4, .int x2), (3, .int x1), (0, .ref v0), (1, .int v1), (2, .int v2)]) (fun _ => rfl) (fun x2 => ?_)
  refine go_goto (pc := 78) C 45 dX11_sweep_78 (by decide) ?_
  refine go_sub (ls' := [(0, .ref v0), (1, .int v1), (2, .int v2), (3, .int x1), (4, .int x2)]) [2, 3, 4, 1, 0] rfl ?_
  exact hk45 h v0 v1 v2 x1 x2
set_option maxHeartbeats 4000000 in
theorem gX11_sweep_L45 {Y : YT} {X : XT} (C : CT Y X RX11 cX11_sweep 5) (O : RO X 211 0 0) {r : Int32 × AH} (E : RX Y X (some .int) (some (.int r.1)) r.2 0 0) {k81 : AH → Nat → Int32 → Int32 → Option (Int32 × AH)} (hk81 : ∀ (h : AH) (v0 : Nat) (v1 : Int32) (v3 : Int32), GO Y X 5 r h 0 0 81 [(0, .ref v0), (1, .int v1), (3, .int v3)] [] (k81 h v0 v1 v3)) : ∀ (n : Nat) (h : AH) (v0 : Nat) (v1 : Int32) (v2 : Int32) (v3 : Int32) (v4 : Int32), GO Y X 5 r h 0 0 45 [(0, .ref v0), (1, .int v1), (2, .int v2), (3, .int v3), (4, .int v4)] [] (fX11_sweep_L45 k81 n h v0 v1 v2 v3 v4) := by
  intro n
  induction n with
  | zero => intros; exact go_none _ _ _
  | succ n ih =>
    intro h v0 v1 v2 v3 v4
    rw [fX11_sweep_L45]
    refine go_iload (pc := 45) C 4 dX11_sweep_45 rfl ?_
    refine go_bipush (pc := 47) C dX11_sweep_47 kb_8 ?_
    refine go_icmp_ge (pc := 49) C 81 dX11_sweep_49 (by decide) (fun _ => ?_) (fun _ => ?_)
    · refine go_sub (ls' := [(0, .ref v0), (1, .int v1), (3, .int v3)]) [0, 1, 3] rfl ?_
      exact hk81 h v0 v1 v3
    · refine go_iload_n (pc := 52) C 3 dX11_sweep_52 rfl ?_
      refine go_aload_n (pc := 53) C 0 dX11_sweep_53 rfl ?_
      refine go_aload_n (pc := 54) C 0 dX11_sweep_54 rfl ?_
      refine go_gR (pc := 55) C fdX11_39 dX11_sweep_55 (fun x3 => ?_)
      refine go_iload_n (pc := 58) C 1 dX11_sweep_58 rfl ?_
      refine go_iload (pc := 59) C 4 dX11_sweep_59 rfl ?_
      refine go_iload_n (pc := 61) C 2 dX11_sweep_61 rfl ?_
      refine go_bind (fun q4 hq4 => ?_)
      refine go_callV (rest := [.int v3]) (st' := [.int (b2i q4.1), .int v3]) (c' := 0) (s' := 0) (pc := 62) C O miX11_365 mvX11_tryWrite [.ref x3, .int v1, .int v4, .int v2] rfl (mX11_tryWrite hq4).1 (mX11_tryWrite hq4).2 dX11_sweep_62 ⟨by decide, by decide, by decide, by decide⟩ rfl (Nat.le_of_ble_eq_true rfl) rfl ⟨rfl, rfl⟩ ?_
      refine go_ifZ_eq (pc := 65) C 72 dX11_sweep_65 (by decide) (fun _ => ?_) (fun _ => ?_)
      · refine go_iconst (pc := 68) C dX11_sweep_68 ki_0 ?_
        refine go_goto (pc := 69) C 73 dX11_sweep_69 (by decide) ?_
        refine go_sub (ls' := [(0, .ref v0), (1, .int v1), (2, .int v2), (4, .int v4)]) [0, 1, 2, 4] rfl ?_
        refine gX11_sweep_J73 C O E (ih) q4.2 v0 v1 v2 v4 0 v3
      · refine go_iconst (pc := 72) C dX11_sweep_72 ki_1 ?_
        refine go_sub (ls' := [(0, .ref v0), (1, .int v1), (2, .int v2), (4, .int v4)]) [0, 1, 2, 4] rfl ?_
        refine gX11_sweep_J73 C O E (ih) q4.2 v0 v1 v2 v4 1 v3
set_option maxHeartbeats 4000000 in
theorem mX11_sweep {h : AH} {a0 : Nat} {a1 : Int32} {a2 : Int32} {r : Int32 × AH} (hr : fX11_sweep h a0 a1 a2 = some r) : hasC h 11 a0 = true ∧ MC yX11_sweep cX11_sweep 5 (some .int) 211 0 0 [.ref a0, .int a1, .int a2] h (some (.int r.1)) r.2 := by
  unfold fX11_sweep at hr
  obtain ⟨hc, hr⟩ := if_some hr
  refine ⟨hc, mc_of (l0 := [(0, .ref a0), (1, .int a1), (2, .int a2)]) rfl pn_X11 (Nat.le_of_ble_eq_true rfl) (fun Y X C E O hnm => go_run hr ?_)⟩
  have C : CT Y X RX11 cX11_sweep 5 := C
  refine go_aload_n (pc := 0) C 0 dX11_sweep_0 rfl ?_
  refine go_iconst (pc := 1) C dX11_sweep_1 ki_0 ?_
  refine go_pI (pc := 2) C fpX11_77 dX11_sweep_2 (fun h5 => ?_)
  refine go_aload_n (pc := 5) C 0 dX11_sweep_5 rfl ?_
  refine go_gR (pc := 6) C fdX11_9 dX11_sweep_6 (fun x6 => ?_)
  refine go_iload_n (pc := 9) C 1 dX11_sweep_9 rfl ?_
  refine go_bind (fun q7 hq7 => ?_)
  refine go_callS (rest := []) (st' := [.int (b2i q7)]) (c' := 0) (s' := 0) (pc := 10) C O miX11_106 w_1479 [.ref x6, .int a1] rfl (mX11_isSpace hq7) dX11_sweep_10 ⟨by decide, by decide, by decide, by decide⟩ rfl (Nat.le_of_ble_eq_true rfl) rfl ⟨rfl, rfl⟩ ?_
  refine go_ifZ_eq (pc := 13) C 26 dX11_sweep_13 (by decide) (fun _ => ?_) (fun _ => ?_)
  · refine go_iload_n (pc := 16) C 2 dX11_sweep_16 rfl ?_
    refine go_iconst (pc := 17) C dX11_sweep_17 ki_0 ?_
    refine go_bipush (pc := 18) C dX11_sweep_18 kb_99 ?_
    refine go_bind (fun q8 hq8 => ?_)
    refine go_callS (rest := []) (st' := [.int (b2i q8)]) (c' := 0) (s' := 0) (pc := 20) C O miX11_84 w_1437 [.int a2, .int 0, .int 99] rfl (mX11_in hq8) dX11_sweep_20 ⟨by decide, by decide, by decide, by decide⟩ rfl (Nat.le_of_ble_eq_true rfl) rfl ⟨rfl, rfl⟩ ?_
    refine go_ifZ_ne (pc := 23) C 28 dX11_sweep_23 (by decide) (fun _ => ?_) (fun _ => ?_)
    · refine go_aload_n (pc := 28) C 0 dX11_sweep_28 rfl ?_
      refine go_gR (pc := 29) C fdX11_9 dX11_sweep_29 (fun x9 => ?_)
      refine go_aload_n (pc := 32) C 0 dX11_sweep_32 rfl ?_
      refine go_gR (pc := 33) C fdX11_39 dX11_sweep_33 (fun x10 => ?_)
      refine go_iconst (pc := 36) C dX11_sweep_36 ki_0 ?_
      refine go_bind (fun q11 hq11 => ?_)
      refine go_callS (rest := []) (st' := []) (c' := 0) (s' := 0) (pc := 37) C O miX11_255 w_1502 [.ref x9, .ref x10, .int 0] rfl (mX11_lay hq11) dX11_sweep_37 ⟨by decide, by decide, by decide, by decide⟩ rfl (Nat.le_of_ble_eq_true rfl) rfl ⟨rfl, rfl⟩ ?_
      refine go_iconst (pc := 40) C dX11_sweep_40 ki_0 ?_
      refine go_istore_n (ls' := [(3, .int 0), (0, .ref a0), (1, .int a1), (2, .int a2)]) (pc := 41) C dX11_sweep_41 (by decide) rfl ?_
      refine go_iconst (pc := 42) C dX11_sweep_42 ki_0 ?_
      refine go_istore (ls' := [(4, .int 0), (3, .int 0), (0, .ref a0), (1, .int a1), (2, .int a2)]) (pc := 43) C dX11_sweep_43 (by decide) rfl ?_
      refine go_sub (ls' := [(0, .ref a0), (1, .int a1), (2, .int a2), (3, .int 0), (4, .int 0)]) [2, 3, 4, 1, 0] rfl ?_
      refine gX11_sweep_L45 C O E (fun h15 x12 x13 x14 => ?_) FU q11 a0 a1 a2 0 0
      · refine go_aload_n (pc := 81) C 0 dX11_sweep_81 rfl ?_
        refine go_iconst (pc := 82) C dX11_sweep_82 ki_0 ?_
        refine go_pI (pc := 83) C fpX11_81 dX11_sweep_83 (fun h16 => ?_)
        refine go_aload_n (pc := 86) C 0 dX11_sweep_86 rfl ?_
        refine go_aload_n (pc := 87) C 0 dX11_sweep_87 rfl ?_
        refine go_gR (pc := 88) C fdX11_39 dX11_sweep_88 (fun x17 => ?_)
        refine go_bind (fun q18 hq18 => ?_)
        refine go_callS (rest := [.ref x12]) (st' := [.int q18, .ref x12]) (c' := 0) (s' := 0) (pc := 91) C O miX11_181 w_1488 [.ref x17] rfl (mX11_framesOf hq18) dX11_sweep_91 ⟨by decide, by decide, by decide, by decide⟩ rfl (Nat.le_of_ble_eq_true rfl) rfl ⟨rfl, rfl⟩ ?_
        refine go_i2l (pc := 94) C dX11_sweep_94 ?_
        refine go_bind (fun q19 hq19 => ?_)
        refine go_callV (rest := []) (st' := []) (c' := 0) (s' := 0) (pc := 95) C O miX11_283 mvX11_tell [.long (Int32.toInt64 q18)] rfl (mX11_tell hq19).1 (mX11_tell hq19).2 dX11_sweep_95 ⟨by decide, by decide, by decide, by decide⟩ rfl (Nat.le_of_ble_eq_true rfl) rfl ⟨rfl, rfl⟩ ?_
        refine go_aload_n (pc := 98) C 0 dX11_sweep_98 rfl ?_
        refine go_iload_n (pc := 99) C 2 dX11_sweep_99 rfl ?_
        refine go_i2l (pc := 100) C dX11_sweep_100 ?_
        refine go_bind (fun q20 hq20 => ?_)
        refine go_callV (rest := []) (st' := []) (c' := 0) (s' := 0) (pc := 101) C O miX11_283 mvX11_tell [.long (Int32.toInt64 x14)] rfl (mX11_tell hq20).1 (mX11_tell hq20).2 dX11_sweep_101 ⟨by decide, by decide, by decide, by decide⟩ rfl (Nat.le_of_ble_eq_true rfl) rfl ⟨rfl, rfl⟩ ?_
        refine go_aload_n (pc := 104) C 0 dX11_sweep_104 rfl ?_
        refine go_gR (pc := 105) C fdX11_39 dX11_sweep_105 (fun x21 => ?_)
        refine go_iload_n (pc := 108) C 1 dX11_sweep_108 rfl ?_
        refine go_bind (fun q22 hq22 => ?_)
        refine go_callS (rest := []) (st' := [.int q22]) (c' := 0) (s' := 0) (pc := 109) C O miX11_116 w_1555 [.ref x21, .int x13] rfl (mX11_lengthOf hq22) dX11_sweep_109 ⟨by decide, by decide, by decide, by decide⟩ rfl (Nat.le_of_ble_eq_true rfl) rfl ⟨rfl, rfl⟩ ?_
        exact go_iret (w := wIh) (pc := 112) C E ((q22, q20)) q22 dX11_sweep_112 rfl
    · refine go_iconst (pc := 26) C dX11_sweep_26 ki_m1 ?_
      exact go_iret (w := wIh) (pc := 27) C E (((-1), h5)) ((-1)) dX11_sweep_27 rfl
  · refine go_iconst (pc := 26) C dX11_sweep_26 ki_m1 ?_
    exact go_iret (w := wIh) (pc := 27) C E (((-1), h5)) ((-1)) dX11_sweep_27 rfl
theorem dX11_common__0 : decode cX11_common_ 0 = .ok (.lload_n 2, 1) := by decide +kernel
theorem dX11_common__1 : decode cX11_common_ 1 = .ok (.lconst 0, 1) := by decide +kernel
theorem dX11_common__2 : decode cX11_common_ 2 = .ok (.lcmp, 1) := by decide +kernel
theorem dX11_common__3 : decode cX11_common_ 3 = .ok (.ifCond .ne 7, 3) := by decide +kernel
theorem dX11_common__6 : decode cX11_common_ 6 = .ok (.lload_n 0, 1) := by decide +kernel
theorem dX11_common__7 : decode cX11_common_ 7 = .ok (.goto 10, 3) := by decide +kernel
theorem dX11_common__10 : decode cX11_common_ 10 = .ok (.lload_n 2, 1) := by decide +kernel
theorem dX11_common__11 : decode cX11_common_ 11 = .ok (.lload_n 0, 1) := by decide +kernel
theorem dX11_common__12 : decode cX11_common_ 12 = .ok (.lload_n 2, 1) := by decide +kernel
theorem dX11_common__13 : decode cX11_common_ 13 = .ok (.lrem, 1) := by decide +kernel
theorem dX11_common__14 : decode cX11_common_ 14 = .ok (.invokestatic 372, 3) := by decide +kernel
theorem dX11_common__17 : decode cX11_common_ 17 = .ok (.lreturn, 1) := by decide +kernel
def fX11_common__b (rc : Int64 → Int64 → Option Int64) (h : AH) (a0 : Int64) (a2 : Int64) : Option (Int64) :=
  if (lg_cmp a2 0) = 0 then (
    some a0
  ) else (
    (jremL a0 a2).bind fun x1 =>
    (rc a2 x1).bind fun q2 =>
    some q2
  )
set_option maxHeartbeats 4000000 in
theorem mX11_common__b {h : AH} {a0 : Int64} {a2 : Int64} {r : Int64} {rc : Int64 → Int64 → Option Int64} {D : Nat} (hD : 7 ≤ D) (hrc0 : ∀ {a0 a2 r : Int64}, rc a0 a2 = some r → MC yX11_common_ cX11_common_ 4 (some .long) D 0 0 [.long a0, .long a2] h (some (.long r)) h) (hr : fX11_common__b rc h a0 a2 = some r) : MC yX11_common_ cX11_common_ 4 (some .long) (D + 1) 0 0 [.long a0, .long a2] h (some (.long r)) h := by
  unfold fX11_common__b at hr
  refine mc_of (l0 := [(0, .long a0), (2, .long a2)]) rfl pn_X11 (Nat.le_of_ble_eq_true rfl) (fun Y X C E O hnm => go_run hr ?_)
  have C : CT Y X RX11 cX11_common_ 4 := C
  refine go_lload_n (pc := 0) C 1 dX11_common__0 rfl ?_
  refine go_lconst (v := 0) (pc := 1) C dX11_common__1 (by decide) ?_
  refine go_lcmp (pc := 2) C dX11_common__2 ?_
  refine go_if_ne (pc := 3) C 10 dX11_common__3 (by decide) (fun _ => ?_) (fun _ => ?_)
  · refine go_lload_n (pc := 6) C 0 dX11_common__6 rfl ?_
    refine go_goto (pc := 7) C 17 dX11_common__7 (by decide) ?_
    exact go_lret (w := (wJ h)) (pc := 17) C E a0 a0 dX11_common__17 rfl
  · refine go_lload_n (pc := 10) C 1 dX11_common__10 rfl ?_
    refine go_lload_n (pc := 11) C 0 dX11_common__11 rfl ?_
    refine go_lload_n (pc := 12) C 1 dX11_common__12 rfl ?_
    refine go_lrem (pc := 13) C dX11_common__13 (fun x1 => ?_)
    refine go_bind (fun q2 hq2 => ?_)
    refine go_callS (rest := []) (st' := [.long q2]) (c' := 0) (s' := 0) (pc := 14) C O miX11_372 w_1803 [.long a2, .long x1] rfl (hrc0 hq2) dX11_common__14 ⟨by omega, by decide, by decide, by decide⟩ rfl (Nat.le_of_ble_eq_true rfl) rfl ⟨rfl, rfl⟩ ?_
    exact go_lret (w := (wJ h)) (pc := 17) C E q2 q2 dX11_common__17 rfl
def fX11_gcd (h : AH) : Nat → Int64 → Int64 → Option Int64
  | 0, _, _ => none
  | d + 1, a, b => fX11_common__b (fX11_gcd h d) h a b
def GD : Nat := 200
theorem mX11_gcd {h0 : AH} : ∀ (d : Nat) {a0 a2 r : Int64}, fX11_gcd h0 d a0 a2 = some r → MC yX11_common_ cX11_common_ 4 (some .long) (7 + d) 0 0 [.long a0, .long a2] h0 (some (.long r)) h0
  | 0, _, _, _, e => by cases e
  | d + 1, _, _, _, e => mX11_common__b (D := 7 + d) (Nat.le_add_right _ _) (fun e => mX11_gcd d e) e
def fX11_common_ (h : AH) (a0 a2 : Int64) : Option Int64 := fX11_gcd h GD a0 a2
theorem mX11_common_ {h : AH} {a0 a2 r : Int64} (hr : fX11_common_ h a0 a2 = some r) : MC yX11_common_ cX11_common_ 4 (some .long) 207 0 0 [.long a0, .long a2] h (some (.long r)) h := mX11_gcd GD hr
theorem dX11_odds_0 : decode cX11_odds 0 = .ok (.aload_n 0, 1) := by decide +kernel
theorem dX11_odds_1 : decode cX11_odds 1 = .ok (.iconst 0, 1) := by decide +kernel
theorem dX11_odds_2 : decode cX11_odds 2 = .ok (.putfield 77, 3) := by decide +kernel
theorem dX11_odds_5 : decode cX11_odds 5 = .ok (.aload_n 0, 1) := by decide +kernel
theorem dX11_odds_6 : decode cX11_odds 6 = .ok (.getfield 9, 3) := by decide +kernel
theorem dX11_odds_9 : decode cX11_odds 9 = .ok (.iload_n 1, 1) := by decide +kernel
theorem dX11_odds_10 : decode cX11_odds 10 = .ok (.invokestatic 106, 3) := by decide +kernel
theorem dX11_odds_13 : decode cX11_odds 13 = .ok (.ifCond .eq 23, 3) := by decide +kernel
theorem dX11_odds_16 : decode cX11_odds 16 = .ok (.iload_n 2, 1) := by decide +kernel
theorem dX11_odds_17 : decode cX11_odds 17 = .ok (.iconst 0, 1) := by decide +kernel
theorem dX11_odds_18 : decode cX11_odds 18 = .ok (.bipush 10, 2) := by decide +kernel
theorem dX11_odds_20 : decode cX11_odds 20 = .ok (.invokestatic 84, 3) := by decide +kernel
theorem dX11_odds_23 : decode cX11_odds 23 = .ok (.ifCond .eq 13, 3) := by decide +kernel
theorem dX11_odds_26 : decode cX11_odds 26 = .ok (.iload_n 3, 1) := by decide +kernel
theorem dX11_odds_27 : decode cX11_odds 27 = .ok (.iconst 0, 1) := by decide +kernel
theorem dX11_odds_28 : decode cX11_odds 28 = .ok (.bipush 8, 2) := by decide +kernel
theorem dX11_odds_30 : decode cX11_odds 30 = .ok (.invokestatic 84, 3) := by decide +kernel
theorem dX11_odds_33 : decode cX11_odds 33 = .ok (.ifCond .ne 5, 3) := by decide +kernel
theorem dX11_odds_36 : decode cX11_odds 36 = .ok (.iconst (-1), 1) := by decide +kernel
theorem dX11_odds_37 : decode cX11_odds 37 = .ok (.ireturn, 1) := by decide +kernel
theorem dX11_odds_38 : decode cX11_odds 38 = .ok (.aload_n 0, 1) := by decide +kernel
theorem dX11_odds_39 : decode cX11_odds 39 = .ok (.getfield 9, 3) := by decide +kernel
theorem dX11_odds_42 : decode cX11_odds 42 = .ok (.iload_n 1, 1) := by decide +kernel
theorem dX11_odds_43 : decode cX11_odds 43 = .ok (.invokestatic 287, 3) := by decide +kernel
theorem dX11_odds_46 : decode cX11_odds 46 = .ok (.ifCond .eq 8, 3) := by decide +kernel
theorem dX11_odds_49 : decode cX11_odds 49 = .ok (.bipush 8, 2) := by decide +kernel
theorem dX11_odds_51 : decode cX11_odds 51 = .ok (.goto 26, 3) := by decide +kernel
theorem dX11_odds_54 : decode cX11_odds 54 = .ok (.bipush 8, 2) := by decide +kernel
theorem dX11_odds_56 : decode cX11_odds 56 = .ok (.aload_n 0, 1) := by decide +kernel
theorem dX11_odds_57 : decode cX11_odds 57 = .ok (.getfield 9, 3) := by decide +kernel
theorem dX11_odds_60 : decode cX11_odds 60 = .ok (.aload_n 0, 1) := by decide +kernel
theorem dX11_odds_61 : decode cX11_odds 61 = .ok (.getfield 9, 3) := by decide +kernel
theorem dX11_odds_64 : decode cX11_odds 64 = .ok (.sipush 312, 3) := by decide +kernel
theorem dX11_odds_67 : decode cX11_odds 67 = .ok (.iload_n 1, 1) := by decide +kernel
theorem dX11_odds_68 : decode cX11_odds 68 = .ok (.iadd, 1) := by decide +kernel
theorem dX11_odds_69 : decode cX11_odds 69 = .ok (.iaload, 1) := by decide +kernel
theorem dX11_odds_70 : decode cX11_odds 70 = .ok (.invokestatic 96, 3) := by decide +kernel
theorem dX11_odds_73 : decode cX11_odds 73 = .ok (.invokestatic 100, 3) := by decide +kernel
theorem dX11_odds_76 : decode cX11_odds 76 = .ok (.isub, 1) := by decide +kernel
theorem dX11_odds_77 : decode cX11_odds 77 = .ok (.istore 4, 2) := by decide +kernel
theorem dX11_odds_79 : decode cX11_odds 79 = .ok (.lconst 0, 1) := by decide +kernel
theorem dX11_odds_80 : decode cX11_odds 80 = .ok (.lstore 5, 2) := by decide +kernel
theorem dX11_odds_82 : decode cX11_odds 82 = .ok (.lconst 1, 1) := by decide +kernel
theorem dX11_odds_83 : decode cX11_odds 83 = .ok (.lstore 7, 2) := by decide +kernel
theorem dX11_odds_85 : decode cX11_odds 85 = .ok (.iconst 0, 1) := by decide +kernel
theorem dX11_odds_86 : decode cX11_odds 86 = .ok (.istore 9, 2) := by decide +kernel
theorem dX11_odds_88 : decode cX11_odds 88 = .ok (.iload 9, 2) := by decide +kernel
theorem dX11_odds_90 : decode cX11_odds 90 = .ok (.iload 4, 2) := by decide +kernel
theorem dX11_odds_92 : decode cX11_odds 92 = .ok (.if_icmp .ge 17, 3) := by decide +kernel
theorem dX11_odds_95 : decode cX11_odds 95 = .ok (.lload 7, 2) := by decide +kernel
theorem dX11_odds_97 : decode cX11_odds 97 = .ok (.ldc2_w 376, 3) := by decide +kernel
theorem dX11_odds_100 : decode cX11_odds 100 = .ok (.lmul, 1) := by decide +kernel
theorem dX11_odds_101 : decode cX11_odds 101 = .ok (.lstore 7, 2) := by decide +kernel
theorem dX11_odds_103 : decode cX11_odds 103 = .ok (.iinc 9 1, 3) := by decide +kernel
theorem dX11_odds_106 : decode cX11_odds 106 = .ok (.goto (-18), 3) := by decide +kernel
theorem dX11_odds_109 : decode cX11_odds 109 = .ok (.iconst 0, 1) := by decide +kernel
theorem dX11_odds_110 : decode cX11_odds 110 = .ok (.istore 9, 2) := by decide +kernel
theorem dX11_odds_112 : decode cX11_odds 112 = .ok (.iload 9, 2) := by decide +kernel
theorem dX11_odds_114 : decode cX11_odds 114 = .ok (.iconst 1, 1) := by decide +kernel
theorem dX11_odds_115 : decode cX11_odds 115 = .ok (.iload 4, 2) := by decide +kernel
theorem dX11_odds_117 : decode cX11_odds 117 = .ok (.ishl, 1) := by decide +kernel
theorem dX11_odds_118 : decode cX11_odds 118 = .ok (.if_icmp .ge 72, 3) := by decide +kernel
theorem dX11_odds_121 : decode cX11_odds 121 = .ok (.iload 9, 2) := by decide +kernel
theorem dX11_odds_123 : decode cX11_odds 123 = .ok (.invokestatic 100, 3) := by decide +kernel
theorem dX11_odds_126 : decode cX11_odds 126 = .ok (.iload_n 3, 1) := by decide +kernel
theorem dX11_odds_127 : decode cX11_odds 127 = .ok (.if_icmp .le 6, 3) := by decide +kernel
theorem dX11_odds_130 : decode cX11_odds 130 = .ok (.goto 54, 3) := by decide +kernel
theorem dX11_odds_133 : decode cX11_odds 133 = .ok (.lconst 1, 1) := by decide +kernel
theorem dX11_odds_134 : decode cX11_odds 134 = .ok (.lstore 10, 2) := by decide +kernel
theorem dX11_odds_136 : decode cX11_odds 136 = .ok (.iconst 0, 1) := by decide +kernel
theorem dX11_odds_137 : decode cX11_odds 137 = .ok (.istore 12, 2) := by decide +kernel
theorem dX11_odds_139 : decode cX11_odds 139 = .ok (.iload 12, 2) := by decide +kernel
theorem dX11_odds_141 : decode cX11_odds 141 = .ok (.iload 4, 2) := by decide +kernel
theorem dX11_odds_143 : decode cX11_odds 143 = .ok (.if_icmp .ge 34, 3) := by decide +kernel
theorem dX11_odds_146 : decode cX11_odds 146 = .ok (.lload 10, 2) := by decide +kernel
theorem dX11_odds_148 : decode cX11_odds 148 = .ok (.iload 9, 2) := by decide +kernel
theorem dX11_odds_150 : decode cX11_odds 150 = .ok (.iload 12, 2) := by decide +kernel
theorem dX11_odds_152 : decode cX11_odds 152 = .ok (.invokestatic 312, 3) := by decide +kernel
theorem dX11_odds_155 : decode cX11_odds 155 = .ok (.ifCond .eq 8, 3) := by decide +kernel
theorem dX11_odds_158 : decode cX11_odds 158 = .ok (.iload_n 2, 1) := by decide +kernel
theorem dX11_odds_159 : decode cX11_odds 159 = .ok (.i2l, 1) := by decide +kernel
theorem dX11_odds_160 : decode cX11_odds 160 = .ok (.goto 8, 3) := by decide +kernel
theorem dX11_odds_163 : decode cX11_odds 163 = .ok (.bipush 10, 2) := by decide +kernel
theorem dX11_odds_165 : decode cX11_odds 165 = .ok (.iload_n 2, 1) := by decide +kernel
theorem dX11_odds_166 : decode cX11_odds 166 = .ok (.isub, 1) := by decide +kernel
theorem dX11_odds_167 : decode cX11_odds 167 = .ok (.i2l, 1) := by decide +kernel
theorem dX11_odds_168 : decode cX11_odds 168 = .ok (.lmul, 1) := by decide +kernel
theorem dX11_odds_169 : decode cX11_odds 169 = .ok (.lstore 10, 2) := by decide +kernel
theorem dX11_odds_171 : decode cX11_odds 171 = .ok (.iinc 12 1, 3) := by decide +kernel
theorem dX11_odds_174 : decode cX11_odds 174 = .ok (.goto (-35), 3) := by decide +kernel
theorem dX11_odds_177 : decode cX11_odds 177 = .ok (.lload 5, 2) := by decide +kernel
theorem dX11_odds_179 : decode cX11_odds 179 = .ok (.lload 10, 2) := by decide +kernel
theorem dX11_odds_181 : decode cX11_odds 181 = .ok (.ladd, 1) := by decide +kernel
theorem dX11_odds_182 : decode cX11_odds 182 = .ok (.lstore 5, 2) := by decide +kernel
theorem dX11_odds_184 : decode cX11_odds 184 = .ok (.iinc 9 1, 3) := by decide +kernel
theorem dX11_odds_187 : decode cX11_odds 187 = .ok (.goto (-75), 3) := by decide +kernel
theorem dX11_odds_190 : decode cX11_odds 190 = .ok (.lload 5, 2) := by decide +kernel
theorem dX11_odds_192 : decode cX11_odds 192 = .ok (.lload 7, 2) := by decide +kernel
theorem dX11_odds_194 : decode cX11_odds 194 = .ok (.invokestatic 372, 3) := by decide +kernel
theorem dX11_odds_197 : decode cX11_odds 197 = .ok (.lstore 9, 2) := by decide +kernel
theorem dX11_odds_199 : decode cX11_odds 199 = .ok (.aload_n 0, 1) := by decide +kernel
theorem dX11_odds_200 : decode cX11_odds 200 = .ok (.iconst 0, 1) := by decide +kernel
theorem dX11_odds_201 : decode cX11_odds 201 = .ok (.putfield 81, 3) := by decide +kernel
theorem dX11_odds_204 : decode cX11_odds 204 = .ok (.aload_n 0, 1) := by decide +kernel
theorem dX11_odds_205 : decode cX11_odds 205 = .ok (.lload 5, 2) := by decide +kernel
theorem dX11_odds_207 : decode cX11_odds 207 = .ok (.lload 9, 2) := by decide +kernel
theorem dX11_odds_209 : decode cX11_odds 209 = .ok (.ldiv, 1) := by decide +kernel
theorem dX11_odds_210 : decode cX11_odds 210 = .ok (.invokevirtual 283, 3) := by decide +kernel
theorem dX11_odds_213 : decode cX11_odds 213 = .ok (.aload_n 0, 1) := by decide +kernel
theorem dX11_odds_214 : decode cX11_odds 214 = .ok (.lload 7, 2) := by decide +kernel
theorem dX11_odds_216 : decode cX11_odds 216 = .ok (.lload 9, 2) := by decide +kernel
theorem dX11_odds_218 : decode cX11_odds 218 = .ok (.ldiv, 1) := by decide +kernel
theorem dX11_odds_219 : decode cX11_odds 219 = .ok (.invokevirtual 283, 3) := by decide +kernel
theorem dX11_odds_222 : decode cX11_odds 222 = .ok (.iconst 0, 1) := by decide +kernel
theorem dX11_odds_223 : decode cX11_odds 223 = .ok (.ireturn, 1) := by decide +kernel
def fX11_odds_L88 (k109 : AH → Nat → Int32 → Int32 → Int32 → Int64 → Int64 → Option (Int32 × AH)) : Nat → AH → Nat → Int32 → Int32 → Int32 → Int64 → Int64 → Int32 → Option (Int32 × AH)
  | 0, _, _, _, _, _, _, _, _ => none
  | n + 1, h, v0, v2, v3, v4, v5, v7, v9 =>
    if v4 ≤ v9 then (
      k109 h v0 v2 v3 v4 v5 v7
    ) else (
      letF (v7 * 10 : Int64) fun x1 =>
      letF (v9 + 1 : Int32) fun x2 =>
      fX11_odds_L88 k109 n h v0 v2 v3 v4 v5 x1 x2
    )
def fX11_odds_J168 (k139 : AH → Nat → Int32 → Int32 → Int32 → Int64 → Int64 → Int32 → Int64 → Int32 → Option (Int32 × AH)) (h : AH) (v0 : Nat) (v2 : Int32) (v3 : Int32) (v4 : Int32) (v5 : Int64) (v7 : Int64) (v9 : Int32) (v12 : Int32) (s0 : Int64) (s1 : Int64) : Option (Int32 × AH) :=
    letF (s1 * s0 : Int64) fun x3 =>
    letF (v12 + 1 : Int32) fun x4 =>
    k139 h v0 v2 v3 v4 v5 v7 v9 x3 x4
def fX11_odds_L139 (k177 : AH → Nat → Int32 → Int32 → Int32 → Int64 → Int64 → Int32 → Int64 → Option (Int32 × AH)) : Nat → AH → Nat → Int32 → Int32 → Int32 → Int64 → Int64 → Int32 → Int64 → Int32 → Option (Int32 × AH)
  | 0, _, _, _, _, _, _, _, _, _, _ => none
  | n + 1, h, v0, v2, v3, v4, v5, v7, v9, v10, v12 =>
    if v4 ≤ v12 then (
      k177 h v0 v2 v3 v4 v5 v7 v9 v10
    ) else (
      (fX11_has h v9 v12).bind fun q5 =>
      if q5 = true then (
        fX11_odds_J168 (fX11_odds_L139 k177 n) h v0 v2 v3 v4 v5 v7 v9 v12 (Int32.toInt64 v2) v10
      ) else (
        fX11_odds_J168 (fX11_odds_L139 k177 n) h v0 v2 v3 v4 v5 v7 v9 v12 (Int32.toInt64 (10 - v2)) v10
      )
    )
def fX11_odds_L112 (k190 : AH → Nat → Int64 → Int64 → Option (Int32 × AH)) : Nat → AH → Nat → Int32 → Int32 → Int32 → Int64 → Int64 → Int32 → Option (Int32 × AH)
  | 0, _, _, _, _, _, _, _, _ => none
  | n + 1, h, v0, v2, v3, v4, v5, v7, v9 =>
    if (1 <<< (v4 &&& 31)) ≤ v9 then (
      k190 h v0 v5 v7
    ) else (
      (fJ6_bitCount_0f7a4 h v9).bind fun q6 =>
      if q6 ≤ v3 then (
        fX11_odds_L139
          (fun h15 x7 x8 x9 x10 x11 x12 x13 x14 =>
            letF (x11 + x14 : Int64) fun x16 =>
            letF (x13 + 1 : Int32) fun x17 =>
            fX11_odds_L112 k190 n h15 x7 x8 x9 x10 x16 x12 x17)
          FU h v0 v2 v3 v4 v5 v7 v9 1 0
      ) else (
        letF (v9 + 1 : Int32) fun x18 =>
        fX11_odds_L112 k190 n h v0 v2 v3 v4 v5 v7 x18
      )
    )
def fX11_odds_J77 (h : AH) (v0 : Nat) (v2 : Int32) (v3 : Int32) (s0 : Int32) : Option (Int32 × AH) :=
    fX11_odds_L88
      (fun h25 x19 x20 x21 x22 x23 x24 =>
        fX11_odds_L112
          (fun h29 x26 x27 x28 =>
            (fX11_common_ h29 x27 x28).bind fun q30 =>
            (pF h29 11 x26 4 (.int 0)).bind fun h31 =>
            (jdivL x27 q30).bind fun x32 =>
            (fX11_tell h31 x26 x32).bind fun q33 =>
            (jdivL x28 q30).bind fun x34 =>
            (fX11_tell q33 x26 x34).bind fun q35 =>
            some ((0, q35)))
          FU h25 x19 x20 x21 x22 x23 x24 0)
      FU h v0 v2 v3 s0 0 1 0
def fX11_odds (h : AH) (a0 : Nat) (a1 : Int32) (a2 : Int32) (a3 : Int32) : Option (Int32 × AH) :=
  if hasC h 11 a0 = true then (
    (pF h 11 a0 5 (.int 0)).bind fun h36 =>
    (gR h36 11 a0 0).bind fun x37 =>
    (fX11_isSpace h36 x37 a1).bind fun q38 =>
    if q38 = true then (
      (fX11_in h36 a2 0 10).bind fun q39 =>
      if q39 = true then (
        (fX11_in h36 a3 0 8).bind fun q40 =>
        if q40 = true then (
          (gR h36 11 a0 0).bind fun x41 =>
          (fX11_isShared h36 x41 a1).bind fun q42 =>
          if q42 = true then (
            fX11_odds_J77 h36 a0 a2 a3 8
          ) else (
            (gR h36 11 a0 0).bind fun x43 =>
            (gR h36 11 a0 0).bind fun x44 =>
            (aI h36 0 x44 (312 + a1)).bind fun x45 =>
            (fX11_pagesOf h36 x43 x45).bind fun q46 =>
            (fJ6_bitCount_0f7a4 h36 q46).bind fun q47 =>
            fX11_odds_J77 h36 a0 a2 a3 (8 - q47)
          )
        ) else (
          some (((-1), h36))
        )
      ) else (
        some (((-1), h36))
      )
    ) else (
      some (((-1), h36))
    )
  ) else none
set_option maxHeartbeats 4000000 in
theorem gX11_odds_L88 {Y : YT} {X : XT} (C : CT Y X RX11 cX11_odds 13) (O : RO X 208 0 0) {r : Int32 × AH} (E : RX Y X (some .int) (some (.int r.1)) r.2 0 0) {k109 : AH → Nat → Int32 → Int32 → Int32 → Int64 → Int64 → Option (Int32 × AH)} (hk109 : ∀ (h : AH) (v0 : Nat) (v2 : Int32) (v3 : Int32) (v4 : Int32) (v5 : Int64) (v7 : Int64), GO Y X 13 r h 0 0 109 [(0, .ref v0), (2, .int v2), (3, .int v3), (4, .int v4), (5, .long v5), (7, .long v7)] [] (k109 h v0 v2 v3 v4 v5 v7)) : ∀ (n : Nat) (h : AH) (v0 : Nat) (v2 : Int32) (v3 : Int32) (v4 : Int32) (v5 : Int64) (v7 : Int64) (v9 : Int32), GO Y X 13 r h 0 0 88 [(0, .ref v0), (2, .int v2), (3, .int v3), (4, .int v4), (5, .long v5), (7, .long v7), (9, .int v9)] [] (fX11_odds_L88 k109 n h v0 v2 v3 v4 v5 v7 v9) := by
  intro n
  induction n with
  | zero => intros; exact go_none _ _ _
  | succ n ih =>
    intro h v0 v2 v3 v4 v5 v7 v9
    rw [fX11_odds_L88]
    refine go_iload (pc := 88) C 6 dX11_odds_88 rfl ?_
    refine go_iload (pc := 90) C 3 dX11_odds_90 rfl ?_
    refine go_icmp_ge (pc := 92) C 109 dX11_odds_92 (by decide) (fun _ => ?_) (fun _ => ?_)
    · refine go_sub (ls' := [(0, .ref v0), (2, .int v2), (3, .int v3), (4, .int v4), (5, .long v5), (7, .long v7)]) [0, 1, 2, 3, 4, 5] rfl ?_
      exact hk109 h v0 v2 v3 v4 v5 v7
    · refine go_lload (pc := 95) C 5 dX11_odds_95 rfl ?_
      refine go_ldc2 (pc := 97) C w_1801 dX11_odds_97 ?_
      refine go_lmul (pc := 100) C dX11_odds_100 ?_
      refine go_lstoreL (pc := 101) C dX11_odds_101 (by decide) (fun x1 => [(7, .long x1), (0, .ref v0), (2, .int v2), (3, .int v3), (4, .int v4), (5, .long v5), (9, .int v9)]) (fun _ => rfl) (fun x1 => ?_)
      refine go_iincL (pc := 103) C 6 dX11_odds_103 rfl ki_1 (by decide) (fun x2 => [(9, .int x2), (7, .long x1), (0, .ref v0), (2, .int v2), (3, .int v3), (4, .int v4), (5, .long v5)]) (fun _ => rfl) (fun x2 => ?_)
      refine go_goto (pc := 106) C 88 dX11_odds_106 (by decide) ?_
      refine go_sub (ls' := [(0, .ref v0), (2, .int v2), (3, .int v3), (4, .int v4), (5, .long v5), (7, .long x1), (9, .int x2)]) [2, 3, 4, 5, 6, 1, 0] rfl ?_
      exact ih h v0 v2 v3 v4 v5 x1 x2
set_option maxHeartbeats 4000000 in
theorem gX11_odds_J168 {Y : YT} {X : XT} (C : CT Y X RX11 cX11_odds 13) (O : RO X 208 0 0) {r : Int32 × AH} (E : RX Y X (some .int) (some (.int r.1)) r.2 0 0) {k139 : AH → Nat → Int32 → Int32 → Int32 → Int64 → Int64 → Int32 → Int64 → Int32 → Option (Int32 × AH)} (hk139 : ∀ (h : AH) (v0 : Nat) (v2 : Int32) (v3 : Int32) (v4 : Int32) (v5 : Int64) (v7 : Int64) (v9 : Int32) (v10 : Int64) (v12 : Int32), GO Y X 13 r h 0 0 139 [(0, .ref v0), (2, .int v2), (3, .int v3), (4, .int v4), (5, .long v5), (7, .long v7), (9, .int v9), (10, .long v10), (12, .int v12)] [] (k139 h v0 v2 v3 v4 v5 v7 v9 v10 v12)) : ∀ (h : AH) (v0 : Nat) (v2 : Int32) (v3 : Int32) (v4 : Int32) (v5 : Int64) (v7 : Int64) (v9 : Int32) (v12 : Int32) (s0 : Int64) (s1 : Int64), GO Y X 13 r h 0 0 168 [(0, .ref v0), (2, .int v2), (3, .int v3), (4, .int v4), (5, .long v5), (7, .long v7), (9, .int v9), (12, .int v12)] [.long s0, .long s1] (fX11_odds_J168 k139 h v0 v2 v3 v4 v5 v7 v9 v12 s0 s1) := by
  intro h v0 v2 v3 v4 v5 v7 v9 v12 s0 s1
  unfold fX11_odds_J168
  refine go_lmul (pc := 168) C dX11_odds_168 ?_
  refine go_lstoreL (pc := 169) C dX11_odds_169 (by decide) (fun x3 => [(10, .long x3), (0, .ref v0), (2, .int v2), (3, .int v3), (4, .int v4), (5, .long v5), (7, .long v7), (9, .int v9), (12, .int v12)]) (fun _ => rfl) (fun x3 => ?_)
  refine go_iincL (pc := 171) C 8 dX11_odds_171 rfl ki_1 (by decide) (fun x4 => [(12, .int x4), (10, .long x3), (0, .ref v0), (2, .int v2), (3, .int v3), (4, .int v4), (5, .long v5), (7, .long v7), (9, .int v9)]) (fun _ => rfl) (fun x4 => ?_)
  refine go_goto (pc := 174) C 139 dX11_odds_174 (by decide) ?_
  refine go_sub (ls' := [(0, .ref v0), (2, .int v2), (3, .int v3), (4, .int v4), (5, .long v5), (7, .long v7), (9, .int v9), (10, .long x3), (12, .int x4)]) [2, 3, 4, 5, 6, 7, 8, 1, 0] rfl ?_
  exact hk139 h v0 v2 v3 v4 v5 v7 v9 x3 x4
set_option maxHeartbeats 4000000 in
theorem gX11_odds_L139 {Y : YT} {X : XT} (C : CT Y X RX11 cX11_odds 13) (O : RO X 208 0 0) {r : Int32 × AH} (E : RX Y X (some .int) (some (.int r.1)) r.2 0 0) {k177 : AH → Nat → Int32 → Int32 → Int32 → Int64 → Int64 → Int32 → Int64 → Option (Int32 × AH)} (hk177 : ∀ (h : AH) (v0 : Nat) (v2 : Int32) (v3 : Int32) (v4 : Int32) (v5 : Int64) (v7 : Int64) (v9 : Int32) (v10 : Int64), GO Y X 13 r h 0 0 177 [(0, .ref v0), (2, .int v2), (3, .int v3), (4, .int v4), (5, .long v5), (7, .long v7), (9, .int v9), (10, .long v10)] [] (k177 h v0 v2 v3 v4 v5 v7 v9 v10)) : ∀ (n : Nat) (h : AH) (v0 : Nat) (v2 : Int32) (v3 : Int32) (v4 : Int32) (v5 : Int64) (v7 : Int64) (v9 : Int32) (v10 : Int64) (v12 : Int32), GO Y X 13 r h 0 0 139 [(0, .ref v0), (2, .int v2), (3, .int v3), (4, .int v4), (5, .long v5), (7, .long v7), (9, .int v9), (10, .long v10), (12, .int v12)] [] (fX11_odds_L139 k177 n h v0 v2 v3 v4 v5 v7 v9 v10 v12) := by
  intro n
  induction n with
  | zero => intros; exact go_none _ _ _
  | succ n ih =>
    intro h v0 v2 v3 v4 v5 v7 v9 v10 v12
    rw [fX11_odds_L139]
    refine go_iload (pc := 139) C 8 dX11_odds_139 rfl ?_
    refine go_iload (pc := 141) C 3 dX11_odds_141 rfl ?_
    refine go_icmp_ge (pc := 143) C 177 dX11_odds_143 (by decide) (fun _ => ?_) (fun _ => ?_)
    · refine go_sub (ls' := [(0, .ref v0), (2, .int v2), (3, .int v3), (4, .int v4), (5, .long v5), (7, .long v7), (9, .int v9), (10, .long v10)]) [0, 1, 2, 3, 4, 5, 6, 7] rfl ?_
      exact hk177 h v0 v2 v3 v4 v5 v7 v9 v10
    · refine go_lload (pc := 146) C 7 dX11_odds_146 rfl ?_
      refine go_iload (pc := 148) C 6 dX11_odds_148 rfl ?_
      refine go_iload (pc := 150) C 8 dX11_odds_150 rfl ?_
      refine go_bind (fun q5 hq5 => ?_)
      refine go_callS (rest := [.long v10]) (st' := [.int (b2i q5), .long v10]) (c' := 0) (s' := 0) (pc := 152) C O miX11_312 w_1686 [.int v9, .int v12] rfl (mX11_has hq5) dX11_odds_152 ⟨by decide, by decide, by decide, by decide⟩ rfl (Nat.le_of_ble_eq_true rfl) rfl ⟨rfl, rfl⟩ ?_
      refine go_ifZ_eq (pc := 155) C 163 dX11_odds_155 (by decide) (fun _ => ?_) (fun _ => ?_)
      · refine go_iload_n (pc := 158) C 1 dX11_odds_158 rfl ?_
        refine go_i2l (pc := 159) C dX11_odds_159 ?_
        refine go_goto (pc := 160) C 168 dX11_odds_160 (by decide) ?_
        refine go_sub (ls' := [(0, .ref v0), (2, .int v2), (3, .int v3), (4, .int v4), (5, .long v5), (7, .long v7), (9, .int v9), (12, .int v12)]) [0, 1, 2, 3, 4, 5, 6, 8] rfl ?_
        refine gX11_odds_J168 C O E (ih) h v0 v2 v3 v4 v5 v7 v9 v12 (Int32.toInt64 v2) v10
      · refine go_bipush (pc := 163) C dX11_odds_163 kb_10 ?_
        refine go_iload_n (pc := 165) C 1 dX11_odds_165 rfl ?_
        refine go_isub (pc := 166) C dX11_odds_166 ?_
        refine go_i2l (pc := 167) C dX11_odds_167 ?_
        refine go_sub (ls' := [(0, .ref v0), (2, .int v2), (3, .int v3), (4, .int v4), (5, .long v5), (7, .long v7), (9, .int v9), (12, .int v12)]) [0, 1, 2, 3, 4, 5, 6, 8] rfl ?_
        refine gX11_odds_J168 C O E (ih) h v0 v2 v3 v4 v5 v7 v9 v12 (Int32.toInt64 (10 - v2)) v10
set_option maxHeartbeats 4000000 in
theorem gX11_odds_L112 {Y : YT} {X : XT} (C : CT Y X RX11 cX11_odds 13) (O : RO X 208 0 0) {r : Int32 × AH} (E : RX Y X (some .int) (some (.int r.1)) r.2 0 0) {k190 : AH → Nat → Int64 → Int64 → Option (Int32 × AH)} (hk190 : ∀ (h : AH) (v0 : Nat) (v5 : Int64) (v7 : Int64), GO Y X 13 r h 0 0 190 [(0, .ref v0), (5, .long v5), (7, .long v7)] [] (k190 h v0 v5 v7)) : ∀ (n : Nat) (h : AH) (v0 : Nat) (v2 : Int32) (v3 : Int32) (v4 : Int32) (v5 : Int64) (v7 : Int64) (v9 : Int32), GO Y X 13 r h 0 0 112 [(0, .ref v0), (2, .int v2), (3, .int v3), (4, .int v4), (5, .long v5), (7, .long v7), (9, .int v9)] [] (fX11_odds_L112 k190 n h v0 v2 v3 v4 v5 v7 v9) := by
  intro n
  induction n with
  | zero => intros; exact go_none _ _ _
  | succ n ih =>
    intro h v0 v2 v3 v4 v5 v7 v9
    rw [fX11_odds_L112]
    refine go_iload (pc := 112) C 6 dX11_odds_112 rfl ?_
    refine go_iconst (pc := 114) C dX11_odds_114 ki_1 ?_
    refine go_iload (pc := 115) C 3 dX11_odds_115 rfl ?_
    refine go_ishl (pc := 117) C dX11_odds_117 ?_
    refine go_icmp_ge (pc := 118) C 190 dX11_odds_118 (by decide) (fun _ => ?_) (fun _ => ?_)
    · refine go_sub (ls' := [(0, .ref v0), (5, .long v5), (7, .long v7)]) [0, 4, 5] rfl ?_
      exact hk190 h v0 v5 v7
    · refine go_iload (pc := 121) C 6 dX11_odds_121 rfl ?_
      refine go_bind (fun q6 hq6 => ?_)
      refine go_callS (rest := []) (st' := [.int q6]) (c' := 0) (s' := 0) (pc := 123) C O miX11_100 w_397 [.int v9] rfl (mJ6_bitCount_0f7a4 hq6) dX11_odds_123 ⟨by decide, by decide, by decide, by decide⟩ rfl (Nat.le_of_ble_eq_true rfl) rfl ⟨rfl, rfl⟩ ?_
      refine go_iload_n (pc := 126) C 2 dX11_odds_126 rfl ?_
      refine go_icmp_le (pc := 127) C 133 dX11_odds_127 (by decide) (fun _ => ?_) (fun _ => ?_)
      · refine go_lconst (v := 1) (pc := 133) C dX11_odds_133 (by decide) ?_
        refine go_lstore (ls' := [(10, .long 1), (0, .ref v0), (2, .int v2), (3, .int v3), (4, .int v4), (5, .long v5), (7, .long v7), (9, .int v9)]) (pc := 134) C dX11_odds_134 (by decide) rfl ?_
        refine go_iconst (pc := 136) C dX11_odds_136 ki_0 ?_
        refine go_istore (ls' := [(12, .int 0), (10, .long 1), (0, .ref v0), (2, .int v2), (3, .int v3), (4, .int v4), (5, .long v5), (7, .long v7), (9, .int v9)]) (pc := 137) C dX11_odds_137 (by decide) rfl ?_
        refine go_sub (ls' := [(0, .ref v0), (2, .int v2), (3, .int v3), (4, .int v4), (5, .long v5), (7, .long v7), (9, .int v9), (10, .long 1), (12, .int 0)]) [2, 3, 4, 5, 6, 7, 8, 1, 0] rfl ?_
        refine gX11_odds_L139 C O E (fun h15 x7 x8 x9 x10 x11 x12 x13 x14 => ?_) FU h v0 v2 v3 v4 v5 v7 v9 1 0
        · refine go_lload (pc := 177) C 4 dX11_odds_177 rfl ?_
          refine go_lload (pc := 179) C 7 dX11_odds_179 rfl ?_
          refine go_ladd (pc := 181) C dX11_odds_181 ?_
          refine go_lstoreL (pc := 182) C dX11_odds_182 (by decide) (fun x16 => [(5, .long x16), (0, .ref x7), (2, .int x8), (3, .int x9), (4, .int x10), (7, .long x12), (9, .int x13), (10, .long x14)]) (fun _ => rfl) (fun x16 => ?_)
          refine go_iincL (pc := 184) C 6 dX11_odds_184 rfl ki_1 (by decide) (fun x17 => [(9, .int x17), (5, .long x16), (0, .ref x7), (2, .int x8), (3, .int x9), (4, .int x10), (7, .long x12), (10, .long x14)]) (fun _ => rfl) (fun x17 => ?_)
          refine go_goto (pc := 187) C 112 dX11_odds_187 (by decide) ?_
          refine go_sub (ls' := [(0, .ref x7), (2, .int x8), (3, .int x9), (4, .int x10), (5, .long x16), (7, .long x12), (9, .int x17)]) [2, 3, 4, 5, 1, 6, 0] rfl ?_
          exact ih h15 x7 x8 x9 x10 x16 x12 x17
      · refine go_goto (pc := 130) C 184 dX11_odds_130 (by decide) ?_
        refine go_iincL (pc := 184) C 6 dX11_odds_184 rfl ki_1 (by decide) (fun x18 => [(9, .int x18), (0, .ref v0), (2, .int v2), (3, .int v3), (4, .int v4), (5, .long v5), (7, .long v7)]) (fun _ => rfl) (fun x18 => ?_)
        refine go_goto (pc := 187) C 112 dX11_odds_187 (by decide) ?_
        refine go_sub (ls' := [(0, .ref v0), (2, .int v2), (3, .int v3), (4, .int v4), (5, .long v5), (7, .long v7), (9, .int x18)]) [1, 2, 3, 4, 5, 6, 0] rfl ?_
        exact ih h v0 v2 v3 v4 v5 v7 x18
set_option maxHeartbeats 4000000 in
theorem gX11_odds_J77 {Y : YT} {X : XT} (C : CT Y X RX11 cX11_odds 13) (O : RO X 208 0 0) {r : Int32 × AH} (E : RX Y X (some .int) (some (.int r.1)) r.2 0 0) : ∀ (h : AH) (v0 : Nat) (v2 : Int32) (v3 : Int32) (s0 : Int32), GO Y X 13 r h 0 0 77 [(0, .ref v0), (2, .int v2), (3, .int v3)] [.int s0] (fX11_odds_J77 h v0 v2 v3 s0) := by
  intro h v0 v2 v3 s0
  unfold fX11_odds_J77
  refine go_istore (ls' := [(4, .int s0), (0, .ref v0), (2, .int v2), (3, .int v3)]) (pc := 77) C dX11_odds_77 (by decide) rfl ?_
  refine go_lconst (v := 0) (pc := 79) C dX11_odds_79 (by decide) ?_
  refine go_lstore (ls' := [(5, .long 0), (4, .int s0), (0, .ref v0), (2, .int v2), (3, .int v3)]) (pc := 80) C dX11_odds_80 (by decide) rfl ?_
  refine go_lconst (v := 1) (pc := 82) C dX11_odds_82 (by decide) ?_
  refine go_lstore (ls' := [(7, .long 1), (5, .long 0), (4, .int s0), (0, .ref v0), (2, .int v2), (3, .int v3)]) (pc := 83) C dX11_odds_83 (by decide) rfl ?_
  refine go_iconst (pc := 85) C dX11_odds_85 ki_0 ?_
  refine go_istore (ls' := [(9, .int 0), (7, .long 1), (5, .long 0), (4, .int s0), (0, .ref v0), (2, .int v2), (3, .int v3)]) (pc := 86) C dX11_odds_86 (by decide) rfl ?_
  refine go_sub (ls' := [(0, .ref v0), (2, .int v2), (3, .int v3), (4, .int s0), (5, .long 0), (7, .long 1), (9, .int 0)]) [4, 5, 6, 3, 2, 1, 0] rfl ?_
  refine gX11_odds_L88 C O E (fun h25 x19 x20 x21 x22 x23 x24 => ?_) FU h v0 v2 v3 s0 0 1 0
  · refine go_iconst (pc := 109) C dX11_odds_109 ki_0 ?_
    refine go_istore (ls' := [(9, .int 0), (0, .ref x19), (2, .int x20), (3, .int x21), (4, .int x22), (5, .long x23), (7, .long x24)]) (pc := 110) C dX11_odds_110 (by decide) rfl ?_
    refine go_sub (ls' := [(0, .ref x19), (2, .int x20), (3, .int x21), (4, .int x22), (5, .long x23), (7, .long x24), (9, .int 0)]) [1, 2, 3, 4, 5, 6, 0] rfl ?_
    refine gX11_odds_L112 C O E (fun h29 x26 x27 x28 => ?_) FU h25 x19 x20 x21 x22 x23 x24 0
    · refine go_lload (pc := 190) C 1 dX11_odds_190 rfl ?_
      refine go_lload (pc := 192) C 2 dX11_odds_192 rfl ?_
      refine go_bind (fun q30 hq30 => ?_)
      refine go_callS (rest := []) (st' := [.long q30]) (c' := 0) (s' := 0) (pc := 194) C O miX11_372 w_1803 [.long x27, .long x28] rfl (mX11_common_ hq30) dX11_odds_194 ⟨by decide, by decide, by decide, by decide⟩ rfl (Nat.le_of_ble_eq_true rfl) rfl ⟨rfl, rfl⟩ ?_
      refine go_lstore (ls' := [(9, .long q30), (0, .ref x26), (5, .long x27), (7, .long x28)]) (pc := 197) C dX11_odds_197 (by decide) rfl ?_
      refine go_aload_n (pc := 199) C 1 dX11_odds_199 rfl ?_
      refine go_iconst (pc := 200) C dX11_odds_200 ki_0 ?_
      refine go_pI (pc := 201) C fpX11_81 dX11_odds_201 (fun h31 => ?_)
      refine go_aload_n (pc := 204) C 1 dX11_odds_204 rfl ?_
      refine go_lload (pc := 205) C 2 dX11_odds_205 rfl ?_
      refine go_lload (pc := 207) C 0 dX11_odds_207 rfl ?_
      refine go_ldiv (pc := 209) C dX11_odds_209 (fun x32 => ?_)
      refine go_bind (fun q33 hq33 => ?_)
      refine go_callV (rest := []) (st' := []) (c' := 0) (s' := 0) (pc := 210) C O miX11_283 mvX11_tell [.long x32] rfl (mX11_tell hq33).1 (mX11_tell hq33).2 dX11_odds_210 ⟨by decide, by decide, by decide, by decide⟩ rfl (Nat.le_of_ble_eq_true rfl) rfl ⟨rfl, rfl⟩ ?_
      refine go_aload_n (pc := 213) C 1 dX11_odds_213 rfl ?_
      refine go_lload (pc := 214) C 3 dX11_odds_214 rfl ?_
      refine go_lload (pc := 216) C 0 dX11_odds_216 rfl ?_
      refine go_ldiv (pc := 218) C dX11_odds_218 (fun x34 => ?_)
      refine go_bind (fun q35 hq35 => ?_)
      refine go_callV (rest := []) (st' := []) (c' := 0) (s' := 0) (pc := 219) C O miX11_283 mvX11_tell [.long x34] rfl (mX11_tell hq35).1 (mX11_tell hq35).2 dX11_odds_219 ⟨by decide, by decide, by decide, by decide⟩ rfl (Nat.le_of_ble_eq_true rfl) rfl ⟨rfl, rfl⟩ ?_
      refine go_iconst (pc := 222) C dX11_odds_222 ki_0 ?_
      exact go_iret (w := wIh) (pc := 223) C E ((0, q35)) 0 dX11_odds_223 rfl
set_option maxHeartbeats 4000000 in
theorem mX11_odds {h : AH} {a0 : Nat} {a1 : Int32} {a2 : Int32} {a3 : Int32} {r : Int32 × AH} (hr : fX11_odds h a0 a1 a2 a3 = some r) : hasC h 11 a0 = true ∧ MC yX11_odds cX11_odds 13 (some .int) 208 0 0 [.ref a0, .int a1, .int a2, .int a3] h (some (.int r.1)) r.2 := by
  unfold fX11_odds at hr
  obtain ⟨hc, hr⟩ := if_some hr
  refine ⟨hc, mc_of (l0 := [(0, .ref a0), (1, .int a1), (2, .int a2), (3, .int a3)]) rfl pn_X11 (Nat.le_of_ble_eq_true rfl) (fun Y X C E O hnm => go_run hr ?_)⟩
  have C : CT Y X RX11 cX11_odds 13 := C
  refine go_aload_n (pc := 0) C 0 dX11_odds_0 rfl ?_
  refine go_iconst (pc := 1) C dX11_odds_1 ki_0 ?_
  refine go_pI (pc := 2) C fpX11_77 dX11_odds_2 (fun h36 => ?_)
  refine go_aload_n (pc := 5) C 0 dX11_odds_5 rfl ?_
  refine go_gR (pc := 6) C fdX11_9 dX11_odds_6 (fun x37 => ?_)
  refine go_iload_n (pc := 9) C 1 dX11_odds_9 rfl ?_
  refine go_bind (fun q38 hq38 => ?_)
  refine go_callS (rest := []) (st' := [.int (b2i q38)]) (c' := 0) (s' := 0) (pc := 10) C O miX11_106 w_1479 [.ref x37, .int a1] rfl (mX11_isSpace hq38) dX11_odds_10 ⟨by decide, by decide, by decide, by decide⟩ rfl (Nat.le_of_ble_eq_true rfl) rfl ⟨rfl, rfl⟩ ?_
  refine go_ifZ_eq (pc := 13) C 36 dX11_odds_13 (by decide) (fun _ => ?_) (fun _ => ?_)
  · refine go_iload_n (pc := 16) C 2 dX11_odds_16 rfl ?_
    refine go_iconst (pc := 17) C dX11_odds_17 ki_0 ?_
    refine go_bipush (pc := 18) C dX11_odds_18 kb_10 ?_
    refine go_bind (fun q39 hq39 => ?_)
    refine go_callS (rest := []) (st' := [.int (b2i q39)]) (c' := 0) (s' := 0) (pc := 20) C O miX11_84 w_1437 [.int a2, .int 0, .int 10] rfl (mX11_in hq39) dX11_odds_20 ⟨by decide, by decide, by decide, by decide⟩ rfl (Nat.le_of_ble_eq_true rfl) rfl ⟨rfl, rfl⟩ ?_
    refine go_ifZ_eq (pc := 23) C 36 dX11_odds_23 (by decide) (fun _ => ?_) (fun _ => ?_)
    · refine go_iload_n (pc := 26) C 3 dX11_odds_26 rfl ?_
      refine go_iconst (pc := 27) C dX11_odds_27 ki_0 ?_
      refine go_bipush (pc := 28) C dX11_odds_28 kb_8 ?_
      refine go_bind (fun q40 hq40 => ?_)
      refine go_callS (rest := []) (st' := [.int (b2i q40)]) (c' := 0) (s' := 0) (pc := 30) C O miX11_84 w_1437 [.int a3, .int 0, .int 8] rfl (mX11_in hq40) dX11_odds_30 ⟨by decide, by decide, by decide, by decide⟩ rfl (Nat.le_of_ble_eq_true rfl) rfl ⟨rfl, rfl⟩ ?_
      refine go_ifZ_ne (pc := 33) C 38 dX11_odds_33 (by decide) (fun _ => ?_) (fun _ => ?_)
      · refine go_aload_n (pc := 38) C 0 dX11_odds_38 rfl ?_
        refine go_gR (pc := 39) C fdX11_9 dX11_odds_39 (fun x41 => ?_)
        refine go_iload_n (pc := 42) C 1 dX11_odds_42 rfl ?_
        refine go_bind (fun q42 hq42 => ?_)
        refine go_callS (rest := []) (st' := [.int (b2i q42)]) (c' := 0) (s' := 0) (pc := 43) C O miX11_287 w_1634 [.ref x41, .int a1] rfl (mX11_isShared hq42) dX11_odds_43 ⟨by decide, by decide, by decide, by decide⟩ rfl (Nat.le_of_ble_eq_true rfl) rfl ⟨rfl, rfl⟩ ?_
        refine go_ifZ_eq (pc := 46) C 54 dX11_odds_46 (by decide) (fun _ => ?_) (fun _ => ?_)
        · refine go_bipush (pc := 49) C dX11_odds_49 kb_8 ?_
          refine go_goto (pc := 51) C 77 dX11_odds_51 (by decide) ?_
          refine go_sub (ls' := [(0, .ref a0), (2, .int a2), (3, .int a3)]) [0, 2, 3] rfl ?_
          refine gX11_odds_J77 C O E h36 a0 a2 a3 8
        · refine go_bipush (pc := 54) C dX11_odds_54 kb_8 ?_
          refine go_aload_n (pc := 56) C 0 dX11_odds_56 rfl ?_
          refine go_gR (pc := 57) C fdX11_9 dX11_odds_57 (fun x43 => ?_)
          refine go_aload_n (pc := 60) C 0 dX11_odds_60 rfl ?_
          refine go_gR (pc := 61) C fdX11_9 dX11_odds_61 (fun x44 => ?_)
          refine go_sipush (pc := 64) C dX11_odds_64 ks_312 ?_
          refine go_iload_n (pc := 67) C 1 dX11_odds_67 rfl ?_
          refine go_iadd (pc := 68) C dX11_odds_68 ?_
          refine go_iald (pc := 69) C dX11_odds_69 (fun x45 => ?_)
          refine go_bind (fun q46 hq46 => ?_)
          refine go_callS (rest := [.int 8]) (st' := [.int q46, .int 8]) (c' := 0) (s' := 0) (pc := 70) C O miX11_96 w_1491 [.ref x43, .int x45] rfl (mX11_pagesOf hq46) dX11_odds_70 ⟨by decide, by decide, by decide, by decide⟩ rfl (Nat.le_of_ble_eq_true rfl) rfl ⟨rfl, rfl⟩ ?_
          refine go_bind (fun q47 hq47 => ?_)
          refine go_callS (rest := [.int 8]) (st' := [.int q47, .int 8]) (c' := 0) (s' := 0) (pc := 73) C O miX11_100 w_397 [.int q46] rfl (mJ6_bitCount_0f7a4 hq47) dX11_odds_73 ⟨by decide, by decide, by decide, by decide⟩ rfl (Nat.le_of_ble_eq_true rfl) rfl ⟨rfl, rfl⟩ ?_
          refine go_isub (pc := 76) C dX11_odds_76 ?_
          refine go_sub (ls' := [(0, .ref a0), (2, .int a2), (3, .int a3)]) [0, 2, 3] rfl ?_
          refine gX11_odds_J77 C O E h36 a0 a2 a3 (8 - q47)
      · refine go_iconst (pc := 36) C dX11_odds_36 ki_m1 ?_
        exact go_iret (w := wIh) (pc := 37) C E (((-1), h36)) ((-1)) dX11_odds_37 rfl
    · refine go_iconst (pc := 36) C dX11_odds_36 ki_m1 ?_
      exact go_iret (w := wIh) (pc := 37) C E (((-1), h36)) ((-1)) dX11_odds_37 rfl
  · refine go_iconst (pc := 36) C dX11_odds_36 ki_m1 ?_
    exact go_iret (w := wIh) (pc := 37) C E (((-1), h36)) ((-1)) dX11_odds_37 rfl
theorem dX11_highOf_0 : decode cX11_highOf 0 = .ok (.iload_n 0, 1) := by decide +kernel
theorem dX11_highOf_1 : decode cX11_highOf 1 = .ok (.ifCond .ne 8, 3) := by decide +kernel
theorem dX11_highOf_4 : decode cX11_highOf 4 = .ok (.bipush 23, 2) := by decide +kernel
theorem dX11_highOf_6 : decode cX11_highOf 6 = .ok (.goto 24, 3) := by decide +kernel
theorem dX11_highOf_9 : decode cX11_highOf 9 = .ok (.iload_n 0, 1) := by decide +kernel
theorem dX11_highOf_10 : decode cX11_highOf 10 = .ok (.iconst 1, 1) := by decide +kernel
theorem dX11_highOf_11 : decode cX11_highOf 11 = .ok (.if_icmp .ne 8, 3) := by decide +kernel
theorem dX11_highOf_14 : decode cX11_highOf 14 = .ok (.bipush 7, 2) := by decide +kernel
theorem dX11_highOf_16 : decode cX11_highOf 16 = .ok (.goto 14, 3) := by decide +kernel
theorem dX11_highOf_19 : decode cX11_highOf 19 = .ok (.iload_n 0, 1) := by decide +kernel
theorem dX11_highOf_20 : decode cX11_highOf 20 = .ok (.iconst 2, 1) := by decide +kernel
theorem dX11_highOf_21 : decode cX11_highOf 21 = .ok (.if_icmp .ne 8, 3) := by decide +kernel
theorem dX11_highOf_24 : decode cX11_highOf 24 = .ok (.bipush 9, 2) := by decide +kernel
theorem dX11_highOf_26 : decode cX11_highOf 26 = .ok (.goto 4, 3) := by decide +kernel
theorem dX11_highOf_29 : decode cX11_highOf 29 = .ok (.iconst 5, 1) := by decide +kernel
theorem dX11_highOf_30 : decode cX11_highOf 30 = .ok (.ireturn, 1) := by decide +kernel
def fX11_highOf (h : AH) (a0 : Int32) : Option (Int32) :=
  if a0 = 0 then (
    some 23
  ) else (
    if a0 = 1 then (
      some 7
    ) else (
      if a0 = 2 then (
        some 9
      ) else (
        some 5
      )
    )
  )
set_option maxHeartbeats 4000000 in
theorem mX11_highOf {h : AH} {a0 : Int32} {r : Int32} (hr : fX11_highOf h a0 = some r) : MC yX11_highOf cX11_highOf 1 (some .int) 1 0 0 [.int a0] h (some (.int r)) h := by
  unfold fX11_highOf at hr
  refine mc_of (l0 := [(0, .int a0)]) rfl pn_X11 (Nat.le_of_ble_eq_true rfl) (fun Y X C E O hnm => go_run hr ?_)
  have C : CT Y X RX11 cX11_highOf 1 := C
  refine go_iload_n (pc := 0) C 0 dX11_highOf_0 rfl ?_
  refine go_if_ne (pc := 1) C 9 dX11_highOf_1 (by decide) (fun _ => ?_) (fun _ => ?_)
  · refine go_bipush (pc := 4) C dX11_highOf_4 kb_23 ?_
    refine go_goto (pc := 6) C 30 dX11_highOf_6 (by decide) ?_
    exact go_iret (w := (wI h)) (pc := 30) C E 23 23 dX11_highOf_30 rfl
  · refine go_iload_n (pc := 9) C 0 dX11_highOf_9 rfl ?_
    refine go_iconst (pc := 10) C dX11_highOf_10 ki_1 ?_
    refine go_icmp_ne (pc := 11) C 19 dX11_highOf_11 (by decide) (fun _ => ?_) (fun _ => ?_)
    · refine go_bipush (pc := 14) C dX11_highOf_14 kb_7 ?_
      refine go_goto (pc := 16) C 30 dX11_highOf_16 (by decide) ?_
      exact go_iret (w := (wI h)) (pc := 30) C E 7 7 dX11_highOf_30 rfl
    · refine go_iload_n (pc := 19) C 0 dX11_highOf_19 rfl ?_
      refine go_iconst (pc := 20) C dX11_highOf_20 ki_2 ?_
      refine go_icmp_ne (pc := 21) C 29 dX11_highOf_21 (by decide) (fun _ => ?_) (fun _ => ?_)
      · refine go_bipush (pc := 24) C dX11_highOf_24 kb_9 ?_
        refine go_goto (pc := 26) C 30 dX11_highOf_26 (by decide) ?_
        exact go_iret (w := (wI h)) (pc := 30) C E 9 9 dX11_highOf_30 rfl
      · refine go_iconst (pc := 29) C dX11_highOf_29 ki_5 ?_
        exact go_iret (w := (wI h)) (pc := 30) C E 5 5 dX11_highOf_30 rfl
theorem dX11_heard_0 : decode cX11_heard 0 = .ok (.aload_n 0, 1) := by decide +kernel
theorem dX11_heard_1 : decode cX11_heard 1 = .ok (.iconst 0, 1) := by decide +kernel
theorem dX11_heard_2 : decode cX11_heard 2 = .ok (.putfield 77, 3) := by decide +kernel
theorem dX11_heard_5 : decode cX11_heard 5 = .ok (.iload_n 1, 1) := by decide +kernel
theorem dX11_heard_6 : decode cX11_heard 6 = .ok (.iconst 0, 1) := by decide +kernel
theorem dX11_heard_7 : decode cX11_heard 7 = .ok (.iconst 3, 1) := by decide +kernel
theorem dX11_heard_8 : decode cX11_heard 8 = .ok (.invokestatic 84, 3) := by decide +kernel
theorem dX11_heard_11 : decode cX11_heard 11 = .ok (.ifCond .eq 24, 3) := by decide +kernel
theorem dX11_heard_14 : decode cX11_heard 14 = .ok (.iload_n 2, 1) := by decide +kernel
theorem dX11_heard_15 : decode cX11_heard 15 = .ok (.iconst 0, 1) := by decide +kernel
theorem dX11_heard_16 : decode cX11_heard 16 = .ok (.iload_n 1, 1) := by decide +kernel
theorem dX11_heard_17 : decode cX11_heard 17 = .ok (.invokestatic 378, 3) := by decide +kernel
theorem dX11_heard_20 : decode cX11_heard 20 = .ok (.invokestatic 84, 3) := by decide +kernel
theorem dX11_heard_23 : decode cX11_heard 23 = .ok (.ifCond .eq 12, 3) := by decide +kernel
theorem dX11_heard_26 : decode cX11_heard 26 = .ok (.aload_n 0, 1) := by decide +kernel
theorem dX11_heard_27 : decode cX11_heard 27 = .ok (.getfield 381, 3) := by decide +kernel
theorem dX11_heard_30 : decode cX11_heard 30 = .ok (.bipush 12, 2) := by decide +kernel
theorem dX11_heard_32 : decode cX11_heard 32 = .ok (.if_icmp .ne 5, 3) := by decide +kernel
theorem dX11_heard_35 : decode cX11_heard 35 = .ok (.iconst (-1), 1) := by decide +kernel
theorem dX11_heard_36 : decode cX11_heard 36 = .ok (.ireturn, 1) := by decide +kernel
theorem dX11_heard_37 : decode cX11_heard 37 = .ok (.aload_n 0, 1) := by decide +kernel
theorem dX11_heard_38 : decode cX11_heard 38 = .ok (.getfield 45, 3) := by decide +kernel
theorem dX11_heard_41 : decode cX11_heard 41 = .ok (.aload_n 0, 1) := by decide +kernel
theorem dX11_heard_42 : decode cX11_heard 42 = .ok (.getfield 381, 3) := by decide +kernel
theorem dX11_heard_45 : decode cX11_heard 45 = .ok (.iload_n 1, 1) := by decide +kernel
theorem dX11_heard_46 : decode cX11_heard 46 = .ok (.iastore, 1) := by decide +kernel
theorem dX11_heard_47 : decode cX11_heard 47 = .ok (.aload_n 0, 1) := by decide +kernel
theorem dX11_heard_48 : decode cX11_heard 48 = .ok (.getfield 48, 3) := by decide +kernel
theorem dX11_heard_51 : decode cX11_heard 51 = .ok (.aload_n 0, 1) := by decide +kernel
theorem dX11_heard_52 : decode cX11_heard 52 = .ok (.getfield 381, 3) := by decide +kernel
theorem dX11_heard_55 : decode cX11_heard 55 = .ok (.iload_n 2, 1) := by decide +kernel
theorem dX11_heard_56 : decode cX11_heard 56 = .ok (.iastore, 1) := by decide +kernel
theorem dX11_heard_57 : decode cX11_heard 57 = .ok (.aload_n 0, 1) := by decide +kernel
theorem dX11_heard_58 : decode cX11_heard 58 = .ok (.dup, 1) := by decide +kernel
theorem dX11_heard_59 : decode cX11_heard 59 = .ok (.getfield 381, 3) := by decide +kernel
theorem dX11_heard_62 : decode cX11_heard 62 = .ok (.iconst 1, 1) := by decide +kernel
theorem dX11_heard_63 : decode cX11_heard 63 = .ok (.iadd, 1) := by decide +kernel
theorem dX11_heard_64 : decode cX11_heard 64 = .ok (.putfield 381, 3) := by decide +kernel
theorem dX11_heard_67 : decode cX11_heard 67 = .ok (.aload_n 0, 1) := by decide +kernel
theorem dX11_heard_68 : decode cX11_heard 68 = .ok (.getfield 381, 3) := by decide +kernel
theorem dX11_heard_71 : decode cX11_heard 71 = .ok (.ireturn, 1) := by decide +kernel
def fX11_heard (h : AH) (a0 : Nat) (a1 : Int32) (a2 : Int32) : Option (Int32 × AH) :=
  if hasC h 11 a0 = true then (
    (pF h 11 a0 5 (.int 0)).bind fun h1 =>
    (fX11_in h1 a1 0 3).bind fun q2 =>
    if q2 = true then (
      (fX11_highOf h1 a1).bind fun q3 =>
      (fX11_in h1 a2 0 q3).bind fun q4 =>
      if q4 = true then (
        (gI h1 11 a0 26).bind fun x5 =>
        if x5 = 12 then (
          some (((-1), h1))
        ) else (
          (gR h1 11 a0 24).bind fun x6 =>
          (gI h1 11 a0 26).bind fun x7 =>
          (sI h1 0 x6 x7 a1).bind fun h8 =>
          (gR h8 11 a0 25).bind fun x9 =>
          (gI h8 11 a0 26).bind fun x10 =>
          (sI h8 0 x9 x10 a2).bind fun h11 =>
          (gI h11 11 a0 26).bind fun x12 =>
          (pF h11 11 a0 26 (.int (x12 + 1))).bind fun h13 =>
          (gI h13 11 a0 26).bind fun x14 =>
          some ((x14, h13))
        )
      ) else (
        some (((-1), h1))
      )
    ) else (
      some (((-1), h1))
    )
  ) else none
set_option maxHeartbeats 4000000 in
theorem mX11_heard {h : AH} {a0 : Nat} {a1 : Int32} {a2 : Int32} {r : Int32 × AH} (hr : fX11_heard h a0 a1 a2 = some r) : hasC h 11 a0 = true ∧ MC yX11_heard cX11_heard 3 (some .int) 2 0 0 [.ref a0, .int a1, .int a2] h (some (.int r.1)) r.2 := by
  unfold fX11_heard at hr
  obtain ⟨hc, hr⟩ := if_some hr
  refine ⟨hc, mc_of (l0 := [(0, .ref a0), (1, .int a1), (2, .int a2)]) rfl pn_X11 (Nat.le_of_ble_eq_true rfl) (fun Y X C E O hnm => go_run hr ?_)⟩
  have C : CT Y X RX11 cX11_heard 3 := C
  refine go_aload_n (pc := 0) C 0 dX11_heard_0 rfl ?_
  refine go_iconst (pc := 1) C dX11_heard_1 ki_0 ?_
  refine go_pI (pc := 2) C fpX11_77 dX11_heard_2 (fun h1 => ?_)
  refine go_iload_n (pc := 5) C 1 dX11_heard_5 rfl ?_
  refine go_iconst (pc := 6) C dX11_heard_6 ki_0 ?_
  refine go_iconst (pc := 7) C dX11_heard_7 ki_3 ?_
  refine go_bind (fun q2 hq2 => ?_)
  refine go_callS (rest := []) (st' := [.int (b2i q2)]) (c' := 0) (s' := 0) (pc := 8) C O miX11_84 w_1437 [.int a1, .int 0, .int 3] rfl (mX11_in hq2) dX11_heard_8 ⟨by decide, by decide, by decide, by decide⟩ rfl (Nat.le_of_ble_eq_true rfl) rfl ⟨rfl, rfl⟩ ?_
  refine go_ifZ_eq (pc := 11) C 35 dX11_heard_11 (by decide) (fun _ => ?_) (fun _ => ?_)
  · refine go_iload_n (pc := 14) C 2 dX11_heard_14 rfl ?_
    refine go_iconst (pc := 15) C dX11_heard_15 ki_0 ?_
    refine go_iload_n (pc := 16) C 1 dX11_heard_16 rfl ?_
    refine go_bind (fun q3 hq3 => ?_)
    refine go_callS (rest := [.int 0, .int a2]) (st' := [.int q3, .int 0, .int a2]) (c' := 0) (s' := 0) (pc := 17) C O miX11_378 w_1810 [.int a1] rfl (mX11_highOf hq3) dX11_heard_17 ⟨by decide, by decide, by decide, by decide⟩ rfl (Nat.le_of_ble_eq_true rfl) rfl ⟨rfl, rfl⟩ ?_
    refine go_bind (fun q4 hq4 => ?_)
    refine go_callS (rest := []) (st' := [.int (b2i q4)]) (c' := 0) (s' := 0) (pc := 20) C O miX11_84 w_1437 [.int a2, .int 0, .int q3] rfl (mX11_in hq4) dX11_heard_20 ⟨by decide, by decide, by decide, by decide⟩ rfl (Nat.le_of_ble_eq_true rfl) rfl ⟨rfl, rfl⟩ ?_
    refine go_ifZ_eq (pc := 23) C 35 dX11_heard_23 (by decide) (fun _ => ?_) (fun _ => ?_)
    · refine go_aload_n (pc := 26) C 0 dX11_heard_26 rfl ?_
      refine go_gI (pc := 27) C fdX11_381 dX11_heard_27 (fun x5 => ?_)
      refine go_bipush (pc := 30) C dX11_heard_30 kb_12 ?_
      refine go_icmp_ne (pc := 32) C 37 dX11_heard_32 (by decide) (fun _ => ?_) (fun _ => ?_)
      · refine go_iconst (pc := 35) C dX11_heard_35 ki_m1 ?_
        exact go_iret (w := wIh) (pc := 36) C E (((-1), h1)) ((-1)) dX11_heard_36 rfl
      · refine go_aload_n (pc := 37) C 0 dX11_heard_37 rfl ?_
        refine go_gR (pc := 38) C fdX11_45 dX11_heard_38 (fun x6 => ?_)
        refine go_aload_n (pc := 41) C 0 dX11_heard_41 rfl ?_
        refine go_gI (pc := 42) C fdX11_381 dX11_heard_42 (fun x7 => ?_)
        refine go_iload_n (pc := 45) C 1 dX11_heard_45 rfl ?_
        refine go_iast (pc := 46) C dX11_heard_46 (fun h8 => ?_)
        refine go_aload_n (pc := 47) C 0 dX11_heard_47 rfl ?_
        refine go_gR (pc := 48) C fdX11_48 dX11_heard_48 (fun x9 => ?_)
        refine go_aload_n (pc := 51) C 0 dX11_heard_51 rfl ?_
        refine go_gI (pc := 52) C fdX11_381 dX11_heard_52 (fun x10 => ?_)
        refine go_iload_n (pc := 55) C 2 dX11_heard_55 rfl ?_
        refine go_iast (pc := 56) C dX11_heard_56 (fun h11 => ?_)
        refine go_aload_n (pc := 57) C 0 dX11_heard_57 rfl ?_
        refine go_dup (pc := 58) C dX11_heard_58 rfl ?_
        refine go_gI (pc := 59) C fdX11_381 dX11_heard_59 (fun x12 => ?_)
        refine go_iconst (pc := 62) C dX11_heard_62 ki_1 ?_
        refine go_iadd (pc := 63) C dX11_heard_63 ?_
        refine go_pI (pc := 64) C fpX11_381 dX11_heard_64 (fun h13 => ?_)
        refine go_aload_n (pc := 67) C 0 dX11_heard_67 rfl ?_
        refine go_gI (pc := 68) C fdX11_381 dX11_heard_68 (fun x14 => ?_)
        exact go_iret (w := wIh) (pc := 71) C E ((x14, h13)) x14 dX11_heard_71 rfl
    · refine go_iconst (pc := 35) C dX11_heard_35 ki_m1 ?_
      exact go_iret (w := wIh) (pc := 36) C E (((-1), h1)) ((-1)) dX11_heard_36 rfl
  · refine go_iconst (pc := 35) C dX11_heard_35 ki_m1 ?_
    exact go_iret (w := wIh) (pc := 36) C E (((-1), h1)) ((-1)) dX11_heard_36 rfl
theorem dX11_forget_0 : decode cX11_forget 0 = .ok (.aload_n 0, 1) := by decide +kernel
theorem dX11_forget_1 : decode cX11_forget 1 = .ok (.iconst 0, 1) := by decide +kernel
theorem dX11_forget_2 : decode cX11_forget 2 = .ok (.putfield 77, 3) := by decide +kernel
theorem dX11_forget_5 : decode cX11_forget 5 = .ok (.aload_n 0, 1) := by decide +kernel
theorem dX11_forget_6 : decode cX11_forget 6 = .ok (.getfield 381, 3) := by decide +kernel
theorem dX11_forget_9 : decode cX11_forget 9 = .ok (.istore_n 1, 1) := by decide +kernel
theorem dX11_forget_10 : decode cX11_forget 10 = .ok (.aload_n 0, 1) := by decide +kernel
theorem dX11_forget_11 : decode cX11_forget 11 = .ok (.iconst 0, 1) := by decide +kernel
theorem dX11_forget_12 : decode cX11_forget 12 = .ok (.putfield 381, 3) := by decide +kernel
theorem dX11_forget_15 : decode cX11_forget 15 = .ok (.iload_n 1, 1) := by decide +kernel
theorem dX11_forget_16 : decode cX11_forget 16 = .ok (.ireturn, 1) := by decide +kernel
def fX11_forget (h : AH) (a0 : Nat) : Option (Int32 × AH) :=
  if hasC h 11 a0 = true then (
    (pF h 11 a0 5 (.int 0)).bind fun h1 =>
    (gI h1 11 a0 26).bind fun x2 =>
    (pF h1 11 a0 26 (.int 0)).bind fun h3 =>
    some ((x2, h3))
  ) else none
set_option maxHeartbeats 4000000 in
theorem mX11_forget {h : AH} {a0 : Nat} {r : Int32 × AH} (hr : fX11_forget h a0 = some r) : hasC h 11 a0 = true ∧ MC yX11_forget cX11_forget 2 (some .int) 1 0 0 [.ref a0] h (some (.int r.1)) r.2 := by
  unfold fX11_forget at hr
  obtain ⟨hc, hr⟩ := if_some hr
  refine ⟨hc, mc_of (l0 := [(0, .ref a0)]) rfl pn_X11 (Nat.le_of_ble_eq_true rfl) (fun Y X C E O hnm => go_run hr ?_)⟩
  have C : CT Y X RX11 cX11_forget 2 := C
  refine go_aload_n (pc := 0) C 0 dX11_forget_0 rfl ?_
  refine go_iconst (pc := 1) C dX11_forget_1 ki_0 ?_
  refine go_pI (pc := 2) C fpX11_77 dX11_forget_2 (fun h1 => ?_)
  refine go_aload_n (pc := 5) C 0 dX11_forget_5 rfl ?_
  refine go_gI (pc := 6) C fdX11_381 dX11_forget_6 (fun x2 => ?_)
  refine go_istore_n (ls' := [(1, .int x2), (0, .ref a0)]) (pc := 9) C dX11_forget_9 (by decide) rfl ?_
  refine go_aload_n (pc := 10) C 1 dX11_forget_10 rfl ?_
  refine go_iconst (pc := 11) C dX11_forget_11 ki_0 ?_
  refine go_pI (pc := 12) C fpX11_381 dX11_forget_12 (fun h3 => ?_)
  refine go_iload_n (pc := 15) C 0 dX11_forget_15 rfl ?_
  exact go_iret (w := wIh) (pc := 16) C E ((x2, h3)) x2 dX11_forget_16 rfl
theorem dX11_isSo_0 : decode cX11_isSo 0 = .ok (.iload_n 3, 1) := by decide +kernel
theorem dX11_isSo_1 : decode cX11_isSo 1 = .ok (.tableswitch 76 0 2 #[27, 39, 51], 27) := by decide +kernel
theorem dX11_isSo_28 : decode cX11_isSo 28 = .ok (.iload_n 1, 1) := by decide +kernel
theorem dX11_isSo_29 : decode cX11_isSo 29 = .ok (.iload 4, 2) := by decide +kernel
theorem dX11_isSo_31 : decode cX11_isSo 31 = .ok (.if_icmp .ne 7, 3) := by decide +kernel
theorem dX11_isSo_34 : decode cX11_isSo 34 = .ok (.iconst 1, 1) := by decide +kernel
theorem dX11_isSo_35 : decode cX11_isSo 35 = .ok (.goto 4, 3) := by decide +kernel
theorem dX11_isSo_38 : decode cX11_isSo 38 = .ok (.iconst 0, 1) := by decide +kernel
theorem dX11_isSo_39 : decode cX11_isSo 39 = .ok (.ireturn, 1) := by decide +kernel
theorem dX11_isSo_40 : decode cX11_isSo 40 = .ok (.iload_n 2, 1) := by decide +kernel
theorem dX11_isSo_41 : decode cX11_isSo 41 = .ok (.iload 4, 2) := by decide +kernel
theorem dX11_isSo_43 : decode cX11_isSo 43 = .ok (.if_icmp .ne 7, 3) := by decide +kernel
theorem dX11_isSo_46 : decode cX11_isSo 46 = .ok (.iconst 1, 1) := by decide +kernel
theorem dX11_isSo_47 : decode cX11_isSo 47 = .ok (.goto 4, 3) := by decide +kernel
theorem dX11_isSo_50 : decode cX11_isSo 50 = .ok (.iconst 0, 1) := by decide +kernel
theorem dX11_isSo_51 : decode cX11_isSo 51 = .ok (.ireturn, 1) := by decide +kernel
theorem dX11_isSo_52 : decode cX11_isSo 52 = .ok (.aload_n 0, 1) := by decide +kernel
theorem dX11_isSo_53 : decode cX11_isSo 53 = .ok (.getfield 9, 3) := by decide +kernel
theorem dX11_isSo_56 : decode cX11_isSo 56 = .ok (.bipush 8, 2) := by decide +kernel
theorem dX11_isSo_58 : decode cX11_isSo 58 = .ok (.iload_n 1, 1) := by decide +kernel
theorem dX11_isSo_59 : decode cX11_isSo 59 = .ok (.imul, 1) := by decide +kernel
theorem dX11_isSo_60 : decode cX11_isSo 60 = .ok (.iload_n 2, 1) := by decide +kernel
theorem dX11_isSo_61 : decode cX11_isSo 61 = .ok (.iadd, 1) := by decide +kernel
theorem dX11_isSo_62 : decode cX11_isSo 62 = .ok (.iaload, 1) := by decide +kernel
theorem dX11_isSo_63 : decode cX11_isSo 63 = .ok (.bipush 10, 2) := by decide +kernel
theorem dX11_isSo_65 : decode cX11_isSo 65 = .ok (.iload 4, 2) := by decide +kernel
theorem dX11_isSo_67 : decode cX11_isSo 67 = .ok (.imul, 1) := by decide +kernel
theorem dX11_isSo_68 : decode cX11_isSo 68 = .ok (.if_icmp .lt 7, 3) := by decide +kernel
theorem dX11_isSo_71 : decode cX11_isSo 71 = .ok (.iconst 1, 1) := by decide +kernel
theorem dX11_isSo_72 : decode cX11_isSo 72 = .ok (.goto 4, 3) := by decide +kernel
theorem dX11_isSo_75 : decode cX11_isSo 75 = .ok (.iconst 0, 1) := by decide +kernel
theorem dX11_isSo_76 : decode cX11_isSo 76 = .ok (.ireturn, 1) := by decide +kernel
theorem dX11_isSo_77 : decode cX11_isSo 77 = .ok (.aload_n 0, 1) := by decide +kernel
theorem dX11_isSo_78 : decode cX11_isSo 78 = .ok (.iload_n 1, 1) := by decide +kernel
theorem dX11_isSo_79 : decode cX11_isSo 79 = .ok (.iload_n 2, 1) := by decide +kernel
theorem dX11_isSo_80 : decode cX11_isSo 80 = .ok (.invokevirtual 362, 3) := by decide +kernel
theorem dX11_isSo_83 : decode cX11_isSo 83 = .ok (.iload 4, 2) := by decide +kernel
theorem dX11_isSo_85 : decode cX11_isSo 85 = .ok (.invokestatic 312, 3) := by decide +kernel
theorem dX11_isSo_88 : decode cX11_isSo 88 = .ok (.ireturn, 1) := by decide +kernel
def fX11_isSo (h : AH) (a0 : Nat) (a1 : Int32) (a2 : Int32) (a3 : Int32) (a4 : Int32) : Option (Bool) :=
  if hasC h 11 a0 = true then (
    if a3 = 0 then (
      if a1 = a4 then (
        some true
      ) else (
        some false
      )
    ) else (
      if a3 = 1 then (
        if a2 = a4 then (
          some true
        ) else (
          some false
        )
      ) else (
        if a3 = 2 then (
          (gR h 11 a0 0).bind fun x4 =>
          (aI h 0 x4 ((8 * a1) + a2)).bind fun x5 =>
          if x5 < (10 * a4) then (
            some false
          ) else (
            some true
          )
        ) else (
          (fX11_havers h a0 a1 a2).bind fun q6 =>
          (fX11_has h q6 a4).bind fun q7 =>
          some q7)))
  ) else none
set_option maxHeartbeats 4000000 in
theorem mX11_isSo {h : AH} {a0 : Nat} {a1 : Int32} {a2 : Int32} {a3 : Int32} {a4 : Int32} {r : Bool} (hr : fX11_isSo h a0 a1 a2 a3 a4 = some r) : hasC h 11 a0 = true ∧ MC yX11_isSo cX11_isSo 5 (some .boolean) 5 0 0 [.ref a0, .int a1, .int a2, .int a3, .int a4] h (some (.int (b2i r))) h := by
  unfold fX11_isSo at hr
  obtain ⟨hc, hr⟩ := if_some hr
  refine ⟨hc, mc_of (l0 := [(0, .ref a0), (1, .int a1), (2, .int a2), (3, .int a3), (4, .int a4)]) rfl pn_X11 (Nat.le_of_ble_eq_true rfl) (fun Y X C E O hnm => go_run hr ?_)⟩
  have C : CT Y X RX11 cX11_isSo 5 := C
  refine go_iload_n (pc := 0) C 3 dX11_isSo_0 rfl ?_
  refine go_ite (fun hc1 => ?_) (fun hc1 => ?_)
  · refine go_tsw (pc := 1) C 28 0 hc1 dX11_isSo_1 (by decide) (by decide) rfl (by decide) ?_
    refine go_iload_n (pc := 28) C 1 dX11_isSo_28 rfl ?_
    refine go_iload (pc := 29) C 4 dX11_isSo_29 rfl ?_
    refine go_icmp_ne (pc := 31) C 38 dX11_isSo_31 (by decide) (fun _ => ?_) (fun _ => ?_)
    · refine go_iconst (pc := 34) C dX11_isSo_34 ki_1 ?_
      refine go_goto (pc := 35) C 39 dX11_isSo_35 (by decide) ?_
      exact go_bret (w := (wZ h)) (pc := 39) C E true 1 true rfl dX11_isSo_39 rfl
    · refine go_iconst (pc := 38) C dX11_isSo_38 ki_0 ?_
      exact go_bret (w := (wZ h)) (pc := 39) C E false 0 false rfl dX11_isSo_39 rfl
  · refine go_ite (fun hc2 => ?_) (fun hc2 => ?_)
    · refine go_tsw (pc := 1) C 40 1 hc2 dX11_isSo_1 (by decide) (by decide) rfl (by decide) ?_
      refine go_iload_n (pc := 40) C 2 dX11_isSo_40 rfl ?_
      refine go_iload (pc := 41) C 4 dX11_isSo_41 rfl ?_
      refine go_icmp_ne (pc := 43) C 50 dX11_isSo_43 (by decide) (fun _ => ?_) (fun _ => ?_)
      · refine go_iconst (pc := 46) C dX11_isSo_46 ki_1 ?_
        refine go_goto (pc := 47) C 51 dX11_isSo_47 (by decide) ?_
        exact go_bret (w := (wZ h)) (pc := 51) C E true 1 true rfl dX11_isSo_51 rfl
      · refine go_iconst (pc := 50) C dX11_isSo_50 ki_0 ?_
        exact go_bret (w := (wZ h)) (pc := 51) C E false 0 false rfl dX11_isSo_51 rfl
    · refine go_ite (fun hc3 => ?_) (fun hc3 => ?_)
      · refine go_tsw (pc := 1) C 52 2 hc3 dX11_isSo_1 (by decide) (by decide) rfl (by decide) ?_
        refine go_aload_n (pc := 52) C 0 dX11_isSo_52 rfl ?_
        refine go_gR (pc := 53) C fdX11_9 dX11_isSo_53 (fun x4 => ?_)
        refine go_bipush (pc := 56) C dX11_isSo_56 kb_8 ?_
        refine go_iload_n (pc := 58) C 1 dX11_isSo_58 rfl ?_
        refine go_imul (pc := 59) C dX11_isSo_59 ?_
        refine go_iload_n (pc := 60) C 2 dX11_isSo_60 rfl ?_
        refine go_iadd (pc := 61) C dX11_isSo_61 ?_
        refine go_iald (pc := 62) C dX11_isSo_62 (fun x5 => ?_)
        refine go_bipush (pc := 63) C dX11_isSo_63 kb_10 ?_
        refine go_iload (pc := 65) C 4 dX11_isSo_65 rfl ?_
        refine go_imul (pc := 67) C dX11_isSo_67 ?_
        refine go_icmp_lt (pc := 68) C 75 dX11_isSo_68 (by decide) (fun _ => ?_) (fun _ => ?_)
        · refine go_iconst (pc := 75) C dX11_isSo_75 ki_0 ?_
          exact go_bret (w := (wZ h)) (pc := 76) C E false 0 false rfl dX11_isSo_76 rfl
        · refine go_iconst (pc := 71) C dX11_isSo_71 ki_1 ?_
          refine go_goto (pc := 72) C 76 dX11_isSo_72 (by decide) ?_
          exact go_bret (w := (wZ h)) (pc := 76) C E true 1 true rfl dX11_isSo_76 rfl
      · refine go_tsw_else (pc := 1) C 77 [0, 1, 2] dX11_isSo_1 (fun v hv => by simp only [List.mem_cons, List.not_mem_nil, or_false] at hv; rcases hv with rfl | rfl | rfl <;> first | exact i32_ne hc1 (by decide) | exact i32_ne hc2 (by decide) | exact i32_ne hc3 (by decide)) (by decide) (by decide) (by decide) ?_
        refine go_aload_n (pc := 77) C 0 dX11_isSo_77 rfl ?_
        refine go_iload_n (pc := 78) C 1 dX11_isSo_78 rfl ?_
        refine go_iload_n (pc := 79) C 2 dX11_isSo_79 rfl ?_
        refine go_bind (fun q6 hq6 => ?_)
        refine go_callV (rest := []) (st' := [.int q6]) (c' := 0) (s' := 0) (pc := 80) C O miX11_362 mvX11_havers [.int a1, .int a2] rfl (mX11_havers hq6).1 (mX11_havers hq6).2 dX11_isSo_80 ⟨by decide, by decide, by decide, by decide⟩ rfl (Nat.le_of_ble_eq_true rfl) rfl ⟨rfl, rfl⟩ ?_
        refine go_iload (pc := 83) C 4 dX11_isSo_83 rfl ?_
        refine go_bind (fun q7 hq7 => ?_)
        refine go_callS (rest := []) (st' := [.int (b2i q7)]) (c' := 0) (s' := 0) (pc := 85) C O miX11_312 w_1686 [.int q6, .int a4] rfl (mX11_has hq7) dX11_isSo_85 ⟨by decide, by decide, by decide, by decide⟩ rfl (Nat.le_of_ble_eq_true rfl) rfl ⟨rfl, rfl⟩ ?_
        exact go_bret (w := (wZ h)) (pc := 88) C E q7 (b2i q7) q7 rfl dX11_isSo_88 rfl
theorem dX11_isFitting_0 : decode cX11_isFitting 0 = .ok (.aload_n 0, 1) := by decide +kernel
theorem dX11_isFitting_1 : decode cX11_isFitting 1 = .ok (.getfield 9, 3) := by decide +kernel
theorem dX11_isFitting_4 : decode cX11_isFitting 4 = .ok (.iload_n 1, 1) := by decide +kernel
theorem dX11_isFitting_5 : decode cX11_isFitting 5 = .ok (.iload_n 2, 1) := by decide +kernel
theorem dX11_isFitting_6 : decode cX11_isFitting 6 = .ok (.invokestatic 92, 3) := by decide +kernel
theorem dX11_isFitting_9 : decode cX11_isFitting 9 = .ok (.ifCond .ne 5, 3) := by decide +kernel
theorem dX11_isFitting_12 : decode cX11_isFitting 12 = .ok (.iconst 0, 1) := by decide +kernel
theorem dX11_isFitting_13 : decode cX11_isFitting 13 = .ok (.ireturn, 1) := by decide +kernel
theorem dX11_isFitting_14 : decode cX11_isFitting 14 = .ok (.iconst 0, 1) := by decide +kernel
theorem dX11_isFitting_15 : decode cX11_isFitting 15 = .ok (.istore_n 3, 1) := by decide +kernel
theorem dX11_isFitting_16 : decode cX11_isFitting 16 = .ok (.iload_n 3, 1) := by decide +kernel
theorem dX11_isFitting_17 : decode cX11_isFitting 17 = .ok (.aload_n 0, 1) := by decide +kernel
theorem dX11_isFitting_18 : decode cX11_isFitting 18 = .ok (.getfield 381, 3) := by decide +kernel
theorem dX11_isFitting_21 : decode cX11_isFitting 21 = .ok (.if_icmp .ge 32, 3) := by decide +kernel
theorem dX11_isFitting_24 : decode cX11_isFitting 24 = .ok (.aload_n 0, 1) := by decide +kernel
theorem dX11_isFitting_25 : decode cX11_isFitting 25 = .ok (.iload_n 1, 1) := by decide +kernel
theorem dX11_isFitting_26 : decode cX11_isFitting 26 = .ok (.iload_n 2, 1) := by decide +kernel
theorem dX11_isFitting_27 : decode cX11_isFitting 27 = .ok (.aload_n 0, 1) := by decide +kernel
theorem dX11_isFitting_28 : decode cX11_isFitting 28 = .ok (.getfield 45, 3) := by decide +kernel
theorem dX11_isFitting_31 : decode cX11_isFitting 31 = .ok (.iload_n 3, 1) := by decide +kernel
theorem dX11_isFitting_32 : decode cX11_isFitting 32 = .ok (.iaload, 1) := by decide +kernel
theorem dX11_isFitting_33 : decode cX11_isFitting 33 = .ok (.aload_n 0, 1) := by decide +kernel
theorem dX11_isFitting_34 : decode cX11_isFitting 34 = .ok (.getfield 48, 3) := by decide +kernel
theorem dX11_isFitting_37 : decode cX11_isFitting 37 = .ok (.iload_n 3, 1) := by decide +kernel
theorem dX11_isFitting_38 : decode cX11_isFitting 38 = .ok (.iaload, 1) := by decide +kernel
theorem dX11_isFitting_39 : decode cX11_isFitting 39 = .ok (.invokevirtual 384, 3) := by decide +kernel
theorem dX11_isFitting_42 : decode cX11_isFitting 42 = .ok (.ifCond .ne 5, 3) := by decide +kernel
theorem dX11_isFitting_45 : decode cX11_isFitting 45 = .ok (.iconst 0, 1) := by decide +kernel
theorem dX11_isFitting_46 : decode cX11_isFitting 46 = .ok (.ireturn, 1) := by decide +kernel
theorem dX11_isFitting_47 : decode cX11_isFitting 47 = .ok (.iinc 3 1, 3) := by decide +kernel
theorem dX11_isFitting_50 : decode cX11_isFitting 50 = .ok (.goto (-34), 3) := by decide +kernel
theorem dX11_isFitting_53 : decode cX11_isFitting 53 = .ok (.iconst 1, 1) := by decide +kernel
theorem dX11_isFitting_54 : decode cX11_isFitting 54 = .ok (.ireturn, 1) := by decide +kernel
def fX11_isFitting_L16 (h : AH) : Nat → Nat → Int32 → Int32 → Int32 → Option (Bool)
  | 0, _, _, _, _ => none
  | n + 1, v0, v1, v2, v3 =>
    (gI h 11 v0 26).bind fun x1 =>
    if x1 ≤ v3 then (
      some true
    ) else (
      (gR h 11 v0 24).bind fun x2 =>
      (aI h 0 x2 v3).bind fun x3 =>
      (gR h 11 v0 25).bind fun x4 =>
      (aI h 0 x4 v3).bind fun x5 =>
      (fX11_isSo h v0 v1 v2 x3 x5).bind fun q6 =>
      if q6 = true then (
        letF (v3 + 1 : Int32) fun x7 =>
        fX11_isFitting_L16 h n v0 v1 v2 x7
      ) else (
        some false
      )
    )
def fX11_isFitting (h : AH) (a0 : Nat) (a1 : Int32) (a2 : Int32) : Option (Bool) :=
  if hasC h 11 a0 = true then (
    (gR h 11 a0 0).bind fun x8 =>
    (fX11_holds h x8 a1 a2).bind fun q9 =>
    if q9 = true then (
      fX11_isFitting_L16 h FU a0 a1 a2 0
    ) else (
      some false
    )
  ) else none
set_option maxHeartbeats 4000000 in
theorem gX11_isFitting_L16 {Y : YT} {X : XT} (C : CT Y X RX11 cX11_isFitting 4) (O : RO X 6 0 0) {h : AH} {r : Bool} (E : RX Y X (some .boolean) (some (.int (b2i r))) h 0 0) : ∀ (n : Nat) (v0 : Nat) (v1 : Int32) (v2 : Int32) (v3 : Int32), GO Y X 4 r h 0 0 16 [(0, .ref v0), (1, .int v1), (2, .int v2), (3, .int v3)] [] (fX11_isFitting_L16 h n v0 v1 v2 v3) := by
  intro n
  induction n with
  | zero => intros; exact go_none _ _ _
  | succ n ih =>
    intro v0 v1 v2 v3
    rw [fX11_isFitting_L16]
    refine go_iload_n (pc := 16) C 3 dX11_isFitting_16 rfl ?_
    refine go_aload_n (pc := 17) C 0 dX11_isFitting_17 rfl ?_
    refine go_gI (pc := 18) C fdX11_381 dX11_isFitting_18 (fun x1 => ?_)
    refine go_icmp_ge (pc := 21) C 53 dX11_isFitting_21 (by decide) (fun _ => ?_) (fun _ => ?_)
    · refine go_iconst (pc := 53) C dX11_isFitting_53 ki_1 ?_
      exact go_bret (w := (wZ h)) (pc := 54) C E true 1 true rfl dX11_isFitting_54 rfl
    · refine go_aload_n (pc := 24) C 0 dX11_isFitting_24 rfl ?_
      refine go_iload_n (pc := 25) C 1 dX11_isFitting_25 rfl ?_
      refine go_iload_n (pc := 26) C 2 dX11_isFitting_26 rfl ?_
      refine go_aload_n (pc := 27) C 0 dX11_isFitting_27 rfl ?_
      refine go_gR (pc := 28) C fdX11_45 dX11_isFitting_28 (fun x2 => ?_)
      refine go_iload_n (pc := 31) C 3 dX11_isFitting_31 rfl ?_
      refine go_iald (pc := 32) C dX11_isFitting_32 (fun x3 => ?_)
      refine go_aload_n (pc := 33) C 0 dX11_isFitting_33 rfl ?_
      refine go_gR (pc := 34) C fdX11_48 dX11_isFitting_34 (fun x4 => ?_)
      refine go_iload_n (pc := 37) C 3 dX11_isFitting_37 rfl ?_
      refine go_iald (pc := 38) C dX11_isFitting_38 (fun x5 => ?_)
      refine go_bind (fun q6 hq6 => ?_)
      refine go_callV (rest := []) (st' := [.int (b2i q6)]) (c' := 0) (s' := 0) (pc := 39) C O miX11_384 mvX11_isSo [.int v1, .int v2, .int x3, .int x5] rfl (mX11_isSo hq6).1 (mX11_isSo hq6).2 dX11_isFitting_39 ⟨by decide, by decide, by decide, by decide⟩ rfl (Nat.le_of_ble_eq_true rfl) rfl ⟨rfl, rfl⟩ ?_
      refine go_ifZ_ne (pc := 42) C 47 dX11_isFitting_42 (by decide) (fun _ => ?_) (fun _ => ?_)
      · refine go_iincL (pc := 47) C 3 dX11_isFitting_47 rfl ki_1 (by decide) (fun x7 => [(3, .int x7), (0, .ref v0), (1, .int v1), (2, .int v2)]) (fun _ => rfl) (fun x7 => ?_)
        refine go_goto (pc := 50) C 16 dX11_isFitting_50 (by decide) ?_
        refine go_sub (ls' := [(0, .ref v0), (1, .int v1), (2, .int v2), (3, .int x7)]) [1, 2, 3, 0] rfl ?_
        exact ih v0 v1 v2 x7
      · refine go_iconst (pc := 45) C dX11_isFitting_45 ki_0 ?_
        exact go_bret (w := (wZ h)) (pc := 46) C E false 0 false rfl dX11_isFitting_46 rfl
set_option maxHeartbeats 4000000 in
theorem mX11_isFitting {h : AH} {a0 : Nat} {a1 : Int32} {a2 : Int32} {r : Bool} (hr : fX11_isFitting h a0 a1 a2 = some r) : hasC h 11 a0 = true ∧ MC yX11_isFitting cX11_isFitting 4 (some .boolean) 6 0 0 [.ref a0, .int a1, .int a2] h (some (.int (b2i r))) h := by
  unfold fX11_isFitting at hr
  obtain ⟨hc, hr⟩ := if_some hr
  refine ⟨hc, mc_of (l0 := [(0, .ref a0), (1, .int a1), (2, .int a2)]) rfl pn_X11 (Nat.le_of_ble_eq_true rfl) (fun Y X C E O hnm => go_run hr ?_)⟩
  have C : CT Y X RX11 cX11_isFitting 4 := C
  refine go_aload_n (pc := 0) C 0 dX11_isFitting_0 rfl ?_
  refine go_gR (pc := 1) C fdX11_9 dX11_isFitting_1 (fun x8 => ?_)
  refine go_iload_n (pc := 4) C 1 dX11_isFitting_4 rfl ?_
  refine go_iload_n (pc := 5) C 2 dX11_isFitting_5 rfl ?_
  refine go_bind (fun q9 hq9 => ?_)
  refine go_callS (rest := []) (st' := [.int (b2i q9)]) (c' := 0) (s' := 0) (pc := 6) C O miX11_92 w_1494 [.ref x8, .int a1, .int a2] rfl (mX11_holds hq9) dX11_isFitting_6 ⟨by decide, by decide, by decide, by decide⟩ rfl (Nat.le_of_ble_eq_true rfl) rfl ⟨rfl, rfl⟩ ?_
  refine go_ifZ_ne (pc := 9) C 14 dX11_isFitting_9 (by decide) (fun _ => ?_) (fun _ => ?_)
  · refine go_iconst (pc := 14) C dX11_isFitting_14 ki_0 ?_
    refine go_istore_n (ls' := [(3, .int 0), (0, .ref a0), (1, .int a1), (2, .int a2)]) (pc := 15) C dX11_isFitting_15 (by decide) rfl ?_
    refine go_sub (ls' := [(0, .ref a0), (1, .int a1), (2, .int a2), (3, .int 0)]) [1, 2, 3, 0] rfl ?_
    refine gX11_isFitting_L16 C O E FU a0 a1 a2 0
  · refine go_iconst (pc := 12) C dX11_isFitting_12 ki_0 ?_
    exact go_bret (w := (wZ h)) (pc := 13) C E false 0 false rfl dX11_isFitting_13 rfl
theorem dX11_layFits_0 : decode cX11_layFits 0 = .ok (.iconst 0, 1) := by decide +kernel
theorem dX11_layFits_1 : decode cX11_layFits 1 = .ok (.istore_n 1, 1) := by decide +kernel
theorem dX11_layFits_2 : decode cX11_layFits 2 = .ok (.iconst 0, 1) := by decide +kernel
theorem dX11_layFits_3 : decode cX11_layFits 3 = .ok (.istore_n 2, 1) := by decide +kernel
theorem dX11_layFits_4 : decode cX11_layFits 4 = .ok (.iload_n 2, 1) := by decide +kernel
theorem dX11_layFits_5 : decode cX11_layFits 5 = .ok (.bipush 24, 2) := by decide +kernel
theorem dX11_layFits_7 : decode cX11_layFits 7 = .ok (.if_icmp .ge 62, 3) := by decide +kernel
theorem dX11_layFits_10 : decode cX11_layFits 10 = .ok (.iconst 0, 1) := by decide +kernel
theorem dX11_layFits_11 : decode cX11_layFits 11 = .ok (.istore_n 3, 1) := by decide +kernel
theorem dX11_layFits_12 : decode cX11_layFits 12 = .ok (.iload_n 3, 1) := by decide +kernel
theorem dX11_layFits_13 : decode cX11_layFits 13 = .ok (.bipush 8, 2) := by decide +kernel
theorem dX11_layFits_15 : decode cX11_layFits 15 = .ok (.if_icmp .ge 48, 3) := by decide +kernel
theorem dX11_layFits_18 : decode cX11_layFits 18 = .ok (.aload_n 0, 1) := by decide +kernel
theorem dX11_layFits_19 : decode cX11_layFits 19 = .ok (.getfield 51, 3) := by decide +kernel
theorem dX11_layFits_22 : decode cX11_layFits 22 = .ok (.bipush 8, 2) := by decide +kernel
theorem dX11_layFits_24 : decode cX11_layFits 24 = .ok (.iload_n 2, 1) := by decide +kernel
theorem dX11_layFits_25 : decode cX11_layFits 25 = .ok (.imul, 1) := by decide +kernel
theorem dX11_layFits_26 : decode cX11_layFits 26 = .ok (.iload_n 3, 1) := by decide +kernel
theorem dX11_layFits_27 : decode cX11_layFits 27 = .ok (.iadd, 1) := by decide +kernel
theorem dX11_layFits_28 : decode cX11_layFits 28 = .ok (.aload_n 0, 1) := by decide +kernel
theorem dX11_layFits_29 : decode cX11_layFits 29 = .ok (.iload_n 2, 1) := by decide +kernel
theorem dX11_layFits_30 : decode cX11_layFits 30 = .ok (.iload_n 3, 1) := by decide +kernel
theorem dX11_layFits_31 : decode cX11_layFits 31 = .ok (.invokevirtual 388, 3) := by decide +kernel
theorem dX11_layFits_34 : decode cX11_layFits 34 = .ok (.bastore, 1) := by decide +kernel
theorem dX11_layFits_35 : decode cX11_layFits 35 = .ok (.iload_n 1, 1) := by decide +kernel
theorem dX11_layFits_36 : decode cX11_layFits 36 = .ok (.aload_n 0, 1) := by decide +kernel
theorem dX11_layFits_37 : decode cX11_layFits 37 = .ok (.getfield 51, 3) := by decide +kernel
theorem dX11_layFits_40 : decode cX11_layFits 40 = .ok (.bipush 8, 2) := by decide +kernel
theorem dX11_layFits_42 : decode cX11_layFits 42 = .ok (.iload_n 2, 1) := by decide +kernel
theorem dX11_layFits_43 : decode cX11_layFits 43 = .ok (.imul, 1) := by decide +kernel
theorem dX11_layFits_44 : decode cX11_layFits 44 = .ok (.iload_n 3, 1) := by decide +kernel
theorem dX11_layFits_45 : decode cX11_layFits 45 = .ok (.iadd, 1) := by decide +kernel
theorem dX11_layFits_46 : decode cX11_layFits 46 = .ok (.baload, 1) := by decide +kernel
theorem dX11_layFits_47 : decode cX11_layFits 47 = .ok (.ifCond .eq 7, 3) := by decide +kernel
theorem dX11_layFits_50 : decode cX11_layFits 50 = .ok (.iconst 1, 1) := by decide +kernel
theorem dX11_layFits_51 : decode cX11_layFits 51 = .ok (.goto 4, 3) := by decide +kernel
theorem dX11_layFits_54 : decode cX11_layFits 54 = .ok (.iconst 0, 1) := by decide +kernel
theorem dX11_layFits_55 : decode cX11_layFits 55 = .ok (.iadd, 1) := by decide +kernel
theorem dX11_layFits_56 : decode cX11_layFits 56 = .ok (.istore_n 1, 1) := by decide +kernel
theorem dX11_layFits_57 : decode cX11_layFits 57 = .ok (.iinc 3 1, 3) := by decide +kernel
theorem dX11_layFits_60 : decode cX11_layFits 60 = .ok (.goto (-48), 3) := by decide +kernel
theorem dX11_layFits_63 : decode cX11_layFits 63 = .ok (.iinc 2 1, 3) := by decide +kernel
theorem dX11_layFits_66 : decode cX11_layFits 66 = .ok (.goto (-62), 3) := by decide +kernel
theorem dX11_layFits_69 : decode cX11_layFits 69 = .ok (.iload_n 1, 1) := by decide +kernel
theorem dX11_layFits_70 : decode cX11_layFits 70 = .ok (.ireturn, 1) := by decide +kernel
def fX11_layFits_J55 (k12 : AH → Nat → Int32 → Int32 → Int32 → Option (Int32 × AH)) (h : AH) (v0 : Nat) (v2 : Int32) (v3 : Int32) (s0 : Int32) (s1 : Int32) : Option (Int32 × AH) :=
    letF (s1 + s0 : Int32) fun x1 =>
    letF (v3 + 1 : Int32) fun x2 =>
    k12 h v0 x1 v2 x2
def fX11_layFits_L12 (k63 : AH → Nat → Int32 → Int32 → Option (Int32 × AH)) : Nat → AH → Nat → Int32 → Int32 → Int32 → Option (Int32 × AH)
  | 0, _, _, _, _, _ => none
  | n + 1, h, v0, v1, v2, v3 =>
    if 8 ≤ v3 then (
      k63 h v0 v1 v2
    ) else (
      (gR h 11 v0 27).bind fun x3 =>
      (fX11_isFitting h v0 v2 v3).bind fun q4 =>
      (sI h 4 x3 ((8 * v2) + v3) (b2i q4)).bind fun h5 =>
      (gR h5 11 v0 27).bind fun x6 =>
      (aZ h5 x6 ((8 * v2) + v3)).bind fun x7 =>
      if x7 = true then (
        fX11_layFits_J55 (fX11_layFits_L12 k63 n) h5 v0 v2 v3 1 v1
      ) else (
        fX11_layFits_J55 (fX11_layFits_L12 k63 n) h5 v0 v2 v3 0 v1
      )
    )
def fX11_layFits_L4 : Nat → AH → Nat → Int32 → Int32 → Option (Int32 × AH)
  | 0, _, _, _, _ => none
  | n + 1, h, v0, v1, v2 =>
    if 24 ≤ v2 then (
      some ((v1, h))
    ) else (
      fX11_layFits_L12
        (fun h11 x8 x9 x10 =>
          letF (x10 + 1 : Int32) fun x12 =>
          fX11_layFits_L4 n h11 x8 x9 x12)
        FU h v0 v1 v2 0
    )
def fX11_layFits (h : AH) (a0 : Nat) : Option (Int32 × AH) :=
  if hasC h 11 a0 = true then (
    fX11_layFits_L4 FU h a0 0 0
  ) else none
set_option maxHeartbeats 4000000 in
theorem gX11_layFits_J55 {Y : YT} {X : XT} (C : CT Y X RX11 cX11_layFits 4) (O : RO X 7 0 0) {r : Int32 × AH} (E : RX Y X (some .int) (some (.int r.1)) r.2 0 0) {k12 : AH → Nat → Int32 → Int32 → Int32 → Option (Int32 × AH)} (hk12 : ∀ (h : AH) (v0 : Nat) (v1 : Int32) (v2 : Int32) (v3 : Int32), GO Y X 4 r h 0 0 12 [(0, .ref v0), (1, .int v1), (2, .int v2), (3, .int v3)] [] (k12 h v0 v1 v2 v3)) : ∀ (h : AH) (v0 : Nat) (v2 : Int32) (v3 : Int32) (s0 : Int32) (s1 : Int32), GO Y X 4 r h 0 0 55 [(0, .ref v0), (2, .int v2), (3, .int v3)] [.int s0, .int s1] (fX11_layFits_J55 k12 h v0 v2 v3 s0 s1) := by
  intro h v0 v2 v3 s0 s1
  unfold fX11_layFits_J55
  refine go_iadd (pc := 55) C dX11_layFits_55 ?_
  refine go_istore_nL (pc := 56) C dX11_layFits_56 (by decide) (fun x1 => [(1, .int x1), (0, .ref v0), (2, .int v2), (3, .int v3)]) (fun _ => rfl) (fun x1 => ?_)
  refine go_iincL (pc := 57) C 3 dX11_layFits_57 rfl ki_1 (by decide) (fun x2 => [(3, .int x2), (1, .int x1), (0, .ref v0), (2, .int v2)]) (fun _ => rfl) (fun x2 => ?_)
  refine go_goto (pc := 60) C 12 dX11_layFits_60 (by decide) ?_
  refine go_sub (ls' := [(0, .ref v0), (1, .int x1), (2, .int v2), (3, .int x2)]) [2, 1, 3, 0] rfl ?_
  exact hk12 h v0 x1 v2 x2
set_option maxHeartbeats 4000000 in
theorem gX11_layFits_L12 {Y : YT} {X : XT} (C : CT Y X RX11 cX11_layFits 4) (O : RO X 7 0 0) {r : Int32 × AH} (E : RX Y X (some .int) (some (.int r.1)) r.2 0 0) {k63 : AH → Nat → Int32 → Int32 → Option (Int32 × AH)} (hk63 : ∀ (h : AH) (v0 : Nat) (v1 : Int32) (v2 : Int32), GO Y X 4 r h 0 0 63 [(0, .ref v0), (1, .int v1), (2, .int v2)] [] (k63 h v0 v1 v2)) : ∀ (n : Nat) (h : AH) (v0 : Nat) (v1 : Int32) (v2 : Int32) (v3 : Int32), GO Y X 4 r h 0 0 12 [(0, .ref v0), (1, .int v1), (2, .int v2), (3, .int v3)] [] (fX11_layFits_L12 k63 n h v0 v1 v2 v3) := by
  intro n
  induction n with
  | zero => intros; exact go_none _ _ _
  | succ n ih =>
    intro h v0 v1 v2 v3
    rw [fX11_layFits_L12]
    refine go_iload_n (pc := 12) C 3 dX11_layFits_12 rfl ?_
    refine go_bipush (pc := 13) C dX11_layFits_13 kb_8 ?_
    refine go_icmp_ge (pc := 15) C 63 dX11_layFits_15 (by decide) (fun _ => ?_) (fun _ => ?_)
    · refine go_sub (ls' := [(0, .ref v0), (1, .int v1), (2, .int v2)]) [0, 1, 2] rfl ?_
      exact hk63 h v0 v1 v2
    · refine go_aload_n (pc := 18) C 0 dX11_layFits_18 rfl ?_
      refine go_gR (pc := 19) C fdX11_51 dX11_layFits_19 (fun x3 => ?_)
      refine go_bipush (pc := 22) C dX11_layFits_22 kb_8 ?_
      refine go_iload_n (pc := 24) C 2 dX11_layFits_24 rfl ?_
      refine go_imul (pc := 25) C dX11_layFits_25 ?_
      refine go_iload_n (pc := 26) C 3 dX11_layFits_26 rfl ?_
      refine go_iadd (pc := 27) C dX11_layFits_27 ?_
      refine go_aload_n (pc := 28) C 0 dX11_layFits_28 rfl ?_
      refine go_iload_n (pc := 29) C 2 dX11_layFits_29 rfl ?_
      refine go_iload_n (pc := 30) C 3 dX11_layFits_30 rfl ?_
      refine go_bind (fun q4 hq4 => ?_)
      refine go_callV (rest := [.int ((8 * v2) + v3), .ref x3]) (st' := [.int (b2i q4), .int ((8 * v2) + v3), .ref x3]) (c' := 0) (s' := 0) (pc := 31) C O miX11_388 mvX11_isFitting [.int v2, .int v3] rfl (mX11_isFitting hq4).1 (mX11_isFitting hq4).2 dX11_layFits_31 ⟨by decide, by decide, by decide, by decide⟩ rfl (Nat.le_of_ble_eq_true rfl) rfl ⟨rfl, rfl⟩ ?_
      refine go_zast (pc := 34) C dX11_layFits_34 (fun h5 => ?_)
      refine go_iload_n (pc := 35) C 1 dX11_layFits_35 rfl ?_
      refine go_aload_n (pc := 36) C 0 dX11_layFits_36 rfl ?_
      refine go_gR (pc := 37) C fdX11_51 dX11_layFits_37 (fun x6 => ?_)
      refine go_bipush (pc := 40) C dX11_layFits_40 kb_8 ?_
      refine go_iload_n (pc := 42) C 2 dX11_layFits_42 rfl ?_
      refine go_imul (pc := 43) C dX11_layFits_43 ?_
      refine go_iload_n (pc := 44) C 3 dX11_layFits_44 rfl ?_
      refine go_iadd (pc := 45) C dX11_layFits_45 ?_
      refine go_zald (pc := 46) C dX11_layFits_46 (fun x7 => ?_)
      refine go_ifZ_eq (pc := 47) C 54 dX11_layFits_47 (by decide) (fun _ => ?_) (fun _ => ?_)
      · refine go_iconst (pc := 50) C dX11_layFits_50 ki_1 ?_
        refine go_goto (pc := 51) C 55 dX11_layFits_51 (by decide) ?_
        refine go_sub (ls' := [(0, .ref v0), (2, .int v2), (3, .int v3)]) [0, 2, 3] rfl ?_
        refine gX11_layFits_J55 C O E (ih) h5 v0 v2 v3 1 v1
      · refine go_iconst (pc := 54) C dX11_layFits_54 ki_0 ?_
        refine go_sub (ls' := [(0, .ref v0), (2, .int v2), (3, .int v3)]) [0, 2, 3] rfl ?_
        refine gX11_layFits_J55 C O E (ih) h5 v0 v2 v3 0 v1
set_option maxHeartbeats 4000000 in
theorem gX11_layFits_L4 {Y : YT} {X : XT} (C : CT Y X RX11 cX11_layFits 4) (O : RO X 7 0 0) {r : Int32 × AH} (E : RX Y X (some .int) (some (.int r.1)) r.2 0 0) : ∀ (n : Nat) (h : AH) (v0 : Nat) (v1 : Int32) (v2 : Int32), GO Y X 4 r h 0 0 4 [(0, .ref v0), (1, .int v1), (2, .int v2)] [] (fX11_layFits_L4 n h v0 v1 v2) := by
  intro n
  induction n with
  | zero => intros; exact go_none _ _ _
  | succ n ih =>
    intro h v0 v1 v2
    rw [fX11_layFits_L4]
    refine go_iload_n (pc := 4) C 2 dX11_layFits_4 rfl ?_
    refine go_bipush (pc := 5) C dX11_layFits_5 kb_24 ?_
    refine go_icmp_ge (pc := 7) C 69 dX11_layFits_7 (by decide) (fun _ => ?_) (fun _ => ?_)
    · refine go_iload_n (pc := 69) C 1 dX11_layFits_69 rfl ?_
      exact go_iret (w := wIh) (pc := 70) C E ((v1, h)) v1 dX11_layFits_70 rfl
    · refine go_iconst (pc := 10) C dX11_layFits_10 ki_0 ?_
      refine go_istore_n (ls' := [(3, .int 0), (0, .ref v0), (1, .int v1), (2, .int v2)]) (pc := 11) C dX11_layFits_11 (by decide) rfl ?_
      refine go_sub (ls' := [(0, .ref v0), (1, .int v1), (2, .int v2), (3, .int 0)]) [1, 2, 3, 0] rfl ?_
      refine gX11_layFits_L12 C O E (fun h11 x8 x9 x10 => ?_) FU h v0 v1 v2 0
      · refine go_iincL (pc := 63) C 2 dX11_layFits_63 rfl ki_1 (by decide) (fun x12 => [(2, .int x12), (0, .ref x8), (1, .int x9)]) (fun _ => rfl) (fun x12 => ?_)
        refine go_goto (pc := 66) C 4 dX11_layFits_66 (by decide) ?_
        refine go_sub (ls' := [(0, .ref x8), (1, .int x9), (2, .int x12)]) [1, 2, 0] rfl ?_
        exact ih h11 x8 x9 x12
set_option maxHeartbeats 4000000 in
theorem mX11_layFits {h : AH} {a0 : Nat} {r : Int32 × AH} (hr : fX11_layFits h a0 = some r) : hasC h 11 a0 = true ∧ MC yX11_layFits cX11_layFits 4 (some .int) 7 0 0 [.ref a0] h (some (.int r.1)) r.2 := by
  unfold fX11_layFits at hr
  obtain ⟨hc, hr⟩ := if_some hr
  refine ⟨hc, mc_of (l0 := [(0, .ref a0)]) rfl pn_X11 (Nat.le_of_ble_eq_true rfl) (fun Y X C E O hnm => go_run hr ?_)⟩
  have C : CT Y X RX11 cX11_layFits 4 := C
  refine go_iconst (pc := 0) C dX11_layFits_0 ki_0 ?_
  refine go_istore_n (ls' := [(1, .int 0), (0, .ref a0)]) (pc := 1) C dX11_layFits_1 (by decide) rfl ?_
  refine go_iconst (pc := 2) C dX11_layFits_2 ki_0 ?_
  refine go_istore_n (ls' := [(2, .int 0), (1, .int 0), (0, .ref a0)]) (pc := 3) C dX11_layFits_3 (by decide) rfl ?_
  refine go_sub (ls' := [(0, .ref a0), (1, .int 0), (2, .int 0)]) [2, 1, 0] rfl ?_
  refine gX11_layFits_L4 C O E FU h a0 0 0
