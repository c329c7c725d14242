/-! walks, by program: X11_sumOf X11_count X11_row -/
theorem dX11_sumOf_0 : decode cX11_sumOf 0 = .ok (.iconst 0, 1) := by decide +kernel
theorem dX11_sumOf_1 : decode cX11_sumOf 1 = .ok (.istore 4, 2) := by decide +kernel
theorem dX11_sumOf_3 : decode cX11_sumOf 3 = .ok (.iconst 0, 1) := by decide +kernel
theorem dX11_sumOf_4 : decode cX11_sumOf 4 = .ok (.istore 5, 2) := by decide +kernel
theorem dX11_sumOf_6 : decode cX11_sumOf 6 = .ok (.iload 5, 2) := by decide +kernel
theorem dX11_sumOf_8 : decode cX11_sumOf 8 = .ok (.iload_n 2, 1) := by decide +kernel
theorem dX11_sumOf_9 : decode cX11_sumOf 9 = .ok (.if_icmp .ge 42, 3) := by decide +kernel
theorem dX11_sumOf_12 : decode cX11_sumOf 12 = .ok (.iload 4, 2) := by decide +kernel
theorem dX11_sumOf_14 : decode cX11_sumOf 14 = .ok (.iload_n 3, 1) := by decide +kernel
theorem dX11_sumOf_15 : decode cX11_sumOf 15 = .ok (.ifCond .eq 18, 3) := by decide +kernel
theorem dX11_sumOf_18 : decode cX11_sumOf 18 = .ok (.aload_n 0, 1) := by decide +kernel
theorem dX11_sumOf_19 : decode cX11_sumOf 19 = .ok (.getfield 9, 3) := by decide +kernel
theorem dX11_sumOf_22 : decode cX11_sumOf 22 = .ok (.iload_n 1, 1) := by decide +kernel
theorem dX11_sumOf_23 : decode cX11_sumOf 23 = .ok (.iload 5, 2) := by decide +kernel
theorem dX11_sumOf_25 : decode cX11_sumOf 25 = .ok (.iadd, 1) := by decide +kernel
theorem dX11_sumOf_26 : decode cX11_sumOf 26 = .ok (.iaload, 1) := by decide +kernel
theorem dX11_sumOf_27 : decode cX11_sumOf 27 = .ok (.invokestatic 100, 3) := by decide +kernel
theorem dX11_sumOf_30 : decode cX11_sumOf 30 = .ok (.goto 12, 3) := by decide +kernel
theorem dX11_sumOf_33 : decode cX11_sumOf 33 = .ok (.aload_n 0, 1) := by decide +kernel
theorem dX11_sumOf_34 : decode cX11_sumOf 34 = .ok (.getfield 9, 3) := by decide +kernel
theorem dX11_sumOf_37 : decode cX11_sumOf 37 = .ok (.iload_n 1, 1) := by decide +kernel
theorem dX11_sumOf_38 : decode cX11_sumOf 38 = .ok (.iload 5, 2) := by decide +kernel
theorem dX11_sumOf_40 : decode cX11_sumOf 40 = .ok (.iadd, 1) := by decide +kernel
theorem dX11_sumOf_41 : decode cX11_sumOf 41 = .ok (.iaload, 1) := by decide +kernel
theorem dX11_sumOf_42 : decode cX11_sumOf 42 = .ok (.iadd, 1) := by decide +kernel
theorem dX11_sumOf_43 : decode cX11_sumOf 43 = .ok (.istore 4, 2) := by decide +kernel
theorem dX11_sumOf_45 : decode cX11_sumOf 45 = .ok (.iinc 5 1, 3) := by decide +kernel
theorem dX11_sumOf_48 : decode cX11_sumOf 48 = .ok (.goto (-42), 3) := by decide +kernel
theorem dX11_sumOf_51 : decode cX11_sumOf 51 = .ok (.iload 4, 2) := by decide +kernel
theorem dX11_sumOf_53 : decode cX11_sumOf 53 = .ok (.ireturn, 1) := by decide +kernel
def fX11_sumOf_J42 (h : AH) (k6 : Nat → Int32 → Int32 → Bool → Int32 → Int32 → Option (Int32)) (v0 : Nat) (v1 : Int32) (v2 : Int32) (v3 : Bool) (v5 : Int32) (s0 : Int32) (s1 : Int32) : Option (Int32) :=
    letF (s1 + s0 : Int32) fun x1 =>
    letF (v5 + 1 : Int32) fun x2 =>
    k6 v0 v1 v2 v3 x1 x2
def fX11_sumOf_L6 (h : AH) : Nat → Nat → Int32 → Int32 → Bool → Int32 → Int32 → Option (Int32)
  | 0, _, _, _, _, _, _ => none
  | n + 1, v0, v1, v2, v3, v4, v5 =>
    if v2 ≤ v5 then (
      some v4
    ) else (
      if v3 = true then (
        (gR h 11 v0 0).bind fun x3 =>
        (aI h 0 x3 (v1 + v5)).bind fun x4 =>
        (fJ6_bitCount_0f7a4 h x4).bind fun q5 =>
        fX11_sumOf_J42 h (fX11_sumOf_L6 h n) v0 v1 v2 v3 v5 q5 v4
      ) else (
        (gR h 11 v0 0).bind fun x6 =>
        (aI h 0 x6 (v1 + v5)).bind fun x7 =>
        fX11_sumOf_J42 h (fX11_sumOf_L6 h n) v0 v1 v2 v3 v5 x7 v4
      )
    )
def fX11_sumOf (h : AH) (a0 : Nat) (a1 : Int32) (a2 : Int32) (a3 : Bool) : Option (Int32) :=
  if hasC h 11 a0 = true then (
    fX11_sumOf_L6 h FU a0 a1 a2 a3 0 0
  ) else none
set_option maxHeartbeats 4000000 in
theorem gX11_sumOf_J42 {Y : YT} {X : XT} (C : CT Y X RX11 cX11_sumOf 6) (O : RO X 2 0 0) {h : AH} {r : Int32} (E : RX Y X (some .int) (some (.int r)) h 0 0) {k6 : Nat → Int32 → Int32 → Bool → Int32 → Int32 → Option (Int32)} (hk6 : ∀ (v0 : Nat) (v1 : Int32) (v2 : Int32) (v3 : Bool) (v4 : Int32) (v5 : Int32), GO Y X 6 r h 0 0 6 [(0, .ref v0), (1, .int v1), (2, .int v2), (3, .int (b2i v3)), (4, .int v4), (5, .int v5)] [] (k6 v0 v1 v2 v3 v4 v5)) : ∀ (v0 : Nat) (v1 : Int32) (v2 : Int32) (v3 : Bool) (v5 : Int32) (s0 : Int32) (s1 : Int32), GO Y X 6 r h 0 0 42 [(0, .ref v0), (1, .int v1), (2, .int v2), (3, .int (b2i v3)), (5, .int v5)] [.int s0, .int s1] (fX11_sumOf_J42 h k6 v0 v1 v2 v3 v5 s0 s1) := by
  intro v0 v1 v2 v3 v5 s0 s1
  unfold fX11_sumOf_J42
  refine go_iadd (pc := 42) C dX11_sumOf_42 ?_
  refine go_istoreL (pc := 43) C dX11_sumOf_43 (by decide) (fun x1 => [(4, .int x1), (0, .ref v0), (1, .int v1), (2, .int v2), (3, .int (b2i v3)), (5, .int v5)]) (fun _ => rfl) (fun x1 => ?_)
  refine go_iincL (pc := 45) C 5 dX11_sumOf_45 rfl ki_1 (by decide) (fun x2 => [(5, .int x2), (4, .int x1), (0, .ref v0), (1, .int v1), (2, .int v2), (3, .int (b2i v3))]) (fun _ => rfl) (fun x2 => ?_)
  refine go_goto (pc := 48) C 6 dX11_sumOf_48 (by decide) ?_
  refine go_sub (ls' := [(0, .ref v0), (1, .int v1), (2, .int v2), (3, .int (b2i v3)), (4, .int x1), (5, .int x2)]) [2, 3, 4, 5, 1, 0] rfl ?_
  exact hk6 v0 v1 v2 v3 x1 x2
set_option maxHeartbeats 4000000 in
theorem gX11_sumOf_L6 {Y : YT} {X : XT} (C : CT Y X RX11 cX11_sumOf 6) (O : RO X 2 0 0) {h : AH} {r : Int32} (E : RX Y X (some .int) (some (.int r)) h 0 0) : ∀ (n : Nat) (v0 : Nat) (v1 : Int32) (v2 : Int32) (v3 : Bool) (v4 : Int32) (v5 : Int32), GO Y X 6 r h 0 0 6 [(0, .ref v0), (1, .int v1), (2, .int v2), (3, .int (b2i v3)), (4, .int v4), (5, .int v5)] [] (fX11_sumOf_L6 h n v0 v1 v2 v3 v4 v5) := by
  intro n
  induction n with
  | zero => intros; exact go_none _ _ _
  | succ n ih =>
    intro v0 v1 v2 v3 v4 v5
    rw [fX11_sumOf_L6]
    refine go_iload (pc := 6) C 5 dX11_sumOf_6 rfl ?_
    refine go_iload_n (pc := 8) C 2 dX11_sumOf_8 rfl ?_
    refine go_icmp_ge (pc := 9) C 51 dX11_sumOf_9 (by decide) (fun _ => ?_) (fun _ => ?_)
    · refine go_iload (pc := 51) C 4 dX11_sumOf_51 rfl ?_
      exact go_iret (w := (wI h)) (pc := 53) C E v4 v4 dX11_sumOf_53 rfl
    · refine go_iload (pc := 12) C 4 dX11_sumOf_12 rfl ?_
      refine go_iload_n (pc := 14) C 3 dX11_sumOf_14 rfl ?_
      refine go_ifZ_eq (pc := 15) C 33 dX11_sumOf_15 (by decide) (fun _ => ?_) (fun _ => ?_)
      · refine go_aload_n (pc := 18) C 0 dX11_sumOf_18 rfl ?_
        refine go_gR (pc := 19) C fdX11_9 dX11_sumOf_19 (fun x3 => ?_)
        refine go_iload_n (pc := 22) C 1 dX11_sumOf_22 rfl ?_
        refine go_iload (pc := 23) C 5 dX11_sumOf_23 rfl ?_
        refine go_iadd (pc := 25) C dX11_sumOf_25 ?_
        refine go_iald (pc := 26) C dX11_sumOf_26 (fun x4 => ?_)
        refine go_bind (fun q5 hq5 => ?_)
        refine go_callS (rest := [.int v4]) (st' := [.int q5, .int v4]) (c' := 0) (s' := 0) (pc := 27) C O miX11_100 w_397 [.int x4] rfl (mJ6_bitCount_0f7a4 hq5) dX11_sumOf_27 ⟨by decide, by decide, by decide, by decide⟩ rfl (Nat.le_of_ble_eq_true rfl) rfl ⟨rfl, rfl⟩ ?_
        refine go_goto (pc := 30) C 42 dX11_sumOf_30 (by decide) ?_
        refine go_sub (ls' := [(0, .ref v0), (1, .int v1), (2, .int v2), (3, .int (b2i v3)), (5, .int v5)]) [0, 1, 2, 3, 5] rfl ?_
        refine gX11_sumOf_J42 C O E (ih) v0 v1 v2 v3 v5 q5 v4
      · refine go_aload_n (pc := 33) C 0 dX11_sumOf_33 rfl ?_
        refine go_gR (pc := 34) C fdX11_9 dX11_sumOf_34 (fun x6 => ?_)
        refine go_iload_n (pc := 37) C 1 dX11_sumOf_37 rfl ?_
        refine go_iload (pc := 38) C 5 dX11_sumOf_38 rfl ?_
        refine go_iadd (pc := 40) C dX11_sumOf_40 ?_
        refine go_iald (pc := 41) C dX11_sumOf_41 (fun x7 => ?_)
        refine go_sub (ls' := [(0, .ref v0), (1, .int v1), (2, .int v2), (3, .int (b2i v3)), (5, .int v5)]) [0, 1, 2, 3, 5] rfl ?_
        refine gX11_sumOf_J42 C O E (ih) v0 v1 v2 v3 v5 x7 v4
set_option maxHeartbeats 4000000 in
theorem mX11_sumOf {h : AH} {a0 : Nat} {a1 : Int32} {a2 : Int32} {a3 : Bool} {r : Int32} (hr : fX11_sumOf h a0 a1 a2 a3 = some r) : hasC h 11 a0 = true ∧ MC yX11_sumOf cX11_sumOf 6 (some .int) 2 0 0 [.ref a0, .int a1, .int a2, .int (b2i a3)] h (some (.int r)) h := by
  unfold fX11_sumOf at hr
  obtain ⟨hc, hr⟩ := if_some hr
  refine ⟨hc, mc_of (l0 := [(0, .ref a0), (1, .int a1), (2, .int a2), (3, .int (b2i a3))]) rfl pn_X11 (Nat.le_of_ble_eq_true rfl) (fun Y X C E O hnm => go_run hr ?_)⟩
  have C : CT Y X RX11 cX11_sumOf 6 := C
  refine go_iconst (pc := 0) C dX11_sumOf_0 ki_0 ?_
  refine go_istore (ls' := [(4, .int 0), (0, .ref a0), (1, .int a1), (2, .int a2), (3, .int (b2i a3))]) (pc := 1) C dX11_sumOf_1 (by decide) rfl ?_
  refine go_iconst (pc := 3) C dX11_sumOf_3 ki_0 ?_
  refine go_istore (ls' := [(5, .int 0), (4, .int 0), (0, .ref a0), (1, .int a1), (2, .int a2), (3, .int (b2i a3))]) (pc := 4) C dX11_sumOf_4 (by decide) rfl ?_
  refine go_sub (ls' := [(0, .ref a0), (1, .int a1), (2, .int a2), (3, .int (b2i a3)), (4, .int 0), (5, .int 0)]) [2, 3, 4, 5, 1, 0] rfl ?_
  refine gX11_sumOf_L6 C O E FU a0 a1 a2 a3 0 0
theorem dX11_count_0 : decode cX11_count 0 = .ok (.aload_n 0, 1) := by decide +kernel
theorem dX11_count_1 : decode cX11_count 1 = .ok (.iconst 0, 1) := by decide +kernel
theorem dX11_count_2 : decode cX11_count 2 = .ok (.putfield 77, 3) := by decide +kernel
theorem dX11_count_5 : decode cX11_count 5 = .ok (.iload_n 1, 1) := by decide +kernel
theorem dX11_count_6 : decode cX11_count 6 = .ok (.tableswitch 138 0 10 #[58, 66, 74, 82, 91, 102, 113, 118, 123, 128, 133], 58) := by decide +kernel
theorem dX11_count_64 : decode cX11_count 64 = .ok (.aload_n 0, 1) := by decide +kernel
theorem dX11_count_65 : decode cX11_count 65 = .ok (.getfield 9, 3) := by decide +kernel
theorem dX11_count_68 : decode cX11_count 68 = .ok (.invokestatic 369, 3) := by decide +kernel
theorem dX11_count_71 : decode cX11_count 71 = .ok (.ireturn, 1) := by decide +kernel
theorem dX11_count_72 : decode cX11_count 72 = .ok (.aload_n 0, 1) := by decide +kernel
theorem dX11_count_73 : decode cX11_count 73 = .ok (.getfield 9, 3) := by decide +kernel
theorem dX11_count_76 : decode cX11_count 76 = .ok (.invokestatic 224, 3) := by decide +kernel
theorem dX11_count_79 : decode cX11_count 79 = .ok (.ireturn, 1) := by decide +kernel
theorem dX11_count_80 : decode cX11_count 80 = .ok (.aload_n 0, 1) := by decide +kernel
theorem dX11_count_81 : decode cX11_count 81 = .ok (.getfield 9, 3) := by decide +kernel
theorem dX11_count_84 : decode cX11_count 84 = .ok (.invokestatic 181, 3) := by decide +kernel
theorem dX11_count_87 : decode cX11_count 87 = .ok (.ireturn, 1) := by decide +kernel
theorem dX11_count_88 : decode cX11_count 88 = .ok (.aload_n 0, 1) := by decide +kernel
theorem dX11_count_89 : decode cX11_count 89 = .ok (.getfield 9, 3) := by decide +kernel
theorem dX11_count_92 : decode cX11_count 92 = .ok (.sipush 324, 3) := by decide +kernel
theorem dX11_count_95 : decode cX11_count 95 = .ok (.iaload, 1) := by decide +kernel
theorem dX11_count_96 : decode cX11_count 96 = .ok (.ireturn, 1) := by decide +kernel
theorem dX11_count_97 : decode cX11_count 97 = .ok (.aload_n 0, 1) := by decide +kernel
theorem dX11_count_98 : decode cX11_count 98 = .ok (.sipush 318, 3) := by decide +kernel
theorem dX11_count_101 : decode cX11_count 101 = .ok (.bipush 6, 2) := by decide +kernel
theorem dX11_count_103 : decode cX11_count 103 = .ok (.iconst 0, 1) := by decide +kernel
theorem dX11_count_104 : decode cX11_count 104 = .ok (.invokevirtual 423, 3) := by decide +kernel
theorem dX11_count_107 : decode cX11_count 107 = .ok (.ireturn, 1) := by decide +kernel
theorem dX11_count_108 : decode cX11_count 108 = .ok (.aload_n 0, 1) := by decide +kernel
theorem dX11_count_109 : decode cX11_count 109 = .ok (.sipush 288, 3) := by decide +kernel
theorem dX11_count_112 : decode cX11_count 112 = .ok (.bipush 24, 2) := by decide +kernel
theorem dX11_count_114 : decode cX11_count 114 = .ok (.iconst 1, 1) := by decide +kernel
theorem dX11_count_115 : decode cX11_count 115 = .ok (.invokevirtual 423, 3) := by decide +kernel
theorem dX11_count_118 : decode cX11_count 118 = .ok (.ireturn, 1) := by decide +kernel
theorem dX11_count_119 : decode cX11_count 119 = .ok (.aload_n 0, 1) := by decide +kernel
theorem dX11_count_120 : decode cX11_count 120 = .ok (.getfield 381, 3) := by decide +kernel
theorem dX11_count_123 : decode cX11_count 123 = .ok (.ireturn, 1) := by decide +kernel
theorem dX11_count_124 : decode cX11_count 124 = .ok (.aload_n 0, 1) := by decide +kernel
theorem dX11_count_125 : decode cX11_count 125 = .ok (.getfield 395, 3) := by decide +kernel
theorem dX11_count_128 : decode cX11_count 128 = .ok (.ireturn, 1) := by decide +kernel
theorem dX11_count_129 : decode cX11_count 129 = .ok (.aload_n 0, 1) := by decide +kernel
theorem dX11_count_130 : decode cX11_count 130 = .ok (.getfield 252, 3) := by decide +kernel
theorem dX11_count_133 : decode cX11_count 133 = .ok (.ireturn, 1) := by decide +kernel
theorem dX11_count_134 : decode cX11_count 134 = .ok (.aload_n 0, 1) := by decide +kernel
theorem dX11_count_135 : decode cX11_count 135 = .ok (.getfield 81, 3) := by decide +kernel
theorem dX11_count_138 : decode cX11_count 138 = .ok (.ireturn, 1) := by decide +kernel
theorem dX11_count_139 : decode cX11_count 139 = .ok (.aload_n 0, 1) := by decide +kernel
theorem dX11_count_140 : decode cX11_count 140 = .ok (.getfield 123, 3) := by decide +kernel
theorem dX11_count_143 : decode cX11_count 143 = .ok (.ireturn, 1) := by decide +kernel
theorem dX11_count_144 : decode cX11_count 144 = .ok (.iconst (-1), 1) := by decide +kernel
theorem dX11_count_145 : decode cX11_count 145 = .ok (.ireturn, 1) := by decide +kernel
def fX11_count (h : AH) (a0 : Nat) (a1 : Int32) : Option (Int32 × AH) :=
  if hasC h 11 a0 = true then (
    (pF h 11 a0 5 (.int 0)).bind fun h1 =>
    if a1 = 0 then (
      (gR h1 11 a0 0).bind fun x3 =>
      (fX11_spacesOf h1 x3).bind fun q4 =>
      some ((q4, h1))
    ) else (
      if a1 = 1 then (
        (gR h1 11 a0 0).bind fun x6 =>
        (fX11_objectsOf h1 x6).bind fun q7 =>
        some ((q7, h1))
      ) else (
        if a1 = 2 then (
          (gR h1 11 a0 0).bind fun x9 =>
          (fX11_framesOf h1 x9).bind fun q10 =>
          some ((q10, h1))
        ) else (
          if a1 = 3 then (
            (gR h1 11 a0 0).bind fun x12 =>
            (aI h1 0 x12 324).bind fun x13 =>
            some ((x13, h1))
          ) else (
            if a1 = 4 then (
              (fX11_sumOf h1 a0 318 6 false).bind fun q15 =>
              some ((q15, h1))
            ) else (
              if a1 = 5 then (
                (fX11_sumOf h1 a0 288 24 true).bind fun q17 =>
                some ((q17, h1))
              ) else (
                if a1 = 6 then (
                  (gI h1 11 a0 26).bind fun x19 =>
                  some ((x19, h1))
                ) else (
                  if a1 = 7 then (
                    (gI h1 11 a0 31).bind fun x21 =>
                    some ((x21, h1))
                  ) else (
                    if a1 = 8 then (
                      (gI h1 11 a0 18).bind fun x23 =>
                      some ((x23, h1))
                    ) else (
                      if a1 = 9 then (
                        (gI h1 11 a0 4).bind fun x25 =>
                        some ((x25, h1))
                      ) else (
                        if a1 = 10 then (
                          (gI h1 11 a0 2).bind fun x27 =>
                          some ((x27, h1))
                        ) else (
                          some (((-1), h1)))))))))))))
  ) else none
set_option maxHeartbeats 4000000 in
theorem mX11_count {h : AH} {a0 : Nat} {a1 : Int32} {r : Int32 × AH} (hr : fX11_count h a0 a1 = some r) : hasC h 11 a0 = true ∧ MC yX11_count cX11_count 2 (some .int) 4 0 0 [.ref a0, .int a1] h (some (.int r.1)) r.2 := by
  unfold fX11_count at hr
  obtain ⟨hc, hr⟩ := if_some hr
  refine ⟨hc, mc_of (l0 := [(0, .ref a0), (1, .int a1)]) rfl pn_X11 (Nat.le_of_ble_eq_true rfl) (fun Y X C E O hnm => go_run hr ?_)⟩
  have C : CT Y X RX11 cX11_count 2 := C
  refine go_aload_n (pc := 0) C 0 dX11_count_0 rfl ?_
  refine go_iconst (pc := 1) C dX11_count_1 ki_0 ?_
  refine go_pI (pc := 2) C fpX11_77 dX11_count_2 (fun h1 => ?_)
  refine go_iload_n (pc := 5) C 1 dX11_count_5 rfl ?_
  refine go_ite (fun hc2 => ?_) (fun hc2 => ?_)
  · refine go_tsw (pc := 6) C 64 0 hc2 dX11_count_6 (by decide) (by decide) rfl (by decide) ?_
    refine go_aload_n (pc := 64) C 0 dX11_count_64 rfl ?_
    refine go_gR (pc := 65) C fdX11_9 dX11_count_65 (fun x3 => ?_)
    refine go_bind (fun q4 hq4 => ?_)
    refine go_callS (rest := []) (st' := [.int q4]) (c' := 0) (s' := 0) (pc := 68) C O miX11_369 w_1791 [.ref x3] rfl (mX11_spacesOf hq4) dX11_count_68 ⟨by decide, by decide, by decide, by decide⟩ rfl (Nat.le_of_ble_eq_true rfl) rfl ⟨rfl, rfl⟩ ?_
    exact go_iret (w := wIh) (pc := 71) C E ((q4, h1)) q4 dX11_count_71 rfl
  · refine go_ite (fun hc5 => ?_) (fun hc5 => ?_)
    · refine go_tsw (pc := 6) C 72 1 hc5 dX11_count_6 (by decide) (by decide) rfl (by decide) ?_
      refine go_aload_n (pc := 72) C 0 dX11_count_72 rfl ?_
      refine go_gR (pc := 73) C fdX11_9 dX11_count_73 (fun x6 => ?_)
      refine go_bind (fun q7 hq7 => ?_)
      refine go_callS (rest := []) (st' := [.int q7]) (c' := 0) (s' := 0) (pc := 76) C O miX11_224 w_1562 [.ref x6] rfl (mX11_objectsOf hq7) dX11_count_76 ⟨by decide, by decide, by decide, by decide⟩ rfl (Nat.le_of_ble_eq_true rfl) rfl ⟨rfl, rfl⟩ ?_
      exact go_iret (w := wIh) (pc := 79) C E ((q7, h1)) q7 dX11_count_79 rfl
    · refine go_ite (fun hc8 => ?_) (fun hc8 => ?_)
      · refine go_tsw (pc := 6) C 80 2 hc8 dX11_count_6 (by decide) (by decide) rfl (by decide) ?_
        refine go_aload_n (pc := 80) C 0 dX11_count_80 rfl ?_
        refine go_gR (pc := 81) C fdX11_9 dX11_count_81 (fun x9 => ?_)
        refine go_bind (fun q10 hq10 => ?_)
        refine go_callS (rest := []) (st' := [.int q10]) (c' := 0) (s' := 0) (pc := 84) C O miX11_181 w_1488 [.ref x9] rfl (mX11_framesOf hq10) dX11_count_84 ⟨by decide, by decide, by decide, by decide⟩ rfl (Nat.le_of_ble_eq_true rfl) rfl ⟨rfl, rfl⟩ ?_
        exact go_iret (w := wIh) (pc := 87) C E ((q10, h1)) q10 dX11_count_87 rfl
      · refine go_ite (fun hc11 => ?_) (fun hc11 => ?_)
        · refine go_tsw (pc := 6) C 88 3 hc11 dX11_count_6 (by decide) (by decide) rfl (by decide) ?_
          refine go_aload_n (pc := 88) C 0 dX11_count_88 rfl ?_
          refine go_gR (pc := 89) C fdX11_9 dX11_count_89 (fun x12 => ?_)
          refine go_sipush (pc := 92) C dX11_count_92 ks_324 ?_
          refine go_iald (pc := 95) C dX11_count_95 (fun x13 => ?_)
          exact go_iret (w := wIh) (pc := 96) C E ((x13, h1)) x13 dX11_count_96 rfl
        · refine go_ite (fun hc14 => ?_) (fun hc14 => ?_)
          · refine go_tsw (pc := 6) C 97 4 hc14 dX11_count_6 (by decide) (by decide) rfl (by decide) ?_
            refine go_aload_n (pc := 97) C 0 dX11_count_97 rfl ?_
            refine go_sipush (pc := 98) C dX11_count_98 ks_318 ?_
            refine go_bipush (pc := 101) C dX11_count_101 kb_6 ?_
            refine go_iconst (pc := 103) C dX11_count_103 ki_0 ?_
            refine go_bind (fun q15 hq15 => ?_)
            refine go_callV (rest := []) (st' := [.int q15]) (c' := 0) (s' := 0) (pc := 104) C O miX11_423 mvX11_sumOf [.int 318, .int 6, .int (b2i false)] rfl (mX11_sumOf hq15).1 (mX11_sumOf hq15).2 dX11_count_104 ⟨by decide, by decide, by decide, by decide⟩ rfl (Nat.le_of_ble_eq_true rfl) rfl ⟨rfl, rfl⟩ ?_
            exact go_iret (w := wIh) (pc := 107) C E ((q15, h1)) q15 dX11_count_107 rfl
          · refine go_ite (fun hc16 => ?_) (fun hc16 => ?_)
            · refine go_tsw (pc := 6) C 108 5 hc16 dX11_count_6 (by decide) (by decide) rfl (by decide) ?_
              refine go_aload_n (pc := 108) C 0 dX11_count_108 rfl ?_
              refine go_sipush (pc := 109) C dX11_count_109 ks_288 ?_
              refine go_bipush (pc := 112) C dX11_count_112 kb_24 ?_
              refine go_iconst (pc := 114) C dX11_count_114 ki_1 ?_
              refine go_bind (fun q17 hq17 => ?_)
              refine go_callV (rest := []) (st' := [.int q17]) (c' := 0) (s' := 0) (pc := 115) C O miX11_423 mvX11_sumOf [.int 288, .int 24, .int (b2i true)] rfl (mX11_sumOf hq17).1 (mX11_sumOf hq17).2 dX11_count_115 ⟨by decide, by decide, by decide, by decide⟩ rfl (Nat.le_of_ble_eq_true rfl) rfl ⟨rfl, rfl⟩ ?_
              exact go_iret (w := wIh) (pc := 118) C E ((q17, h1)) q17 dX11_count_118 rfl
            · refine go_ite (fun hc18 => ?_) (fun hc18 => ?_)
              · refine go_tsw (pc := 6) C 119 6 hc18 dX11_count_6 (by decide) (by decide) rfl (by decide) ?_
                refine go_aload_n (pc := 119) C 0 dX11_count_119 rfl ?_
                refine go_gI (pc := 120) C fdX11_381 dX11_count_120 (fun x19 => ?_)
                exact go_iret (w := wIh) (pc := 123) C E ((x19, h1)) x19 dX11_count_123 rfl
              · refine go_ite (fun hc20 => ?_) (fun hc20 => ?_)
                · refine go_tsw (pc := 6) C 124 7 hc20 dX11_count_6 (by decide) (by decide) rfl (by decide) ?_
                  refine go_aload_n (pc := 124) C 0 dX11_count_124 rfl ?_
                  refine go_gI (pc := 125) C fdX11_395 dX11_count_125 (fun x21 => ?_)
                  exact go_iret (w := wIh) (pc := 128) C E ((x21, h1)) x21 dX11_count_128 rfl
                · refine go_ite (fun hc22 => ?_) (fun hc22 => ?_)
                  · refine go_tsw (pc := 6) C 129 8 hc22 dX11_count_6 (by decide) (by decide) rfl (by decide) ?_
                    refine go_aload_n (pc := 129) C 0 dX11_count_129 rfl ?_
                    refine go_gI (pc := 130) C fdX11_252 dX11_count_130 (fun x23 => ?_)
                    exact go_iret (w := wIh) (pc := 133) C E ((x23, h1)) x23 dX11_count_133 rfl
                  · refine go_ite (fun hc24 => ?_) (fun hc24 => ?_)
                    · refine go_tsw (pc := 6) C 134 9 hc24 dX11_count_6 (by decide) (by decide) rfl (by decide) ?_
                      refine go_aload_n (pc := 134) C 0 dX11_count_134 rfl ?_
                      refine go_gI (pc := 135) C fdX11_81 dX11_count_135 (fun x25 => ?_)
                      exact go_iret (w := wIh) (pc := 138) C E ((x25, h1)) x25 dX11_count_138 rfl
                    · refine go_ite (fun hc26 => ?_) (fun hc26 => ?_)
                      · refine go_tsw (pc := 6) C 139 10 hc26 dX11_count_6 (by decide) (by decide) rfl (by decide) ?_
                        refine go_aload_n (pc := 139) C 0 dX11_count_139 rfl ?_
                        refine go_gI (pc := 140) C fdX11_123 dX11_count_140 (fun x27 => ?_)
                        exact go_iret (w := wIh) (pc := 143) C E ((x27, h1)) x27 dX11_count_143 rfl
                      · refine go_tsw_else (pc := 6) C 144 [0, 1, 2, 3, 4, 5, 6, 7, 8, 9, 10] dX11_count_6 (fun v hv => by simp only [List.mem_cons, List.not_mem_nil, or_false] at hv; rcases hv with rfl | rfl | rfl | rfl | rfl | rfl | rfl | rfl | rfl | rfl | rfl <;> first | exact i32_ne hc2 (by decide) | exact i32_ne hc5 (by decide) | exact i32_ne hc8 (by decide) | exact i32_ne hc11 (by decide) | exact i32_ne hc14 (by decide) | exact i32_ne hc16 (by decide) | exact i32_ne hc18 (by decide) | exact i32_ne hc20 (by decide) | exact i32_ne hc22 (by decide) | exact i32_ne hc24 (by decide) | exact i32_ne hc26 (by decide)) (by decide) (by decide) (by decide) ?_
                        refine go_iconst (pc := 144) C dX11_count_144 ki_m1 ?_
                        exact go_iret (w := wIh) (pc := 145) C E (((-1), h1)) ((-1)) dX11_count_145 rfl
theorem dX11_row_0 : decode cX11_row 0 = .ok (.aload_n 0, 1) := by decide +kernel
theorem dX11_row_1 : decode cX11_row 1 = .ok (.iconst 0, 1) := by decide +kernel
theorem dX11_row_2 : decode cX11_row 2 = .ok (.putfield 77, 3) := by decide +kernel
theorem dX11_row_5 : decode cX11_row 5 = .ok (.iload_n 1, 1) := by decide +kernel
theorem dX11_row_6 : decode cX11_row 6 = .ok (.iconst 0, 1) := by decide +kernel
theorem dX11_row_7 : decode cX11_row 7 = .ok (.aload_n 0, 1) := by decide +kernel
theorem dX11_row_8 : decode cX11_row 8 = .ok (.getfield 81, 3) := by decide +kernel
theorem dX11_row_11 : decode cX11_row 11 = .ok (.iconst 1, 1) := by decide +kernel
theorem dX11_row_12 : decode cX11_row 12 = .ok (.isub, 1) := by decide +kernel
theorem dX11_row_13 : decode cX11_row 13 = .ok (.invokestatic 84, 3) := by decide +kernel
theorem dX11_row_16 : decode cX11_row 16 = .ok (.ifCond .eq 12, 3) := by decide +kernel
theorem dX11_row_19 : decode cX11_row 19 = .ok (.aload_n 0, 1) := by decide +kernel
theorem dX11_row_20 : decode cX11_row 20 = .ok (.getfield 17, 3) := by decide +kernel
theorem dX11_row_23 : decode cX11_row 23 = .ok (.iload_n 1, 1) := by decide +kernel
theorem dX11_row_24 : decode cX11_row 24 = .ok (.laload, 1) := by decide +kernel
theorem dX11_row_25 : decode cX11_row 25 = .ok (.goto 8, 3) := by decide +kernel
theorem dX11_row_28 : decode cX11_row 28 = .ok (.aload_n 0, 1) := by decide +kernel
theorem dX11_row_29 : decode cX11_row 29 = .ok (.invokevirtual 227, 3) := by decide +kernel
theorem dX11_row_32 : decode cX11_row 32 = .ok (.i2l, 1) := by decide +kernel
theorem dX11_row_33 : decode cX11_row 33 = .ok (.lreturn, 1) := by decide +kernel
def fX11_row (h : AH) (a0 : Nat) (a1 : Int32) : Option (Int64 × AH) :=
  if hasC h 11 a0 = true then (
    (pF h 11 a0 5 (.int 0)).bind fun h1 =>
    (gI h1 11 a0 4).bind fun x2 =>
    (fX11_in h1 a1 0 (x2 - 1)).bind fun q3 =>
    if q3 = true then (
      (gR h1 11 a0 3).bind fun x4 =>
      (aJ h1 x4 a1).bind fun x5 =>
      some ((x5, h1))
    ) else (
      (fX11_lost h1 a0).bind fun q6 =>
      some ((Int32.toInt64 q6.1, q6.2))
    )
  ) else none
set_option maxHeartbeats 4000000 in
theorem mX11_row {h : AH} {a0 : Nat} {a1 : Int32} {r : Int64 × AH} (hr : fX11_row h a0 a1 = some r) : hasC h 11 a0 = true ∧ MC yX11_row cX11_row 2 (some .long) 2 0 0 [.ref a0, .int a1] h (some (.long r.1)) r.2 := by
  unfold fX11_row at hr
  obtain ⟨hc, hr⟩ := if_some hr
  refine ⟨hc, mc_of (l0 := [(0, .ref a0), (1, .int a1)]) rfl pn_X11 (Nat.le_of_ble_eq_true rfl) (fun Y X C E O hnm => go_run hr ?_)⟩
  have C : CT Y X RX11 cX11_row 2 := C
  refine go_aload_n (pc := 0) C 0 dX11_row_0 rfl ?_
  refine go_iconst (pc := 1) C dX11_row_1 ki_0 ?_
  refine go_pI (pc := 2) C fpX11_77 dX11_row_2 (fun h1 => ?_)
  refine go_iload_n (pc := 5) C 1 dX11_row_5 rfl ?_
  refine go_iconst (pc := 6) C dX11_row_6 ki_0 ?_
  refine go_aload_n (pc := 7) C 0 dX11_row_7 rfl ?_
  refine go_gI (pc := 8) C fdX11_81 dX11_row_8 (fun x2 => ?_)
  refine go_iconst (pc := 11) C dX11_row_11 ki_1 ?_
  refine go_isub (pc := 12) C dX11_row_12 ?_
  refine go_bind (fun q3 hq3 => ?_)
  refine go_callS (rest := []) (st' := [.int (b2i q3)]) (c' := 0) (s' := 0) (pc := 13) C O miX11_84 w_1437 [.int a1, .int 0, .int (x2 - 1)] rfl (mX11_in hq3) dX11_row_13 ⟨by decide, by decide, by decide, by decide⟩ rfl (Nat.le_of_ble_eq_true rfl) rfl ⟨rfl, rfl⟩ ?_
  refine go_ifZ_eq (pc := 16) C 28 dX11_row_16 (by decide) (fun _ => ?_) (fun _ => ?_)
  · refine go_aload_n (pc := 19) C 0 dX11_row_19 rfl ?_
    refine go_gR (pc := 20) C fdX11_17 dX11_row_20 (fun x4 => ?_)
    refine go_iload_n (pc := 23) C 1 dX11_row_23 rfl ?_
    refine go_lald (pc := 24) C dX11_row_24 (fun x5 => ?_)
    refine go_goto (pc := 25) C 33 dX11_row_25 (by decide) ?_
    exact go_lret (w := wJh) (pc := 33) C E ((x5, h1)) x5 dX11_row_33 rfl
  · refine go_aload_n (pc := 28) C 0 dX11_row_28 rfl ?_
    refine go_bind (fun q6 hq6 => ?_)
    refine go_callV (rest := []) (st' := [.int q6.1]) (c' := 0) (s' := 0) (pc := 29) C O miX11_227 mvX11_lost [] rfl (mX11_lost hq6).1 (mX11_lost hq6).2 dX11_row_29 ⟨by decide, by decide, by decide, by decide⟩ rfl (Nat.le_of_ble_eq_true rfl) rfl ⟨rfl, rfl⟩ ?_
    refine go_i2l (pc := 32) C dX11_row_32 ?_
    exact go_lret (w := wJh) (pc := 33) C E ((Int32.toInt64 q6.1, q6.2)) (Int32.toInt64 q6.1) dX11_row_33 rfl
