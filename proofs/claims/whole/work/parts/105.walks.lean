/-! walks, by program: X10_common X10_tellFirst X10_hidden X10_frames X10_deepest X10_would X10_frees X10_storm X10_sweep X10_choices X10_power X10_commonDivisor X10_tellFraction X10_odds X10_heard X10_forget X10_fits X10_asks X10_saw X10_denies X10_laws X10_looks X10_pages X10_rests X10_tryRule -/
theorem dX10_common_0 : decode cX10_common 0 = .ok (.aload_n 0, 1) := by decide +kernel
theorem dX10_common_1 : decode cX10_common 1 = .ok (.iload_n 1, 1) := by decide +kernel
theorem dX10_common_2 : decode cX10_common 2 = .ok (.iload_n 2, 1) := by decide +kernel
theorem dX10_common_3 : decode cX10_common 3 = .ok (.invokevirtual 274, 3) := by decide +kernel
theorem dX10_common_6 : decode cX10_common 6 = .ok (.ifCond .ne 5, 3) := by decide +kernel
theorem dX10_common_9 : decode cX10_common 9 = .ok (.iconst (-1), 1) := by decide +kernel
theorem dX10_common_10 : decode cX10_common 10 = .ok (.ireturn, 1) := by decide +kernel
theorem dX10_common_11 : decode cX10_common 11 = .ok (.aload_n 0, 1) := by decide +kernel
theorem dX10_common_12 : decode cX10_common 12 = .ok (.getfield 16, 3) := by decide +kernel
theorem dX10_common_15 : decode cX10_common 15 = .ok (.iload_n 1, 1) := by decide +kernel
theorem dX10_common_16 : decode cX10_common 16 = .ok (.invokevirtual 151, 3) := by decide +kernel
theorem dX10_common_19 : decode cX10_common 19 = .ok (.istore_n 3, 1) := by decide +kernel
theorem dX10_common_20 : decode cX10_common 20 = .ok (.aload_n 0, 1) := by decide +kernel
theorem dX10_common_21 : decode cX10_common 21 = .ok (.getfield 16, 3) := by decide +kernel
theorem dX10_common_24 : decode cX10_common 24 = .ok (.iload_n 2, 1) := by decide +kernel
theorem dX10_common_25 : decode cX10_common 25 = .ok (.invokevirtual 151, 3) := by decide +kernel
theorem dX10_common_28 : decode cX10_common 28 = .ok (.istore 4, 2) := by decide +kernel
theorem dX10_common_30 : decode cX10_common 30 = .ok (.aload_n 0, 1) := by decide +kernel
theorem dX10_common_31 : decode cX10_common 31 = .ok (.getfield 16, 3) := by decide +kernel
theorem dX10_common_34 : decode cX10_common 34 = .ok (.iload_n 1, 1) := by decide +kernel
theorem dX10_common_35 : decode cX10_common 35 = .ok (.invokevirtual 145, 3) := by decide +kernel
theorem dX10_common_38 : decode cX10_common 38 = .ok (.istore 5, 2) := by decide +kernel
theorem dX10_common_40 : decode cX10_common 40 = .ok (.iconst 0, 1) := by decide +kernel
theorem dX10_common_41 : decode cX10_common 41 = .ok (.istore 6, 2) := by decide +kernel
theorem dX10_common_43 : decode cX10_common 43 = .ok (.iload 6, 2) := by decide +kernel
theorem dX10_common_45 : decode cX10_common 45 = .ok (.iload_n 3, 1) := by decide +kernel
theorem dX10_common_46 : decode cX10_common 46 = .ok (.if_icmp .ge 69, 3) := by decide +kernel
theorem dX10_common_49 : decode cX10_common 49 = .ok (.aload_n 0, 1) := by decide +kernel
theorem dX10_common_50 : decode cX10_common 50 = .ok (.getfield 16, 3) := by decide +kernel
theorem dX10_common_53 : decode cX10_common 53 = .ok (.iload_n 2, 1) := by decide +kernel
theorem dX10_common_54 : decode cX10_common 54 = .ok (.iload 5, 2) := by decide +kernel
theorem dX10_common_56 : decode cX10_common 56 = .ok (.invokevirtual 203, 3) := by decide +kernel
theorem dX10_common_59 : decode cX10_common 59 = .ok (.istore 7, 2) := by decide +kernel
theorem dX10_common_61 : decode cX10_common 61 = .ok (.iload 7, 2) := by decide +kernel
theorem dX10_common_63 : decode cX10_common 63 = .ok (.iload 4, 2) := by decide +kernel
theorem dX10_common_65 : decode cX10_common 65 = .ok (.if_icmp .ge 33, 3) := by decide +kernel
theorem dX10_common_68 : decode cX10_common 68 = .ok (.aload_n 0, 1) := by decide +kernel
theorem dX10_common_69 : decode cX10_common 69 = .ok (.getfield 50, 3) := by decide +kernel
theorem dX10_common_72 : decode cX10_common 72 = .ok (.invokevirtual 209, 3) := by decide +kernel
theorem dX10_common_75 : decode cX10_common 75 = .ok (.aload_n 0, 1) := by decide +kernel
theorem dX10_common_76 : decode cX10_common 76 = .ok (.getfield 50, 3) := by decide +kernel
theorem dX10_common_79 : decode cX10_common 79 = .ok (.iload 6, 2) := by decide +kernel
theorem dX10_common_81 : decode cX10_common 81 = .ok (.i2l, 1) := by decide +kernel
theorem dX10_common_82 : decode cX10_common 82 = .ok (.invokevirtual 212, 3) := by decide +kernel
theorem dX10_common_85 : decode cX10_common 85 = .ok (.aload_n 0, 1) := by decide +kernel
theorem dX10_common_86 : decode cX10_common 86 = .ok (.getfield 50, 3) := by decide +kernel
theorem dX10_common_89 : decode cX10_common 89 = .ok (.iload 7, 2) := by decide +kernel
theorem dX10_common_91 : decode cX10_common 91 = .ok (.i2l, 1) := by decide +kernel
theorem dX10_common_92 : decode cX10_common 92 = .ok (.invokevirtual 212, 3) := by decide +kernel
theorem dX10_common_95 : decode cX10_common 95 = .ok (.iload 5, 2) := by decide +kernel
theorem dX10_common_97 : decode cX10_common 97 = .ok (.ireturn, 1) := by decide +kernel
theorem dX10_common_98 : decode cX10_common 98 = .ok (.aload_n 0, 1) := by decide +kernel
theorem dX10_common_99 : decode cX10_common 99 = .ok (.getfield 16, 3) := by decide +kernel
theorem dX10_common_102 : decode cX10_common 102 = .ok (.iload 5, 2) := by decide +kernel
theorem dX10_common_104 : decode cX10_common 104 = .ok (.invokevirtual 168, 3) := by decide +kernel
theorem dX10_common_107 : decode cX10_common 107 = .ok (.istore 5, 2) := by decide +kernel
theorem dX10_common_109 : decode cX10_common 109 = .ok (.iinc 6 1, 3) := by decide +kernel
theorem dX10_common_112 : decode cX10_common 112 = .ok (.goto (-69), 3) := by decide +kernel
theorem dX10_common_115 : decode cX10_common 115 = .ok (.bipush (-2), 2) := by decide +kernel
theorem dX10_common_117 : decode cX10_common 117 = .ok (.ireturn, 1) := by decide +kernel
def fX10_common_L43 (k68 : AH → Nat → Int32 → Int32 → Int32 → Option (Int32 × AH)) : Nat → AH → Nat → Int32 → Int32 → Int32 → Int32 → Int32 → Option (Int32 × AH)
  | 0, _, _, _, _, _, _, _ => none
  | n + 1, h, v0, v2, v3, v4, v5, v6 =>
    if v3 ≤ v6 then (
      some (((-2), h))
    ) else (
      (gR h 10 v0 2).bind fun x1 =>
      (fX9_placeOf h x1 v2 v5).bind fun q2 =>
      if v4 ≤ q2 then (
        (gR h 10 v0 2).bind fun x3 =>
        (fX9_shadowOf h x3 v5).bind fun q4 =>
        letF (v6 + 1 : Int32) fun x5 =>
        fX10_common_L43 k68 n h v0 v2 v3 v4 q4 x5
      ) else (
        k68 h v0 v5 v6 q2
      )
    )
def fX10_common (h : AH) (a0 : Nat) (a1 : Int32) (a2 : Int32) : Option (Int32 × AH) :=
  if hasC h 10 a0 = true then (
    (fX10_areTwo h a0 a1 a2).bind fun q6 =>
    if q6 = true then (
      (gR h 10 a0 2).bind fun x7 =>
      (fX9_chainLength h x7 a1).bind fun q8 =>
      (gR h 10 a0 2).bind fun x9 =>
      (fX9_chainLength h x9 a2).bind fun q10 =>
      (gR h 10 a0 2).bind fun x11 =>
      (fX9_topOf h x11 a1).bind fun q12 =>
      fX10_common_L43
        (fun h17 x13 x14 x15 x16 =>
          (gR h17 10 x13 8).bind fun x18 =>
          (fX5_clear h17 x18).bind fun q19 =>
          (gR q19 10 x13 8).bind fun x20 =>
          (fX5_add q19 x20 (Int32.toInt64 x15)).bind fun q21 =>
          (gR q21 10 x13 8).bind fun x22 =>
          (fX5_add q21 x22 (Int32.toInt64 x16)).bind fun q23 =>
          some ((x14, q23)))
        FU h a0 a2 q8 q10 q12 0
    ) else (
      some (((-1), h))
    )
  ) else none
set_option maxHeartbeats 4000000 in
theorem gX10_common_L43 {Y : YT} {X : XT} (C : CT Y X RX10 cX10_common 8) (O : RO X 4 0 0) {r : Int32 × AH} (E : RX Y X (some .int) (some (.int r.1)) r.2 0 0) {k68 : AH → Nat → Int32 → Int32 → Int32 → Option (Int32 × AH)} (hk68 : ∀ (h : AH) (v0 : Nat) (v5 : Int32) (v6 : Int32) (v7 : Int32), GO Y X 8 r h 0 0 68 [(0, .ref v0), (5, .int v5), (6, .int v6), (7, .int v7)] [] (k68 h v0 v5 v6 v7)) : ∀ (n : Nat) (h : AH) (v0 : Nat) (v2 : Int32) (v3 : Int32) (v4 : Int32) (v5 : Int32) (v6 : Int32), GO Y X 8 r h 0 0 43 [(0, .ref v0), (2, .int v2), (3, .int v3), (4, .int v4), (5, .int v5), (6, .int v6)] [] (fX10_common_L43 k68 n h v0 v2 v3 v4 v5 v6) := by
  intro n
  induction n with
  | zero => intros; exact go_none _ _ _
  | succ n ih =>
    intro h v0 v2 v3 v4 v5 v6
    rw [fX10_common_L43]
    refine go_iload (pc := 43) C 5 dX10_common_43 rfl ?_
    refine go_iload_n (pc := 45) C 2 dX10_common_45 rfl ?_
    refine go_icmp_ge (pc := 46) C 115 dX10_common_46 (by decide) (fun _ => ?_) (fun _ => ?_)
    · refine go_bipush (pc := 115) C dX10_common_115 kb_m2 ?_
      exact go_iret (w := wIh) (pc := 117) C E (((-2), h)) ((-2)) dX10_common_117 rfl
    · refine go_aload_n (pc := 49) C 0 dX10_common_49 rfl ?_
      refine go_gR (pc := 50) C fdX10_16 dX10_common_50 (fun x1 => ?_)
      refine go_iload_n (pc := 53) C 1 dX10_common_53 rfl ?_
      refine go_iload (pc := 54) C 4 dX10_common_54 rfl ?_
      refine go_bind (fun q2 hq2 => ?_)
      refine go_callV (rest := []) (st' := [.int q2]) (c' := 0) (s' := 0) (pc := 56) C O miX10_203 mvX9_placeOf [.int v2, .int v5] rfl (mX9_placeOf hq2).1 (mX9_placeOf hq2).2 dX10_common_56 ⟨by decide, by decide, by decide, by decide⟩ rfl (Nat.le_of_ble_eq_true rfl) rfl ⟨rfl, rfl⟩ ?_
      refine go_istore (ls' := [(7, .int q2), (0, .ref v0), (2, .int v2), (3, .int v3), (4, .int v4), (5, .int v5), (6, .int v6)]) (pc := 59) C dX10_common_59 (by decide) rfl ?_
      refine go_iload (pc := 61) C 0 dX10_common_61 rfl ?_
      refine go_iload (pc := 63) C 4 dX10_common_63 rfl ?_
      refine go_icmp_ge (pc := 65) C 98 dX10_common_65 (by decide) (fun _ => ?_) (fun _ => ?_)
      · refine go_aload_n (pc := 98) C 1 dX10_common_98 rfl ?_
        refine go_gR (pc := 99) C fdX10_16 dX10_common_99 (fun x3 => ?_)
        refine go_iload (pc := 102) C 5 dX10_common_102 rfl ?_
        refine go_bind (fun q4 hq4 => ?_)
        refine go_callV (rest := []) (st' := [.int q4]) (c' := 0) (s' := 0) (pc := 104) C O miX10_168 mvX9_shadowOf [.int v5] rfl (mX9_shadowOf hq4).1 (mX9_shadowOf hq4).2 dX10_common_104 ⟨by decide, by decide, by decide, by decide⟩ rfl (Nat.le_of_ble_eq_true rfl) rfl ⟨rfl, rfl⟩ ?_
        refine go_istore (ls' := [(5, .int q4), (7, .int q2), (0, .ref v0), (2, .int v2), (3, .int v3), (4, .int v4), (6, .int v6)]) (pc := 107) C dX10_common_107 (by decide) rfl ?_
        refine go_iincL (pc := 109) C 6 dX10_common_109 rfl ki_1 (by decide) (fun x5 => [(6, .int x5), (5, .int q4), (7, .int q2), (0, .ref v0), (2, .int v2), (3, .int v3), (4, .int v4)]) (fun _ => rfl) (fun x5 => ?_)
        refine go_goto (pc := 112) C 43 dX10_common_112 (by decide) ?_
        refine go_sub (ls' := [(0, .ref v0), (2, .int v2), (3, .int v3), (4, .int v4), (5, .int q4), (6, .int x5)]) [3, 4, 5, 6, 1, 0] rfl ?_
        exact ih h v0 v2 v3 v4 q4 x5
      · refine go_sub (ls' := [(0, .ref v0), (5, .int v5), (6, .int v6), (7, .int q2)]) [1, 5, 6, 0] rfl ?_
        exact hk68 h v0 v5 v6 q2
set_option maxHeartbeats 4000000 in
theorem mX10_common {h : AH} {a0 : Nat} {a1 : Int32} {a2 : Int32} {r : Int32 × AH} (hr : fX10_common h a0 a1 a2 = some r) : hasC h 10 a0 = true ∧ MC yX10_common cX10_common 8 (some .int) 4 0 0 [.ref a0, .int a1, .int a2] h (some (.int r.1)) r.2 := by
  unfold fX10_common at hr
  obtain ⟨hc, hr⟩ := if_some hr
  refine ⟨hc, mc_of (l0 := [(0, .ref a0), (1, .int a1), (2, .int a2)]) rfl pn_X10 (Nat.le_of_ble_eq_true rfl) (fun Y X C E O hnm => go_run hr ?_)⟩
  have C : CT Y X RX10 cX10_common 8 := C
  refine go_aload_n (pc := 0) C 0 dX10_common_0 rfl ?_
  refine go_iload_n (pc := 1) C 1 dX10_common_1 rfl ?_
  refine go_iload_n (pc := 2) C 2 dX10_common_2 rfl ?_
  refine go_bind (fun q6 hq6 => ?_)
  refine go_callV (rest := []) (st' := [.int (b2i q6)]) (c' := 0) (s' := 0) (pc := 3) C O miX10_274 mvX10_areTwo [.int a1, .int a2] rfl (mX10_areTwo hq6).1 (mX10_areTwo hq6).2 dX10_common_3 ⟨by decide, by decide, by decide, by decide⟩ rfl (Nat.le_of_ble_eq_true rfl) rfl ⟨rfl, rfl⟩ ?_
  refine go_ifZ_ne (pc := 6) C 11 dX10_common_6 (by decide) (fun _ => ?_) (fun _ => ?_)
  · refine go_aload_n (pc := 11) C 0 dX10_common_11 rfl ?_
    refine go_gR (pc := 12) C fdX10_16 dX10_common_12 (fun x7 => ?_)
    refine go_iload_n (pc := 15) C 1 dX10_common_15 rfl ?_
    refine go_bind (fun q8 hq8 => ?_)
    refine go_callV (rest := []) (st' := [.int q8]) (c' := 0) (s' := 0) (pc := 16) C O miX10_151 mvX9_chainLength [.int a1] rfl (mX9_chainLength hq8).1 (mX9_chainLength hq8).2 dX10_common_16 ⟨by decide, by decide, by decide, by decide⟩ rfl (Nat.le_of_ble_eq_true rfl) rfl ⟨rfl, rfl⟩ ?_
    refine go_istore_n (ls' := [(3, .int q8), (0, .ref a0), (1, .int a1), (2, .int a2)]) (pc := 19) C dX10_common_19 (by decide) rfl ?_
    refine go_aload_n (pc := 20) C 1 dX10_common_20 rfl ?_
    refine go_gR (pc := 21) C fdX10_16 dX10_common_21 (fun x9 => ?_)
    refine go_iload_n (pc := 24) C 3 dX10_common_24 rfl ?_
    refine go_bind (fun q10 hq10 => ?_)
    refine go_callV (rest := []) (st' := [.int q10]) (c' := 0) (s' := 0) (pc := 25) C O miX10_151 mvX9_chainLength [.int a2] rfl (mX9_chainLength hq10).1 (mX9_chainLength hq10).2 dX10_common_25 ⟨by decide, by decide, by decide, by decide⟩ rfl (Nat.le_of_ble_eq_true rfl) rfl ⟨rfl, rfl⟩ ?_
    refine go_istore (ls' := [(4, .int q10), (3, .int q8), (0, .ref a0), (1, .int a1), (2, .int a2)]) (pc := 28) C dX10_common_28 (by decide) rfl ?_
    refine go_aload_n (pc := 30) C 2 dX10_common_30 rfl ?_
    refine go_gR (pc := 31) C fdX10_16 dX10_common_31 (fun x11 => ?_)
    refine go_iload_n (pc := 34) C 3 dX10_common_34 rfl ?_
    refine go_bind (fun q12 hq12 => ?_)
    refine go_callV (rest := []) (st' := [.int q12]) (c' := 0) (s' := 0) (pc := 35) C O miX10_145 mvX9_topOf [.int a1] rfl (mX9_topOf hq12).1 (mX9_topOf hq12).2 dX10_common_35 ⟨by decide, by decide, by decide, by decide⟩ rfl (Nat.le_of_ble_eq_true rfl) rfl ⟨rfl, rfl⟩ ?_
    refine go_istore (ls' := [(5, .int q12), (4, .int q10), (3, .int q8), (0, .ref a0), (1, .int a1), (2, .int a2)]) (pc := 38) C dX10_common_38 (by decide) rfl ?_
    refine go_iconst (pc := 40) C dX10_common_40 ki_0 ?_
    refine go_istore (ls' := [(6, .int 0), (5, .int q12), (4, .int q10), (3, .int q8), (0, .ref a0), (1, .int a1), (2, .int a2)]) (pc := 41) C dX10_common_41 (by decide) rfl ?_
    refine go_sub (ls' := [(0, .ref a0), (2, .int a2), (3, .int q8), (4, .int q10), (5, .int q12), (6, .int 0)]) [4, 6, 3, 2, 1, 0] rfl ?_
    refine gX10_common_L43 C O E (fun h17 x13 x14 x15 x16 => ?_) FU h a0 a2 q8 q10 q12 0
    · refine go_aload_n (pc := 68) C 0 dX10_common_68 rfl ?_
      refine go_gR (pc := 69) C fdX10_50 dX10_common_69 (fun x18 => ?_)
      refine go_bind (fun q19 hq19 => ?_)
      refine go_callV (rest := []) (st' := []) (c' := 0) (s' := 0) (pc := 72) C O miX10_209 mvX5_clear [] rfl (mX5_clear hq19).1 (mX5_clear hq19).2 dX10_common_72 ⟨by decide, by decide, by decide, by decide⟩ rfl (Nat.le_of_ble_eq_true rfl) rfl ⟨rfl, rfl⟩ ?_
      refine go_aload_n (pc := 75) C 0 dX10_common_75 rfl ?_
      refine go_gR (pc := 76) C fdX10_50 dX10_common_76 (fun x20 => ?_)
      refine go_iload (pc := 79) C 2 dX10_common_79 rfl ?_
      refine go_i2l (pc := 81) C dX10_common_81 ?_
      refine go_bind (fun q21 hq21 => ?_)
      refine go_callV (rest := []) (st' := []) (c' := 0) (s' := 0) (pc := 82) C O miX10_212 mvX5_add [.long (Int32.toInt64 x15)] rfl (mX5_add hq21).1 (mX5_add hq21).2 dX10_common_82 ⟨by decide, by decide, by decide, by decide⟩ rfl (Nat.le_of_ble_eq_true rfl) rfl ⟨rfl, rfl⟩ ?_
      refine go_aload_n (pc := 85) C 0 dX10_common_85 rfl ?_
      refine go_gR (pc := 86) C fdX10_50 dX10_common_86 (fun x22 => ?_)
      refine go_iload (pc := 89) C 3 dX10_common_89 rfl ?_
      refine go_i2l (pc := 91) C dX10_common_91 ?_
      refine go_bind (fun q23 hq23 => ?_)
      refine go_callV (rest := []) (st' := []) (c' := 0) (s' := 0) (pc := 92) C O miX10_212 mvX5_add [.long (Int32.toInt64 x16)] rfl (mX5_add hq23).1 (mX5_add hq23).2 dX10_common_92 ⟨by decide, by decide, by decide, by decide⟩ rfl (Nat.le_of_ble_eq_true rfl) rfl ⟨rfl, rfl⟩ ?_
      refine go_iload (pc := 95) C 1 dX10_common_95 rfl ?_
      exact go_iret (w := wIh) (pc := 97) C E ((x14, q23)) x14 dX10_common_97 rfl
  · refine go_iconst (pc := 9) C dX10_common_9 ki_m1 ?_
    exact go_iret (w := wIh) (pc := 10) C E (((-1), h)) ((-1)) dX10_common_10 rfl
theorem dX10_tellFirst_0 : decode cX10_tellFirst 0 = .ok (.iload_n 1, 1) := by decide +kernel
theorem dX10_tellFirst_1 : decode cX10_tellFirst 1 = .ok (.ifCond .ne 21, 3) := by decide +kernel
theorem dX10_tellFirst_4 : decode cX10_tellFirst 4 = .ok (.aload_n 0, 1) := by decide +kernel
theorem dX10_tellFirst_5 : decode cX10_tellFirst 5 = .ok (.getfield 50, 3) := by decide +kernel
theorem dX10_tellFirst_8 : decode cX10_tellFirst 8 = .ok (.iload_n 2, 1) := by decide +kernel
theorem dX10_tellFirst_9 : decode cX10_tellFirst 9 = .ok (.i2l, 1) := by decide +kernel
theorem dX10_tellFirst_10 : decode cX10_tellFirst 10 = .ok (.invokevirtual 212, 3) := by decide +kernel
theorem dX10_tellFirst_13 : decode cX10_tellFirst 13 = .ok (.aload_n 0, 1) := by decide +kernel
theorem dX10_tellFirst_14 : decode cX10_tellFirst 14 = .ok (.getfield 50, 3) := by decide +kernel
theorem dX10_tellFirst_17 : decode cX10_tellFirst 17 = .ok (.iload_n 3, 1) := by decide +kernel
theorem dX10_tellFirst_18 : decode cX10_tellFirst 18 = .ok (.i2l, 1) := by decide +kernel
theorem dX10_tellFirst_19 : decode cX10_tellFirst 19 = .ok (.invokevirtual 212, 3) := by decide +kernel
theorem dX10_tellFirst_22 : decode cX10_tellFirst 22 = .ok (.return_, 1) := by decide +kernel
def fX10_tellFirst (h : AH) (a0 : Nat) (a1 : Int32) (a2 : Int32) (a3 : Int32) : Option (AH) :=
  if hasC h 10 a0 = true then (
    if a1 = 0 then (
      (gR h 10 a0 8).bind fun x1 =>
      (fX5_add h x1 (Int32.toInt64 a2)).bind fun q2 =>
      (gR q2 10 a0 8).bind fun x3 =>
      (fX5_add q2 x3 (Int32.toInt64 a3)).bind fun q4 =>
      some q4
    ) else (
      some h
    )
  ) else none
set_option maxHeartbeats 4000000 in
theorem mX10_tellFirst {h : AH} {a0 : Nat} {a1 : Int32} {a2 : Int32} {a3 : Int32} {r : AH} (hr : fX10_tellFirst h a0 a1 a2 a3 = some r) : hasC h 10 a0 = true ∧ MC yX10_tellFirst cX10_tellFirst 4 none 2 0 0 [.ref a0, .int a1, .int a2, .int a3] h none r := by
  unfold fX10_tellFirst at hr
  obtain ⟨hc, hr⟩ := if_some hr
  refine ⟨hc, mc_of (l0 := [(0, .ref a0), (1, .int a1), (2, .int a2), (3, .int a3)]) rfl pn_X10 (Nat.le_of_ble_eq_true rfl) (fun Y X C E O hnm => go_run hr ?_)⟩
  have C : CT Y X RX10 cX10_tellFirst 4 := C
  refine go_iload_n (pc := 0) C 1 dX10_tellFirst_0 rfl ?_
  refine go_if_ne (pc := 1) C 22 dX10_tellFirst_1 (by decide) (fun _ => ?_) (fun _ => ?_)
  · refine go_aload_n (pc := 4) C 0 dX10_tellFirst_4 rfl ?_
    refine go_gR (pc := 5) C fdX10_50 dX10_tellFirst_5 (fun x1 => ?_)
    refine go_iload_n (pc := 8) C 2 dX10_tellFirst_8 rfl ?_
    refine go_i2l (pc := 9) C dX10_tellFirst_9 ?_
    refine go_bind (fun q2 hq2 => ?_)
    refine go_callV (rest := []) (st' := []) (c' := 0) (s' := 0) (pc := 10) C O miX10_212 mvX5_add [.long (Int32.toInt64 a2)] rfl (mX5_add hq2).1 (mX5_add hq2).2 dX10_tellFirst_10 ⟨by decide, by decide, by decide, by decide⟩ rfl (Nat.le_of_ble_eq_true rfl) rfl ⟨rfl, rfl⟩ ?_
    refine go_aload_n (pc := 13) C 0 dX10_tellFirst_13 rfl ?_
    refine go_gR (pc := 14) C fdX10_50 dX10_tellFirst_14 (fun x3 => ?_)
    refine go_iload_n (pc := 17) C 3 dX10_tellFirst_17 rfl ?_
    refine go_i2l (pc := 18) C dX10_tellFirst_18 ?_
    refine go_bind (fun q4 hq4 => ?_)
    refine go_callV (rest := []) (st' := []) (c' := 0) (s' := 0) (pc := 19) C O miX10_212 mvX5_add [.long (Int32.toInt64 a3)] rfl (mX5_add hq4).1 (mX5_add hq4).2 dX10_tellFirst_19 ⟨by decide, by decide, by decide, by decide⟩ rfl (Nat.le_of_ble_eq_true rfl) rfl ⟨rfl, rfl⟩ ?_
    exact go_vret (w := wV) (pc := 22) C E q4 dX10_tellFirst_22 rfl
  · exact go_vret (w := wV) (pc := 22) C E h dX10_tellFirst_22 rfl
theorem dX10_hidden_0 : decode cX10_hidden 0 = .ok (.iconst 0, 1) := by decide +kernel
theorem dX10_hidden_1 : decode cX10_hidden 1 = .ok (.istore_n 1, 1) := by decide +kernel
theorem dX10_hidden_2 : decode cX10_hidden 2 = .ok (.aload_n 0, 1) := by decide +kernel
theorem dX10_hidden_3 : decode cX10_hidden 3 = .ok (.getfield 50, 3) := by decide +kernel
theorem dX10_hidden_6 : decode cX10_hidden 6 = .ok (.invokevirtual 209, 3) := by decide +kernel
theorem dX10_hidden_9 : decode cX10_hidden 9 = .ok (.iconst 0, 1) := by decide +kernel
theorem dX10_hidden_10 : decode cX10_hidden 10 = .ok (.istore_n 2, 1) := by decide +kernel
theorem dX10_hidden_11 : decode cX10_hidden 11 = .ok (.iload_n 2, 1) := by decide +kernel
theorem dX10_hidden_12 : decode cX10_hidden 12 = .ok (.bipush 24, 2) := by decide +kernel
theorem dX10_hidden_14 : decode cX10_hidden 14 = .ok (.if_icmp .ge 57, 3) := by decide +kernel
theorem dX10_hidden_17 : decode cX10_hidden 17 = .ok (.iconst 0, 1) := by decide +kernel
theorem dX10_hidden_18 : decode cX10_hidden 18 = .ok (.istore_n 3, 1) := by decide +kernel
theorem dX10_hidden_19 : decode cX10_hidden 19 = .ok (.iload_n 3, 1) := by decide +kernel
theorem dX10_hidden_20 : decode cX10_hidden 20 = .ok (.bipush 8, 2) := by decide +kernel
theorem dX10_hidden_22 : decode cX10_hidden 22 = .ok (.if_icmp .ge 43, 3) := by decide +kernel
theorem dX10_hidden_25 : decode cX10_hidden 25 = .ok (.aload_n 0, 1) := by decide +kernel
theorem dX10_hidden_26 : decode cX10_hidden 26 = .ok (.getfield 16, 3) := by decide +kernel
theorem dX10_hidden_29 : decode cX10_hidden 29 = .ok (.iload_n 2, 1) := by decide +kernel
theorem dX10_hidden_30 : decode cX10_hidden 30 = .ok (.iload_n 3, 1) := by decide +kernel
theorem dX10_hidden_31 : decode cX10_hidden 31 = .ok (.invokevirtual 186, 3) := by decide +kernel
theorem dX10_hidden_34 : decode cX10_hidden 34 = .ok (.ifCond .eq 25, 3) := by decide +kernel
theorem dX10_hidden_37 : decode cX10_hidden 37 = .ok (.aload_n 0, 1) := by decide +kernel
theorem dX10_hidden_38 : decode cX10_hidden 38 = .ok (.getfield 16, 3) := by decide +kernel
theorem dX10_hidden_41 : decode cX10_hidden 41 = .ok (.iload_n 2, 1) := by decide +kernel
theorem dX10_hidden_42 : decode cX10_hidden 42 = .ok (.iload_n 3, 1) := by decide +kernel
theorem dX10_hidden_43 : decode cX10_hidden 43 = .ok (.invokevirtual 277, 3) := by decide +kernel
theorem dX10_hidden_46 : decode cX10_hidden 46 = .ok (.ifCond .ne 13, 3) := by decide +kernel
theorem dX10_hidden_49 : decode cX10_hidden 49 = .ok (.aload_n 0, 1) := by decide +kernel
theorem dX10_hidden_50 : decode cX10_hidden 50 = .ok (.iload_n 1, 1) := by decide +kernel
theorem dX10_hidden_51 : decode cX10_hidden 51 = .ok (.iload_n 2, 1) := by decide +kernel
theorem dX10_hidden_52 : decode cX10_hidden 52 = .ok (.iload_n 3, 1) := by decide +kernel
theorem dX10_hidden_53 : decode cX10_hidden 53 = .ok (.invokevirtual 280, 3) := by decide +kernel
theorem dX10_hidden_56 : decode cX10_hidden 56 = .ok (.iinc 1 1, 3) := by decide +kernel
theorem dX10_hidden_59 : decode cX10_hidden 59 = .ok (.iinc 3 1, 3) := by decide +kernel
theorem dX10_hidden_62 : decode cX10_hidden 62 = .ok (.goto (-43), 3) := by decide +kernel
theorem dX10_hidden_65 : decode cX10_hidden 65 = .ok (.iinc 2 1, 3) := by decide +kernel
theorem dX10_hidden_68 : decode cX10_hidden 68 = .ok (.goto (-57), 3) := by decide +kernel
theorem dX10_hidden_71 : decode cX10_hidden 71 = .ok (.iload_n 1, 1) := by decide +kernel
theorem dX10_hidden_72 : decode cX10_hidden 72 = .ok (.ireturn, 1) := by decide +kernel
def fX10_hidden_L19 (k65 : AH → Nat → Int32 → Int32 → Option (Int32 × AH)) : Nat → AH → Nat → Int32 → Int32 → Int32 → Option (Int32 × AH)
  | 0, _, _, _, _, _ => none
  | n + 1, h, v0, v1, v2, v3 =>
    if 8 ≤ v3 then (
      k65 h v0 v1 v2
    ) else (
      (gR h 10 v0 2).bind fun x1 =>
      (fX9_holds h x1 v2 v3).bind fun q2 =>
      if q2 = true then (
        (gR h 10 v0 2).bind fun x3 =>
        (fX9_isSeen h x3 v2 v3).bind fun q4 =>
        if q4 = true then (
          letF (v3 + 1 : Int32) fun x5 =>
          fX10_hidden_L19 k65 n h v0 v1 v2 x5
        ) else (
          (fX10_tellFirst h v0 v1 v2 v3).bind fun q6 =>
          letF (v1 + 1 : Int32) fun x7 =>
          letF (v3 + 1 : Int32) fun x8 =>
          fX10_hidden_L19 k65 n q6 v0 x7 v2 x8
        )
      ) else (
        letF (v3 + 1 : Int32) fun x9 =>
        fX10_hidden_L19 k65 n h v0 v1 v2 x9
      )
    )
def fX10_hidden_L11 : Nat → AH → Nat → Int32 → Int32 → Option (Int32 × AH)
  | 0, _, _, _, _ => none
  | n + 1, h, v0, v1, v2 =>
    if 24 ≤ v2 then (
      some ((v1, h))
    ) else (
      fX10_hidden_L19
        (fun h13 x10 x11 x12 =>
          letF (x12 + 1 : Int32) fun x14 =>
          fX10_hidden_L11 n h13 x10 x11 x14)
        FU h v0 v1 v2 0
    )
def fX10_hidden (h : AH) (a0 : Nat) : Option (Int32 × AH) :=
  if hasC h 10 a0 = true then (
    (gR h 10 a0 8).bind fun x15 =>
    (fX5_clear h x15).bind fun q16 =>
    fX10_hidden_L11 FU q16 a0 0 0
  ) else none
set_option maxHeartbeats 4000000 in
theorem gX10_hidden_L19 {Y : YT} {X : XT} (C : CT Y X RX10 cX10_hidden 4) (O : RO X 5 0 0) {r : Int32 × AH} (E : RX Y X (some .int) (some (.int r.1)) r.2 0 0) {k65 : AH → Nat → Int32 → Int32 → Option (Int32 × AH)} (hk65 : ∀ (h : AH) (v0 : Nat) (v1 : Int32) (v2 : Int32), GO Y X 4 r h 0 0 65 [(0, .ref v0), (1, .int v1), (2, .int v2)] [] (k65 h v0 v1 v2)) : ∀ (n : Nat) (h : AH) (v0 : Nat) (v1 : Int32) (v2 : Int32) (v3 : Int32), GO Y X 4 r h 0 0 19 [(0, .ref v0), (1, .int v1), (2, .int v2), (3, .int v3)] [] (fX10_hidden_L19 k65 n h v0 v1 v2 v3) := by
  intro n
  induction n with
  | zero => intros; exact go_none _ _ _
  | succ n ih =>
    intro h v0 v1 v2 v3
    rw [fX10_hidden_L19]
    refine go_iload_n (pc := 19) C 3 dX10_hidden_19 rfl ?_
    refine go_bipush (pc := 20) C dX10_hidden_20 kb_8 ?_
    refine go_icmp_ge (pc := 22) C 65 dX10_hidden_22 (by decide) (fun _ => ?_) (fun _ => ?_)
    · refine go_sub (ls' := [(0, .ref v0), (1, .int v1), (2, .int v2)]) [0, 1, 2] rfl ?_
      exact hk65 h v0 v1 v2
    · refine go_aload_n (pc := 25) C 0 dX10_hidden_25 rfl ?_
      refine go_gR (pc := 26) C fdX10_16 dX10_hidden_26 (fun x1 => ?_)
      refine go_iload_n (pc := 29) C 2 dX10_hidden_29 rfl ?_
      refine go_iload_n (pc := 30) C 3 dX10_hidden_30 rfl ?_
      refine go_bind (fun q2 hq2 => ?_)
      refine go_callV (rest := []) (st' := [.int (b2i q2)]) (c' := 0) (s' := 0) (pc := 31) C O miX10_186 mvX9_holds [.int v2, .int v3] rfl (mX9_holds hq2).1 (mX9_holds hq2).2 dX10_hidden_31 ⟨by decide, by decide, by decide, by decide⟩ rfl (Nat.le_of_ble_eq_true rfl) rfl ⟨rfl, rfl⟩ ?_
      refine go_ifZ_eq (pc := 34) C 59 dX10_hidden_34 (by decide) (fun _ => ?_) (fun _ => ?_)
      · refine go_aload_n (pc := 37) C 0 dX10_hidden_37 rfl ?_
        refine go_gR (pc := 38) C fdX10_16 dX10_hidden_38 (fun x3 => ?_)
        refine go_iload_n (pc := 41) C 2 dX10_hidden_41 rfl ?_
        refine go_iload_n (pc := 42) C 3 dX10_hidden_42 rfl ?_
        refine go_bind (fun q4 hq4 => ?_)
        refine go_callV (rest := []) (st' := [.int (b2i q4)]) (c' := 0) (s' := 0) (pc := 43) C O miX10_277 mvX9_isSeen [.int v2, .int v3] rfl (mX9_isSeen hq4).1 (mX9_isSeen hq4).2 dX10_hidden_43 ⟨by decide, by decide, by decide, by decide⟩ rfl (Nat.le_of_ble_eq_true rfl) rfl ⟨rfl, rfl⟩ ?_
        refine go_ifZ_ne (pc := 46) C 59 dX10_hidden_46 (by decide) (fun _ => ?_) (fun _ => ?_)
        · refine go_iincL (pc := 59) C 3 dX10_hidden_59 rfl ki_1 (by decide) (fun x5 => [(3, .int x5), (0, .ref v0), (1, .int v1), (2, .int v2)]) (fun _ => rfl) (fun x5 => ?_)
          refine go_goto (pc := 62) C 19 dX10_hidden_62 (by decide) ?_
          refine go_sub (ls' := [(0, .ref v0), (1, .int v1), (2, .int v2), (3, .int x5)]) [1, 2, 3, 0] rfl ?_
          exact ih h v0 v1 v2 x5
        · refine go_aload_n (pc := 49) C 0 dX10_hidden_49 rfl ?_
          refine go_iload_n (pc := 50) C 1 dX10_hidden_50 rfl ?_
          refine go_iload_n (pc := 51) C 2 dX10_hidden_51 rfl ?_
          refine go_iload_n (pc := 52) C 3 dX10_hidden_52 rfl ?_
          refine go_bind (fun q6 hq6 => ?_)
          refine go_callV (rest := []) (st' := []) (c' := 0) (s' := 0) (pc := 53) C O miX10_280 mvX10_tellFirst [.int v1, .int v2, .int v3] rfl (mX10_tellFirst hq6).1 (mX10_tellFirst hq6).2 dX10_hidden_53 ⟨by decide, by decide, by decide, by decide⟩ rfl (Nat.le_of_ble_eq_true rfl) rfl ⟨rfl, rfl⟩ ?_
          refine go_iincL (pc := 56) C 1 dX10_hidden_56 rfl ki_1 (by decide) (fun x7 => [(1, .int x7), (0, .ref v0), (2, .int v2), (3, .int v3)]) (fun _ => rfl) (fun x7 => ?_)
          refine go_iincL (pc := 59) C 3 dX10_hidden_59 rfl ki_1 (by decide) (fun x8 => [(3, .int x8), (1, .int x7), (0, .ref v0), (2, .int v2)]) (fun _ => rfl) (fun x8 => ?_)
          refine go_goto (pc := 62) C 19 dX10_hidden_62 (by decide) ?_
          refine go_sub (ls' := [(0, .ref v0), (1, .int x7), (2, .int v2), (3, .int x8)]) [2, 1, 3, 0] rfl ?_
          exact ih q6 v0 x7 v2 x8
      · refine go_iincL (pc := 59) C 3 dX10_hidden_59 rfl ki_1 (by decide) (fun x9 => [(3, .int x9), (0, .ref v0), (1, .int v1), (2, .int v2)]) (fun _ => rfl) (fun x9 => ?_)
        refine go_goto (pc := 62) C 19 dX10_hidden_62 (by decide) ?_
        refine go_sub (ls' := [(0, .ref v0), (1, .int v1), (2, .int v2), (3, .int x9)]) [1, 2, 3, 0] rfl ?_
        exact ih h v0 v1 v2 x9
set_option maxHeartbeats 4000000 in
theorem gX10_hidden_L11 {Y : YT} {X : XT} (C : CT Y X RX10 cX10_hidden 4) (O : RO X 5 0 0) {r : Int32 × AH} (E : RX Y X (some .int) (some (.int r.1)) r.2 0 0) : ∀ (n : Nat) (h : AH) (v0 : Nat) (v1 : Int32) (v2 : Int32), GO Y X 4 r h 0 0 11 [(0, .ref v0), (1, .int v1), (2, .int v2)] [] (fX10_hidden_L11 n h v0 v1 v2) := by
  intro n
  induction n with
  | zero => intros; exact go_none _ _ _
  | succ n ih =>
    intro h v0 v1 v2
    rw [fX10_hidden_L11]
    refine go_iload_n (pc := 11) C 2 dX10_hidden_11 rfl ?_
    refine go_bipush (pc := 12) C dX10_hidden_12 kb_24 ?_
    refine go_icmp_ge (pc := 14) C 71 dX10_hidden_14 (by decide) (fun _ => ?_) (fun _ => ?_)
    · refine go_iload_n (pc := 71) C 1 dX10_hidden_71 rfl ?_
      exact go_iret (w := wIh) (pc := 72) C E ((v1, h)) v1 dX10_hidden_72 rfl
    · refine go_iconst (pc := 17) C dX10_hidden_17 ki_0 ?_
      refine go_istore_n (ls' := [(3, .int 0), (0, .ref v0), (1, .int v1), (2, .int v2)]) (pc := 18) C dX10_hidden_18 (by decide) rfl ?_
      refine go_sub (ls' := [(0, .ref v0), (1, .int v1), (2, .int v2), (3, .int 0)]) [1, 2, 3, 0] rfl ?_
      refine gX10_hidden_L19 C O E (fun h13 x10 x11 x12 => ?_) FU h v0 v1 v2 0
      · refine go_iincL (pc := 65) C 2 dX10_hidden_65 rfl ki_1 (by decide) (fun x14 => [(2, .int x14), (0, .ref x10), (1, .int x11)]) (fun _ => rfl) (fun x14 => ?_)
        refine go_goto (pc := 68) C 11 dX10_hidden_68 (by decide) ?_
        refine go_sub (ls' := [(0, .ref x10), (1, .int x11), (2, .int x14)]) [1, 2, 0] rfl ?_
        exact ih h13 x10 x11 x14
set_option maxHeartbeats 4000000 in
theorem mX10_hidden {h : AH} {a0 : Nat} {r : Int32 × AH} (hr : fX10_hidden h a0 = some r) : hasC h 10 a0 = true ∧ MC yX10_hidden cX10_hidden 4 (some .int) 5 0 0 [.ref a0] h (some (.int r.1)) r.2 := by
  unfold fX10_hidden at hr
  obtain ⟨hc, hr⟩ := if_some hr
  refine ⟨hc, mc_of (l0 := [(0, .ref a0)]) rfl pn_X10 (Nat.le_of_ble_eq_true rfl) (fun Y X C E O hnm => go_run hr ?_)⟩
  have C : CT Y X RX10 cX10_hidden 4 := C
  refine go_iconst (pc := 0) C dX10_hidden_0 ki_0 ?_
  refine go_istore_n (ls' := [(1, .int 0), (0, .ref a0)]) (pc := 1) C dX10_hidden_1 (by decide) rfl ?_
  refine go_aload_n (pc := 2) C 1 dX10_hidden_2 rfl ?_
  refine go_gR (pc := 3) C fdX10_50 dX10_hidden_3 (fun x15 => ?_)
  refine go_bind (fun q16 hq16 => ?_)
  refine go_callV (rest := []) (st' := []) (c' := 0) (s' := 0) (pc := 6) C O miX10_209 mvX5_clear [] rfl (mX5_clear hq16).1 (mX5_clear hq16).2 dX10_hidden_6 ⟨by decide, by decide, by decide, by decide⟩ rfl (Nat.le_of_ble_eq_true rfl) rfl ⟨rfl, rfl⟩ ?_
  refine go_iconst (pc := 9) C dX10_hidden_9 ki_0 ?_
  refine go_istore_n (ls' := [(2, .int 0), (1, .int 0), (0, .ref a0)]) (pc := 10) C dX10_hidden_10 (by decide) rfl ?_
  refine go_sub (ls' := [(0, .ref a0), (1, .int 0), (2, .int 0)]) [2, 1, 0] rfl ?_
  refine gX10_hidden_L11 C O E FU q16 a0 0 0
theorem dX10_frames_0 : decode cX10_frames 0 = .ok (.aload_n 0, 1) := by decide +kernel
theorem dX10_frames_1 : decode cX10_frames 1 = .ok (.getfield 50, 3) := by decide +kernel
theorem dX10_frames_4 : decode cX10_frames 4 = .ok (.invokevirtual 209, 3) := by decide +kernel
theorem dX10_frames_7 : decode cX10_frames 7 = .ok (.aload_n 0, 1) := by decide +kernel
theorem dX10_frames_8 : decode cX10_frames 8 = .ok (.getfield 50, 3) := by decide +kernel
theorem dX10_frames_11 : decode cX10_frames 11 = .ok (.aload_n 0, 1) := by decide +kernel
theorem dX10_frames_12 : decode cX10_frames 12 = .ok (.getfield 16, 3) := by decide +kernel
theorem dX10_frames_15 : decode cX10_frames 15 = .ok (.invokevirtual 283, 3) := by decide +kernel
theorem dX10_frames_18 : decode cX10_frames 18 = .ok (.i2l, 1) := by decide +kernel
theorem dX10_frames_19 : decode cX10_frames 19 = .ok (.invokevirtual 212, 3) := by decide +kernel
theorem dX10_frames_22 : decode cX10_frames 22 = .ok (.aload_n 0, 1) := by decide +kernel
theorem dX10_frames_23 : decode cX10_frames 23 = .ok (.getfield 50, 3) := by decide +kernel
theorem dX10_frames_26 : decode cX10_frames 26 = .ok (.aload_n 0, 1) := by decide +kernel
theorem dX10_frames_27 : decode cX10_frames 27 = .ok (.getfield 16, 3) := by decide +kernel
theorem dX10_frames_30 : decode cX10_frames 30 = .ok (.invokevirtual 93, 3) := by decide +kernel
theorem dX10_frames_33 : decode cX10_frames 33 = .ok (.i2l, 1) := by decide +kernel
theorem dX10_frames_34 : decode cX10_frames 34 = .ok (.invokevirtual 212, 3) := by decide +kernel
theorem dX10_frames_37 : decode cX10_frames 37 = .ok (.aload_n 0, 1) := by decide +kernel
theorem dX10_frames_38 : decode cX10_frames 38 = .ok (.getfield 16, 3) := by decide +kernel
theorem dX10_frames_41 : decode cX10_frames 41 = .ok (.invokevirtual 96, 3) := by decide +kernel
theorem dX10_frames_44 : decode cX10_frames 44 = .ok (.ireturn, 1) := by decide +kernel
def fX10_frames (h : AH) (a0 : Nat) : Option (Int32 × AH) :=
  if hasC h 10 a0 = true then (
    (gR h 10 a0 8).bind fun x1 =>
    (fX5_clear h x1).bind fun q2 =>
    (gR q2 10 a0 8).bind fun x3 =>
    (gR q2 10 a0 2).bind fun x4 =>
    (fX9_eagerTotal q2 x4).bind fun q5 =>
    (fX5_add q2 x3 (Int32.toInt64 q5)).bind fun q6 =>
    (gR q6 10 a0 8).bind fun x7 =>
    (gR q6 10 a0 2).bind fun x8 =>
    (fX9_objectTotal q6 x8).bind fun q9 =>
    (fX5_add q6 x7 (Int32.toInt64 q9)).bind fun q10 =>
    (gR q10 10 a0 2).bind fun x11 =>
    (fX9_frameTotal q10 x11).bind fun q12 =>
    some ((q12, q10))
  ) else none
set_option maxHeartbeats 4000000 in
theorem mX10_frames {h : AH} {a0 : Nat} {r : Int32 × AH} (hr : fX10_frames h a0 = some r) : hasC h 10 a0 = true ∧ MC yX10_frames cX10_frames 1 (some .int) 5 0 0 [.ref a0] h (some (.int r.1)) r.2 := by
  unfold fX10_frames at hr
  obtain ⟨hc, hr⟩ := if_some hr
  refine ⟨hc, mc_of (l0 := [(0, .ref a0)]) rfl pn_X10 (Nat.le_of_ble_eq_true rfl) (fun Y X C E O hnm => go_run hr ?_)⟩
  have C : CT Y X RX10 cX10_frames 1 := C
  refine go_aload_n (pc := 0) C 0 dX10_frames_0 rfl ?_
  refine go_gR (pc := 1) C fdX10_50 dX10_frames_1 (fun x1 => ?_)
  refine go_bind (fun q2 hq2 => ?_)
  refine go_callV (rest := []) (st' := []) (c' := 0) (s' := 0) (pc := 4) C O miX10_209 mvX5_clear [] rfl (mX5_clear hq2).1 (mX5_clear hq2).2 dX10_frames_4 ⟨by decide, by decide, by decide, by decide⟩ rfl (Nat.le_of_ble_eq_true rfl) rfl ⟨rfl, rfl⟩ ?_
  refine go_aload_n (pc := 7) C 0 dX10_frames_7 rfl ?_
  refine go_gR (pc := 8) C fdX10_50 dX10_frames_8 (fun x3 => ?_)
  refine go_aload_n (pc := 11) C 0 dX10_frames_11 rfl ?_
  refine go_gR (pc := 12) C fdX10_16 dX10_frames_12 (fun x4 => ?_)
  refine go_bind (fun q5 hq5 => ?_)
  refine go_callV (rest := [.ref x3]) (st' := [.int q5, .ref x3]) (c' := 0) (s' := 0) (pc := 15) C O miX10_283 mvX9_eagerTotal [] rfl (mX9_eagerTotal hq5).1 (mX9_eagerTotal hq5).2 dX10_frames_15 ⟨by decide, by decide, by decide, by decide⟩ rfl (Nat.le_of_ble_eq_true rfl) rfl ⟨rfl, rfl⟩ ?_
  refine go_i2l (pc := 18) C dX10_frames_18 ?_
  refine go_bind (fun q6 hq6 => ?_)
  refine go_callV (rest := []) (st' := []) (c' := 0) (s' := 0) (pc := 19) C O miX10_212 mvX5_add [.long (Int32.toInt64 q5)] rfl (mX5_add hq6).1 (mX5_add hq6).2 dX10_frames_19 ⟨by decide, by decide, by decide, by decide⟩ rfl (Nat.le_of_ble_eq_true rfl) rfl ⟨rfl, rfl⟩ ?_
  refine go_aload_n (pc := 22) C 0 dX10_frames_22 rfl ?_
  refine go_gR (pc := 23) C fdX10_50 dX10_frames_23 (fun x7 => ?_)
  refine go_aload_n (pc := 26) C 0 dX10_frames_26 rfl ?_
  refine go_gR (pc := 27) C fdX10_16 dX10_frames_27 (fun x8 => ?_)
  refine go_bind (fun q9 hq9 => ?_)
  refine go_callV (rest := [.ref x7]) (st' := [.int q9, .ref x7]) (c' := 0) (s' := 0) (pc := 30) C O miX10_93 mvX9_objectTotal [] rfl (mX9_objectTotal hq9).1 (mX9_objectTotal hq9).2 dX10_frames_30 ⟨by decide, by decide, by decide, by decide⟩ rfl (Nat.le_of_ble_eq_true rfl) rfl ⟨rfl, rfl⟩ ?_
  refine go_i2l (pc := 33) C dX10_frames_33 ?_
  refine go_bind (fun q10 hq10 => ?_)
  refine go_callV (rest := []) (st' := []) (c' := 0) (s' := 0) (pc := 34) C O miX10_212 mvX5_add [.long (Int32.toInt64 q9)] rfl (mX5_add hq10).1 (mX5_add hq10).2 dX10_frames_34 ⟨by decide, by decide, by decide, by decide⟩ rfl (Nat.le_of_ble_eq_true rfl) rfl ⟨rfl, rfl⟩ ?_
  refine go_aload_n (pc := 37) C 0 dX10_frames_37 rfl ?_
  refine go_gR (pc := 38) C fdX10_16 dX10_frames_38 (fun x11 => ?_)
  refine go_bind (fun q12 hq12 => ?_)
  refine go_callV (rest := []) (st' := [.int q12]) (c' := 0) (s' := 0) (pc := 41) C O miX10_96 mvX9_frameTotal [] rfl (mX9_frameTotal hq12).1 (mX9_frameTotal hq12).2 dX10_frames_41 ⟨by decide, by decide, by decide, by decide⟩ rfl (Nat.le_of_ble_eq_true rfl) rfl ⟨rfl, rfl⟩ ?_
  exact go_iret (w := wIh) (pc := 44) C E ((q12, q10)) q12 dX10_frames_44 rfl
theorem dX10_deepest_0 : decode cX10_deepest 0 = .ok (.bipush (-2), 2) := by decide +kernel
theorem dX10_deepest_2 : decode cX10_deepest 2 = .ok (.istore_n 1, 1) := by decide +kernel
theorem dX10_deepest_3 : decode cX10_deepest 3 = .ok (.iconst 0, 1) := by decide +kernel
theorem dX10_deepest_4 : decode cX10_deepest 4 = .ok (.istore_n 2, 1) := by decide +kernel
theorem dX10_deepest_5 : decode cX10_deepest 5 = .ok (.iconst 0, 1) := by decide +kernel
theorem dX10_deepest_6 : decode cX10_deepest 6 = .ok (.istore_n 3, 1) := by decide +kernel
theorem dX10_deepest_7 : decode cX10_deepest 7 = .ok (.iconst 0, 1) := by decide +kernel
theorem dX10_deepest_8 : decode cX10_deepest 8 = .ok (.istore 4, 2) := by decide +kernel
theorem dX10_deepest_10 : decode cX10_deepest 10 = .ok (.iload 4, 2) := by decide +kernel
theorem dX10_deepest_12 : decode cX10_deepest 12 = .ok (.bipush 6, 2) := by decide +kernel
theorem dX10_deepest_14 : decode cX10_deepest 14 = .ok (.if_icmp .ge 48, 3) := by decide +kernel
theorem dX10_deepest_17 : decode cX10_deepest 17 = .ok (.aload_n 0, 1) := by decide +kernel
theorem dX10_deepest_18 : decode cX10_deepest 18 = .ok (.getfield 16, 3) := by decide +kernel
theorem dX10_deepest_21 : decode cX10_deepest 21 = .ok (.iload 4, 2) := by decide +kernel
theorem dX10_deepest_23 : decode cX10_deepest 23 = .ok (.invokevirtual 151, 3) := by decide +kernel
theorem dX10_deepest_26 : decode cX10_deepest 26 = .ok (.istore 5, 2) := by decide +kernel
theorem dX10_deepest_28 : decode cX10_deepest 28 = .ok (.iload 5, 2) := by decide +kernel
theorem dX10_deepest_30 : decode cX10_deepest 30 = .ok (.iload_n 2, 1) := by decide +kernel
theorem dX10_deepest_31 : decode cX10_deepest 31 = .ok (.if_icmp .le 11, 3) := by decide +kernel
theorem dX10_deepest_34 : decode cX10_deepest 34 = .ok (.iload 4, 2) := by decide +kernel
theorem dX10_deepest_36 : decode cX10_deepest 36 = .ok (.istore_n 1, 1) := by decide +kernel
theorem dX10_deepest_37 : decode cX10_deepest 37 = .ok (.iload 5, 2) := by decide +kernel
theorem dX10_deepest_39 : decode cX10_deepest 39 = .ok (.istore_n 2, 1) := by decide +kernel
theorem dX10_deepest_40 : decode cX10_deepest 40 = .ok (.iconst 0, 1) := by decide +kernel
theorem dX10_deepest_41 : decode cX10_deepest 41 = .ok (.istore_n 3, 1) := by decide +kernel
theorem dX10_deepest_42 : decode cX10_deepest 42 = .ok (.iload_n 3, 1) := by decide +kernel
theorem dX10_deepest_43 : decode cX10_deepest 43 = .ok (.iload 5, 2) := by decide +kernel
theorem dX10_deepest_45 : decode cX10_deepest 45 = .ok (.iload_n 2, 1) := by decide +kernel
theorem dX10_deepest_46 : decode cX10_deepest 46 = .ok (.if_icmp .ne 7, 3) := by decide +kernel
theorem dX10_deepest_49 : decode cX10_deepest 49 = .ok (.iconst 1, 1) := by decide +kernel
theorem dX10_deepest_50 : decode cX10_deepest 50 = .ok (.goto 4, 3) := by decide +kernel
theorem dX10_deepest_53 : decode cX10_deepest 53 = .ok (.iconst 0, 1) := by decide +kernel
theorem dX10_deepest_54 : decode cX10_deepest 54 = .ok (.iadd, 1) := by decide +kernel
theorem dX10_deepest_55 : decode cX10_deepest 55 = .ok (.istore_n 3, 1) := by decide +kernel
theorem dX10_deepest_56 : decode cX10_deepest 56 = .ok (.iinc 4 1, 3) := by decide +kernel
theorem dX10_deepest_59 : decode cX10_deepest 59 = .ok (.goto (-49), 3) := by decide +kernel
theorem dX10_deepest_62 : decode cX10_deepest 62 = .ok (.iload_n 1, 1) := by decide +kernel
theorem dX10_deepest_63 : decode cX10_deepest 63 = .ok (.ifCond .lt 28, 3) := by decide +kernel
theorem dX10_deepest_66 : decode cX10_deepest 66 = .ok (.aload_n 0, 1) := by decide +kernel
theorem dX10_deepest_67 : decode cX10_deepest 67 = .ok (.getfield 50, 3) := by decide +kernel
theorem dX10_deepest_70 : decode cX10_deepest 70 = .ok (.invokevirtual 209, 3) := by decide +kernel
theorem dX10_deepest_73 : decode cX10_deepest 73 = .ok (.aload_n 0, 1) := by decide +kernel
theorem dX10_deepest_74 : decode cX10_deepest 74 = .ok (.getfield 50, 3) := by decide +kernel
theorem dX10_deepest_77 : decode cX10_deepest 77 = .ok (.iload_n 2, 1) := by decide +kernel
theorem dX10_deepest_78 : decode cX10_deepest 78 = .ok (.i2l, 1) := by decide +kernel
theorem dX10_deepest_79 : decode cX10_deepest 79 = .ok (.invokevirtual 212, 3) := by decide +kernel
theorem dX10_deepest_82 : decode cX10_deepest 82 = .ok (.aload_n 0, 1) := by decide +kernel
theorem dX10_deepest_83 : decode cX10_deepest 83 = .ok (.getfield 50, 3) := by decide +kernel
theorem dX10_deepest_86 : decode cX10_deepest 86 = .ok (.iload_n 3, 1) := by decide +kernel
theorem dX10_deepest_87 : decode cX10_deepest 87 = .ok (.i2l, 1) := by decide +kernel
theorem dX10_deepest_88 : decode cX10_deepest 88 = .ok (.invokevirtual 212, 3) := by decide +kernel
theorem dX10_deepest_91 : decode cX10_deepest 91 = .ok (.iload_n 1, 1) := by decide +kernel
theorem dX10_deepest_92 : decode cX10_deepest 92 = .ok (.ireturn, 1) := by decide +kernel
def fX10_deepest_J54 (k10 : AH → Nat → Int32 → Int32 → Int32 → Int32 → Option (Int32 × AH)) (h : AH) (v0 : Nat) (v1 : Int32) (v2 : Int32) (v4 : Int32) (s0 : Int32) (s1 : Int32) : Option (Int32 × AH) :=
    letF (s1 + s0 : Int32) fun x1 =>
    letF (v4 + 1 : Int32) fun x2 =>
    k10 h v0 v1 v2 x1 x2
def fX10_deepest_J42 (k10 : AH → Nat → Int32 → Int32 → Int32 → Int32 → Option (Int32 × AH)) (h : AH) (v0 : Nat) (v1 : Int32) (v2 : Int32) (v3 : Int32) (v4 : Int32) (v5 : Int32) : Option (Int32 × AH) :=
    if v5 = v2 then (
      fX10_deepest_J54 k10 h v0 v1 v2 v4 1 v3
    ) else (
      fX10_deepest_J54 k10 h v0 v1 v2 v4 0 v3
    )
def fX10_deepest_L10 (k62 : AH → Nat → Int32 → Int32 → Int32 → Option (Int32 × AH)) : Nat → AH → Nat → Int32 → Int32 → Int32 → Int32 → Option (Int32 × AH)
  | 0, _, _, _, _, _, _ => none
  | n + 1, h, v0, v1, v2, v3, v4 =>
    if 6 ≤ v4 then (
      k62 h v0 v1 v2 v3
    ) else (
      (gR h 10 v0 2).bind fun x3 =>
      (fX9_chainLength h x3 v4).bind fun q4 =>
      if q4 ≤ v2 then (
        fX10_deepest_J42 (fX10_deepest_L10 k62 n) h v0 v1 v2 v3 v4 q4
      ) else (
        fX10_deepest_J42 (fX10_deepest_L10 k62 n) h v0 v4 q4 0 v4 q4
      )
    )
def fX10_deepest (h : AH) (a0 : Nat) : Option (Int32 × AH) :=
  if hasC h 10 a0 = true then (
    fX10_deepest_L10
      (fun h9 x5 x6 x7 x8 =>
        if x6 < 0 then (
          some ((x6, h9))
        ) else (
          (gR h9 10 x5 8).bind fun x10 =>
          (fX5_clear h9 x10).bind fun q11 =>
          (gR q11 10 x5 8).bind fun x12 =>
          (fX5_add q11 x12 (Int32.toInt64 x7)).bind fun q13 =>
          (gR q13 10 x5 8).bind fun x14 =>
          (fX5_add q13 x14 (Int32.toInt64 x8)).bind fun q15 =>
          some ((x6, q15))
        ))
      FU h a0 ((-2)) 0 0 0
  ) else none
set_option maxHeartbeats 4000000 in
theorem gX10_deepest_J54 {Y : YT} {X : XT} (C : CT Y X RX10 cX10_deepest 6) (O : RO X 4 0 0) {r : Int32 × AH} (E : RX Y X (some .int) (some (.int r.1)) r.2 0 0) {k10 : AH → Nat → Int32 → Int32 → Int32 → Int32 → Option (Int32 × AH)} (hk10 : ∀ (h : AH) (v0 : Nat) (v1 : Int32) (v2 : Int32) (v3 : Int32) (v4 : Int32), GO Y X 6 r h 0 0 10 [(0, .ref v0), (1, .int v1), (2, .int v2), (3, .int v3), (4, .int v4)] [] (k10 h v0 v1 v2 v3 v4)) : ∀ (h : AH) (v0 : Nat) (v1 : Int32) (v2 : Int32) (v4 : Int32) (s0 : Int32) (s1 : Int32), GO Y X 6 r h 0 0 54 [(0, .ref v0), (1, .int v1), (2, .int v2), (4, .int v4)] [.int s0, .int s1] (fX10_deepest_J54 k10 h v0 v1 v2 v4 s0 s1) := by
  intro h v0 v1 v2 v4 s0 s1
  unfold fX10_deepest_J54
  refine go_iadd (pc := 54) C dX10_deepest_54 ?_
  refine go_istore_nL (pc := 55) C dX10_deepest_55 (by decide) (fun x1 => [(3, .int x1), (0, .ref v0), (1, .int v1), (2, .int v2), (4, .int v4)]) (fun _ => rfl) (fun x1 => ?_)
  refine go_iincL (pc := 56) C 4 dX10_deepest_56 rfl ki_1 (by decide) (fun x2 => [(4, .int x2), (3, .int x1), (0, .ref v0), (1, .int v1), (2, .int v2)]) (fun _ => rfl) (fun x2 => ?_)
  refine go_goto (pc := 59) C 10 dX10_deepest_59 (by decide) ?_
  refine go_sub (ls' := [(0, .ref v0), (1, .int v1), (2, .int v2), (3, .int x1), (4, .int x2)]) [2, 3, 4, 1, 0] rfl ?_
  exact hk10 h v0 v1 v2 x1 x2
set_option maxHeartbeats 4000000 in
theorem gX10_deepest_J42 {Y : YT} {X : XT} (C : CT Y X RX10 cX10_deepest 6) (O : RO X 4 0 0) {r : Int32 × AH} (E : RX Y X (some .int) (some (.int r.1)) r.2 0 0) {k10 : AH → Nat → Int32 → Int32 → Int32 → Int32 → Option (Int32 × AH)} (hk10 : ∀ (h : AH) (v0 : Nat) (v1 : Int32) (v2 : Int32) (v3 : Int32) (v4 : Int32), GO Y X 6 r h 0 0 10 [(0, .ref v0), (1, .int v1), (2, .int v2), (3, .int v3), (4, .int v4)] [] (k10 h v0 v1 v2 v3 v4)) : ∀ (h : AH) (v0 : Nat) (v1 : Int32) (v2 : Int32) (v3 : Int32) (v4 : Int32) (v5 : Int32), GO Y X 6 r h 0 0 42 [(0, .ref v0), (1, .int v1), (2, .int v2), (3, .int v3), (4, .int v4), (5, .int v5)] [] (fX10_deepest_J42 k10 h v0 v1 v2 v3 v4 v5) := by
  intro h v0 v1 v2 v3 v4 v5
  unfold fX10_deepest_J42
  refine go_iload_n (pc := 42) C 3 dX10_deepest_42 rfl ?_
  refine go_iload (pc := 43) C 5 dX10_deepest_43 rfl ?_
  refine go_iload_n (pc := 45) C 2 dX10_deepest_45 rfl ?_
  refine go_icmp_ne (pc := 46) C 53 dX10_deepest_46 (by decide) (fun _ => ?_) (fun _ => ?_)
  · refine go_iconst (pc := 49) C dX10_deepest_49 ki_1 ?_
    refine go_goto (pc := 50) C 54 dX10_deepest_50 (by decide) ?_
    refine go_sub (ls' := [(0, .ref v0), (1, .int v1), (2, .int v2), (4, .int v4)]) [0, 1, 2, 4] rfl ?_
    refine gX10_deepest_J54 C O E (hk10) h v0 v1 v2 v4 1 v3
  · refine go_iconst (pc := 53) C dX10_deepest_53 ki_0 ?_
    refine go_sub (ls' := [(0, .ref v0), (1, .int v1), (2, .int v2), (4, .int v4)]) [0, 1, 2, 4] rfl ?_
    refine gX10_deepest_J54 C O E (hk10) h v0 v1 v2 v4 0 v3
set_option maxHeartbeats 4000000 in
theorem gX10_deepest_L10 {Y : YT} {X : XT} (C : CT Y X RX10 cX10_deepest 6) (O : RO X 4 0 0) {r : Int32 × AH} (E : RX Y X (some .int) (some (.int r.1)) r.2 0 0) {k62 : AH → Nat → Int32 → Int32 → Int32 → Option (Int32 × AH)} (hk62 : ∀ (h : AH) (v0 : Nat) (v1 : Int32) (v2 : Int32) (v3 : Int32), GO Y X 6 r h 0 0 62 [(0, .ref v0), (1, .int v1), (2, .int v2), (3, .int v3)] [] (k62 h v0 v1 v2 v3)) : ∀ (n : Nat) (h : AH) (v0 : Nat) (v1 : Int32) (v2 : Int32) (v3 : Int32) (v4 : Int32), GO Y X 6 r h 0 0 10 [(0, .ref v0), (1, .int v1), (2, .int v2), (3, .int v3), (4, .int v4)] [] (fX10_deepest_L10 k62 n h v0 v1 v2 v3 v4) := by
  intro n
  induction n with
  | zero => intros; exact go_none _ _ _
  | succ n ih =>
    intro h v0 v1 v2 v3 v4
    rw [fX10_deepest_L10]
    refine go_iload (pc := 10) C 4 dX10_deepest_10 rfl ?_
    refine go_bipush (pc := 12) C dX10_deepest_12 kb_6 ?_
    refine go_icmp_ge (pc := 14) C 62 dX10_deepest_14 (by decide) (fun _ => ?_) (fun _ => ?_)
    · refine go_sub (ls' := [(0, .ref v0), (1, .int v1), (2, .int v2), (3, .int v3)]) [0, 1, 2, 3] rfl ?_
      exact hk62 h v0 v1 v2 v3
    · refine go_aload_n (pc := 17) C 0 dX10_deepest_17 rfl ?_
      refine go_gR (pc := 18) C fdX10_16 dX10_deepest_18 (fun x3 => ?_)
      refine go_iload (pc := 21) C 4 dX10_deepest_21 rfl ?_
      refine go_bind (fun q4 hq4 => ?_)
      refine go_callV (rest := []) (st' := [.int q4]) (c' := 0) (s' := 0) (pc := 23) C O miX10_151 mvX9_chainLength [.int v4] rfl (mX9_chainLength hq4).1 (mX9_chainLength hq4).2 dX10_deepest_23 ⟨by decide, by decide, by decide, by decide⟩ rfl (Nat.le_of_ble_eq_true rfl) rfl ⟨rfl, rfl⟩ ?_
      refine go_istore (ls' := [(5, .int q4), (0, .ref v0), (1, .int v1), (2, .int v2), (3, .int v3), (4, .int v4)]) (pc := 26) C dX10_deepest_26 (by decide) rfl ?_
      refine go_iload (pc := 28) C 0 dX10_deepest_28 rfl ?_
      refine go_iload_n (pc := 30) C 3 dX10_deepest_30 rfl ?_
      refine go_icmp_le (pc := 31) C 42 dX10_deepest_31 (by decide) (fun _ => ?_) (fun _ => ?_)
      · refine go_sub (ls' := [(0, .ref v0), (1, .int v1), (2, .int v2), (3, .int v3), (4, .int v4), (5, .int q4)]) [1, 2, 3, 4, 5, 0] rfl ?_
        refine gX10_deepest_J42 C O E (ih) h v0 v1 v2 v3 v4 q4
      · refine go_iload (pc := 34) C 5 dX10_deepest_34 rfl ?_
        refine go_istore_n (ls' := [(1, .int v4), (5, .int q4), (0, .ref v0), (2, .int v2), (3, .int v3), (4, .int v4)]) (pc := 36) C dX10_deepest_36 (by decide) rfl ?_
        refine go_iload (pc := 37) C 1 dX10_deepest_37 rfl ?_
        refine go_istore_n (ls' := [(2, .int q4), (1, .int v4), (5, .int q4), (0, .ref v0), (3, .int v3), (4, .int v4)]) (pc := 39) C dX10_deepest_39 (by decide) rfl ?_
        refine go_iconst (pc := 40) C dX10_deepest_40 ki_0 ?_
        refine go_istore_n (ls' := [(3, .int 0), (2, .int q4), (1, .int v4), (5, .int q4), (0, .ref v0), (4, .int v4)]) (pc := 41) C dX10_deepest_41 (by decide) rfl ?_
        refine go_sub (ls' := [(0, .ref v0), (1, .int v4), (2, .int q4), (3, .int 0), (4, .int v4), (5, .int q4)]) [4, 2, 1, 0, 5, 3] rfl ?_
        refine gX10_deepest_J42 C O E (ih) h v0 v4 q4 0 v4 q4
set_option maxHeartbeats 4000000 in
theorem mX10_deepest {h : AH} {a0 : Nat} {r : Int32 × AH} (hr : fX10_deepest h a0 = some r) : hasC h 10 a0 = true ∧ MC yX10_deepest cX10_deepest 6 (some .int) 4 0 0 [.ref a0] h (some (.int r.1)) r.2 := by
  unfold fX10_deepest at hr
  obtain ⟨hc, hr⟩ := if_some hr
  refine ⟨hc, mc_of (l0 := [(0, .ref a0)]) rfl pn_X10 (Nat.le_of_ble_eq_true rfl) (fun Y X C E O hnm => go_run hr ?_)⟩
  have C : CT Y X RX10 cX10_deepest 6 := C
  refine go_bipush (pc := 0) C dX10_deepest_0 kb_m2 ?_
  refine go_istore_n (ls' := [(1, .int ((-2))), (0, .ref a0)]) (pc := 2) C dX10_deepest_2 (by decide) rfl ?_
  refine go_iconst (pc := 3) C dX10_deepest_3 ki_0 ?_
  refine go_istore_n (ls' := [(2, .int 0), (1, .int ((-2))), (0, .ref a0)]) (pc := 4) C dX10_deepest_4 (by decide) rfl ?_
  refine go_iconst (pc := 5) C dX10_deepest_5 ki_0 ?_
  refine go_istore_n (ls' := [(3, .int 0), (2, .int 0), (1, .int ((-2))), (0, .ref a0)]) (pc := 6) C dX10_deepest_6 (by decide) rfl ?_
  refine go_iconst (pc := 7) C dX10_deepest_7 ki_0 ?_
  refine go_istore (ls' := [(4, .int 0), (3, .int 0), (2, .int 0), (1, .int ((-2))), (0, .ref a0)]) (pc := 8) C dX10_deepest_8 (by decide) rfl ?_
  refine go_sub (ls' := [(0, .ref a0), (1, .int ((-2))), (2, .int 0), (3, .int 0), (4, .int 0)]) [4, 3, 2, 1, 0] rfl ?_
  refine gX10_deepest_L10 C O E (fun h9 x5 x6 x7 x8 => ?_) FU h a0 ((-2)) 0 0 0
  · refine go_iload_n (pc := 62) C 1 dX10_deepest_62 rfl ?_
    refine go_if_lt (pc := 63) C 91 dX10_deepest_63 (by decide) (fun _ => ?_) (fun _ => ?_)
    · refine go_iload_n (pc := 91) C 1 dX10_deepest_91 rfl ?_
      exact go_iret (w := wIh) (pc := 92) C E ((x6, h9)) x6 dX10_deepest_92 rfl
    · refine go_aload_n (pc := 66) C 0 dX10_deepest_66 rfl ?_
      refine go_gR (pc := 67) C fdX10_50 dX10_deepest_67 (fun x10 => ?_)
      refine go_bind (fun q11 hq11 => ?_)
      refine go_callV (rest := []) (st' := []) (c' := 0) (s' := 0) (pc := 70) C O miX10_209 mvX5_clear [] rfl (mX5_clear hq11).1 (mX5_clear hq11).2 dX10_deepest_70 ⟨by decide, by decide, by decide, by decide⟩ rfl (Nat.le_of_ble_eq_true rfl) rfl ⟨rfl, rfl⟩ ?_
      refine go_aload_n (pc := 73) C 0 dX10_deepest_73 rfl ?_
      refine go_gR (pc := 74) C fdX10_50 dX10_deepest_74 (fun x12 => ?_)
      refine go_iload_n (pc := 77) C 2 dX10_deepest_77 rfl ?_
      refine go_i2l (pc := 78) C dX10_deepest_78 ?_
      refine go_bind (fun q13 hq13 => ?_)
      refine go_callV (rest := []) (st' := []) (c' := 0) (s' := 0) (pc := 79) C O miX10_212 mvX5_add [.long (Int32.toInt64 x7)] rfl (mX5_add hq13).1 (mX5_add hq13).2 dX10_deepest_79 ⟨by decide, by decide, by decide, by decide⟩ rfl (Nat.le_of_ble_eq_true rfl) rfl ⟨rfl, rfl⟩ ?_
      refine go_aload_n (pc := 82) C 0 dX10_deepest_82 rfl ?_
      refine go_gR (pc := 83) C fdX10_50 dX10_deepest_83 (fun x14 => ?_)
      refine go_iload_n (pc := 86) C 3 dX10_deepest_86 rfl ?_
      refine go_i2l (pc := 87) C dX10_deepest_87 ?_
      refine go_bind (fun q15 hq15 => ?_)
      refine go_callV (rest := []) (st' := []) (c' := 0) (s' := 0) (pc := 88) C O miX10_212 mvX5_add [.long (Int32.toInt64 x8)] rfl (mX5_add hq15).1 (mX5_add hq15).2 dX10_deepest_88 ⟨by decide, by decide, by decide, by decide⟩ rfl (Nat.le_of_ble_eq_true rfl) rfl ⟨rfl, rfl⟩ ?_
      refine go_iload_n (pc := 91) C 1 dX10_deepest_91 rfl ?_
      exact go_iret (w := wIh) (pc := 92) C E ((x6, q15)) x6 dX10_deepest_92 rfl
theorem dX10_would_0 : decode cX10_would 0 = .ok (.aload_n 0, 1) := by decide +kernel
theorem dX10_would_1 : decode cX10_would 1 = .ok (.getfield 20, 3) := by decide +kernel
theorem dX10_would_4 : decode cX10_would 4 = .ok (.aload_n 0, 1) := by decide +kernel
theorem dX10_would_5 : decode cX10_would 5 = .ok (.getfield 16, 3) := by decide +kernel
theorem dX10_would_8 : decode cX10_would 8 = .ok (.invokevirtual 286, 3) := by decide +kernel
theorem dX10_would_11 : decode cX10_would 11 = .ok (.aload_n 0, 1) := by decide +kernel
theorem dX10_would_12 : decode cX10_would 12 = .ok (.getfield 20, 3) := by decide +kernel
theorem dX10_would_15 : decode cX10_would 15 = .ok (.iload_n 1, 1) := by decide +kernel
theorem dX10_would_16 : decode cX10_would 16 = .ok (.invokevirtual 233, 3) := by decide +kernel
theorem dX10_would_19 : decode cX10_would 19 = .ok (.istore_n 2, 1) := by decide +kernel
theorem dX10_would_20 : decode cX10_would 20 = .ok (.iload_n 2, 1) := by decide +kernel
theorem dX10_would_21 : decode cX10_would 21 = .ok (.ifCond .lt 27, 3) := by decide +kernel
theorem dX10_would_24 : decode cX10_would 24 = .ok (.aload_n 0, 1) := by decide +kernel
theorem dX10_would_25 : decode cX10_would 25 = .ok (.aload_n 0, 1) := by decide +kernel
theorem dX10_would_26 : decode cX10_would 26 = .ok (.getfield 20, 3) := by decide +kernel
theorem dX10_would_29 : decode cX10_would 29 = .ok (.iload_n 1, 1) := by decide +kernel
theorem dX10_would_30 : decode cX10_would 30 = .ok (.invokevirtual 236, 3) := by decide +kernel
theorem dX10_would_33 : decode cX10_would 33 = .ok (.aload_n 0, 1) := by decide +kernel
theorem dX10_would_34 : decode cX10_would 34 = .ok (.getfield 50, 3) := by decide +kernel
theorem dX10_would_37 : decode cX10_would 37 = .ok (.aload_n 0, 1) := by decide +kernel
theorem dX10_would_38 : decode cX10_would 38 = .ok (.getfield 20, 3) := by decide +kernel
theorem dX10_would_41 : decode cX10_would 41 = .ok (.invokevirtual 96, 3) := by decide +kernel
theorem dX10_would_44 : decode cX10_would 44 = .ok (.i2l, 1) := by decide +kernel
theorem dX10_would_45 : decode cX10_would 45 = .ok (.invokevirtual 212, 3) := by decide +kernel
theorem dX10_would_48 : decode cX10_would 48 = .ok (.iload_n 2, 1) := by decide +kernel
theorem dX10_would_49 : decode cX10_would 49 = .ok (.ireturn, 1) := by decide +kernel
def fX10_would (h : AH) (a0 : Nat) (a1 : Int32) : Option (Int32 × AH) :=
  if hasC h 10 a0 = true then (
    (gR h 10 a0 3).bind fun x1 =>
    (gR h 10 a0 2).bind fun x2 =>
    (fX9_copyFrom h x1 x2).bind fun q3 =>
    (gR q3 10 a0 3).bind fun x4 =>
    (fX9_tidyChain q3 x4 a1).bind fun q5 =>
    if q5.1 < 0 then (
      some ((q5.1, q5.2))
    ) else (
      (gR q5.2 10 a0 3).bind fun x6 =>
      (fX10_tellTidying q5.2 a0 x6 a1).bind fun q7 =>
      (gR q7 10 a0 8).bind fun x8 =>
      (gR q7 10 a0 3).bind fun x9 =>
      (fX9_frameTotal q7 x9).bind fun q10 =>
      (fX5_add q7 x8 (Int32.toInt64 q10)).bind fun q11 =>
      some ((q5.1, q11))
    )
  ) else none
set_option maxHeartbeats 4000000 in
theorem mX10_would {h : AH} {a0 : Nat} {a1 : Int32} {r : Int32 × AH} (hr : fX10_would h a0 a1 = some r) : hasC h 10 a0 = true ∧ MC yX10_would cX10_would 3 (some .int) 6 0 0 [.ref a0, .int a1] h (some (.int r.1)) r.2 := by
  unfold fX10_would at hr
  obtain ⟨hc, hr⟩ := if_some hr
  refine ⟨hc, mc_of (l0 := [(0, .ref a0), (1, .int a1)]) rfl pn_X10 (Nat.le_of_ble_eq_true rfl) (fun Y X C E O hnm => go_run hr ?_)⟩
  have C : CT Y X RX10 cX10_would 3 := C
  refine go_aload_n (pc := 0) C 0 dX10_would_0 rfl ?_
  refine go_gR (pc := 1) C fdX10_20 dX10_would_1 (fun x1 => ?_)
  refine go_aload_n (pc := 4) C 0 dX10_would_4 rfl ?_
  refine go_gR (pc := 5) C fdX10_16 dX10_would_5 (fun x2 => ?_)
  refine go_bind (fun q3 hq3 => ?_)
  refine go_callV (rest := []) (st' := []) (c' := 0) (s' := 0) (pc := 8) C O miX10_286 mvX9_copyFrom [.ref x2] rfl (mX9_copyFrom hq3).1 (mX9_copyFrom hq3).2 dX10_would_8 ⟨by decide, by decide, by decide, by decide⟩ rfl (Nat.le_of_ble_eq_true rfl) rfl ⟨rfl, rfl⟩ ?_
  refine go_aload_n (pc := 11) C 0 dX10_would_11 rfl ?_
  refine go_gR (pc := 12) C fdX10_20 dX10_would_12 (fun x4 => ?_)
  refine go_iload_n (pc := 15) C 1 dX10_would_15 rfl ?_
  refine go_bind (fun q5 hq5 => ?_)
  refine go_callV (rest := []) (st' := [.int q5.1]) (c' := 0) (s' := 0) (pc := 16) C O miX10_233 mvX9_tidyChain [.int a1] rfl (mX9_tidyChain hq5).1 (mX9_tidyChain hq5).2 dX10_would_16 ⟨by decide, by decide, by decide, by decide⟩ rfl (Nat.le_of_ble_eq_true rfl) rfl ⟨rfl, rfl⟩ ?_
  refine go_istore_n (ls' := [(2, .int q5.1), (0, .ref a0), (1, .int a1)]) (pc := 19) C dX10_would_19 (by decide) rfl ?_
  refine go_iload_n (pc := 20) C 0 dX10_would_20 rfl ?_
  refine go_if_lt (pc := 21) C 48 dX10_would_21 (by decide) (fun _ => ?_) (fun _ => ?_)
  · refine go_iload_n (pc := 48) C 0 dX10_would_48 rfl ?_
    exact go_iret (w := wIh) (pc := 49) C E ((q5.1, q5.2)) q5.1 dX10_would_49 rfl
  · refine go_aload_n (pc := 24) C 1 dX10_would_24 rfl ?_
    refine go_aload_n (pc := 25) C 1 dX10_would_25 rfl ?_
    refine go_gR (pc := 26) C fdX10_20 dX10_would_26 (fun x6 => ?_)
    refine go_iload_n (pc := 29) C 2 dX10_would_29 rfl ?_
    refine go_bind (fun q7 hq7 => ?_)
    refine go_callV (rest := []) (st' := []) (c' := 0) (s' := 0) (pc := 30) C O miX10_236 mvX10_tellTidying [.ref x6, .int a1] rfl (mX10_tellTidying hq7).1 (mX10_tellTidying hq7).2 dX10_would_30 ⟨by decide, by decide, by decide, by decide⟩ rfl (Nat.le_of_ble_eq_true rfl) rfl ⟨rfl, rfl⟩ ?_
    refine go_aload_n (pc := 33) C 1 dX10_would_33 rfl ?_
    refine go_gR (pc := 34) C fdX10_50 dX10_would_34 (fun x8 => ?_)
    refine go_aload_n (pc := 37) C 1 dX10_would_37 rfl ?_
    refine go_gR (pc := 38) C fdX10_20 dX10_would_38 (fun x9 => ?_)
    refine go_bind (fun q10 hq10 => ?_)
    refine go_callV (rest := [.ref x8]) (st' := [.int q10, .ref x8]) (c' := 0) (s' := 0) (pc := 41) C O miX10_96 mvX9_frameTotal [] rfl (mX9_frameTotal hq10).1 (mX9_frameTotal hq10).2 dX10_would_41 ⟨by decide, by decide, by decide, by decide⟩ rfl (Nat.le_of_ble_eq_true rfl) rfl ⟨rfl, rfl⟩ ?_
    refine go_i2l (pc := 44) C dX10_would_44 ?_
    refine go_bind (fun q11 hq11 => ?_)
    refine go_callV (rest := []) (st' := []) (c' := 0) (s' := 0) (pc := 45) C O miX10_212 mvX5_add [.long (Int32.toInt64 q10)] rfl (mX5_add hq11).1 (mX5_add hq11).2 dX10_would_45 ⟨by decide, by decide, by decide, by decide⟩ rfl (Nat.le_of_ble_eq_true rfl) rfl ⟨rfl, rfl⟩ ?_
    refine go_iload_n (pc := 48) C 0 dX10_would_48 rfl ?_
    exact go_iret (w := wIh) (pc := 49) C E ((q5.1, q11)) q5.1 dX10_would_49 rfl
theorem dX10_frees_0 : decode cX10_frees 0 = .ok (.aload_n 0, 1) := by decide +kernel
theorem dX10_frees_1 : decode cX10_frees 1 = .ok (.getfield 16, 3) := by decide +kernel
theorem dX10_frees_4 : decode cX10_frees 4 = .ok (.iload_n 1, 1) := by decide +kernel
theorem dX10_frees_5 : decode cX10_frees 5 = .ok (.invokevirtual 162, 3) := by decide +kernel
theorem dX10_frees_8 : decode cX10_frees 8 = .ok (.ifCond .ne 5, 3) := by decide +kernel
theorem dX10_frees_11 : decode cX10_frees 11 = .ok (.iconst (-1), 1) := by decide +kernel
theorem dX10_frees_12 : decode cX10_frees 12 = .ok (.ireturn, 1) := by decide +kernel
theorem dX10_frees_13 : decode cX10_frees 13 = .ok (.aload_n 0, 1) := by decide +kernel
theorem dX10_frees_14 : decode cX10_frees 14 = .ok (.getfield 16, 3) := by decide +kernel
theorem dX10_frees_17 : decode cX10_frees 17 = .ok (.iload_n 1, 1) := by decide +kernel
theorem dX10_frees_18 : decode cX10_frees 18 = .ok (.invokevirtual 268, 3) := by decide +kernel
theorem dX10_frees_21 : decode cX10_frees 21 = .ok (.istore_n 2, 1) := by decide +kernel
theorem dX10_frees_22 : decode cX10_frees 22 = .ok (.aload_n 0, 1) := by decide +kernel
theorem dX10_frees_23 : decode cX10_frees 23 = .ok (.getfield 20, 3) := by decide +kernel
theorem dX10_frees_26 : decode cX10_frees 26 = .ok (.aload_n 0, 1) := by decide +kernel
theorem dX10_frees_27 : decode cX10_frees 27 = .ok (.getfield 16, 3) := by decide +kernel
theorem dX10_frees_30 : decode cX10_frees 30 = .ok (.invokevirtual 286, 3) := by decide +kernel
theorem dX10_frees_33 : decode cX10_frees 33 = .ok (.iconst 0, 1) := by decide +kernel
theorem dX10_frees_34 : decode cX10_frees 34 = .ok (.istore_n 3, 1) := by decide +kernel
theorem dX10_frees_35 : decode cX10_frees 35 = .ok (.iload_n 3, 1) := by decide +kernel
theorem dX10_frees_36 : decode cX10_frees 36 = .ok (.bipush 6, 2) := by decide +kernel
theorem dX10_frees_38 : decode cX10_frees 38 = .ok (.if_icmp .ge 26, 3) := by decide +kernel
theorem dX10_frees_41 : decode cX10_frees 41 = .ok (.iload_n 2, 1) := by decide +kernel
theorem dX10_frees_42 : decode cX10_frees 42 = .ok (.iload_n 3, 1) := by decide +kernel
theorem dX10_frees_43 : decode cX10_frees 43 = .ok (.invokestatic 288, 3) := by decide +kernel
theorem dX10_frees_46 : decode cX10_frees 46 = .ok (.ifCond .eq 12, 3) := by decide +kernel
theorem dX10_frees_49 : decode cX10_frees 49 = .ok (.aload_n 0, 1) := by decide +kernel
theorem dX10_frees_50 : decode cX10_frees 50 = .ok (.getfield 20, 3) := by decide +kernel
theorem dX10_frees_53 : decode cX10_frees 53 = .ok (.iload_n 3, 1) := by decide +kernel
theorem dX10_frees_54 : decode cX10_frees 54 = .ok (.invokevirtual 227, 3) := by decide +kernel
theorem dX10_frees_57 : decode cX10_frees 57 = .ok (.pop, 1) := by decide +kernel
theorem dX10_frees_58 : decode cX10_frees 58 = .ok (.iinc 3 1, 3) := by decide +kernel
theorem dX10_frees_61 : decode cX10_frees 61 = .ok (.goto (-26), 3) := by decide +kernel
theorem dX10_frees_64 : decode cX10_frees 64 = .ok (.aload_n 0, 1) := by decide +kernel
theorem dX10_frees_65 : decode cX10_frees 65 = .ok (.getfield 50, 3) := by decide +kernel
theorem dX10_frees_68 : decode cX10_frees 68 = .ok (.invokevirtual 209, 3) := by decide +kernel
theorem dX10_frees_71 : decode cX10_frees 71 = .ok (.aload_n 0, 1) := by decide +kernel
theorem dX10_frees_72 : decode cX10_frees 72 = .ok (.getfield 50, 3) := by decide +kernel
theorem dX10_frees_75 : decode cX10_frees 75 = .ok (.aload_n 0, 1) := by decide +kernel
theorem dX10_frees_76 : decode cX10_frees 76 = .ok (.getfield 20, 3) := by decide +kernel
theorem dX10_frees_79 : decode cX10_frees 79 = .ok (.invokevirtual 96, 3) := by decide +kernel
theorem dX10_frees_82 : decode cX10_frees 82 = .ok (.i2l, 1) := by decide +kernel
theorem dX10_frees_83 : decode cX10_frees 83 = .ok (.invokevirtual 212, 3) := by decide +kernel
theorem dX10_frees_86 : decode cX10_frees 86 = .ok (.iload_n 2, 1) := by decide +kernel
theorem dX10_frees_87 : decode cX10_frees 87 = .ok (.invokestatic 291, 3) := by decide +kernel
theorem dX10_frees_90 : decode cX10_frees 90 = .ok (.ireturn, 1) := by decide +kernel
def fX10_frees_L35 (k64 : AH → Nat → Int32 → Option (Int32 × AH)) : Nat → AH → Nat → Int32 → Int32 → Option (Int32 × AH)
  | 0, _, _, _, _ => none
  | n + 1, h, v0, v2, v3 =>
    if 6 ≤ v3 then (
      k64 h v0 v2
    ) else (
      (fX10_isIn h v2 v3).bind fun q1 =>
      if q1 = true then (
        (gR h 10 v0 3).bind fun x2 =>
        (fX9_endSpace h x2 v3).bind fun q3 =>
        letF (v3 + 1 : Int32) fun x4 =>
        fX10_frees_L35 k64 n q3.2 v0 v2 x4
      ) else (
        letF (v3 + 1 : Int32) fun x5 =>
        fX10_frees_L35 k64 n h v0 v2 x5
      )
    )
def fX10_frees (h : AH) (a0 : Nat) (a1 : Int32) : Option (Int32 × AH) :=
  if hasC h 10 a0 = true then (
    (gR h 10 a0 2).bind fun x6 =>
    (fX9_hasObject h x6 a1).bind fun q7 =>
    if q7 = true then (
      (gR h 10 a0 2).bind fun x8 =>
      (fX9_spacesAbove h x8 a1).bind fun q9 =>
      (gR h 10 a0 3).bind fun x10 =>
      (gR h 10 a0 2).bind fun x11 =>
      (fX9_copyFrom h x10 x11).bind fun q12 =>
      fX10_frees_L35
        (fun h15 x13 x14 =>
          (gR h15 10 x13 8).bind fun x16 =>
          (fX5_clear h15 x16).bind fun q17 =>
          (gR q17 10 x13 8).bind fun x18 =>
          (gR q17 10 x13 3).bind fun x19 =>
          (fX9_frameTotal q17 x19).bind fun q20 =>
          (fX5_add q17 x18 (Int32.toInt64 q20)).bind fun q21 =>
          (fJ6_bitCount_0f7a4 q21 x14).bind fun q22 =>
          some ((q22, q21)))
        FU q12 a0 q9 0
    ) else (
      some (((-1), h))
    )
  ) else none
set_option maxHeartbeats 4000000 in
theorem gX10_frees_L35 {Y : YT} {X : XT} (C : CT Y X RX10 cX10_frees 4) (O : RO X 5 0 0) {r : Int32 × AH} (E : RX Y X (some .int) (some (.int r.1)) r.2 0 0) {k64 : AH → Nat → Int32 → Option (Int32 × AH)} (hk64 : ∀ (h : AH) (v0 : Nat) (v2 : Int32), GO Y X 4 r h 0 0 64 [(0, .ref v0), (2, .int v2)] [] (k64 h v0 v2)) : ∀ (n : Nat) (h : AH) (v0 : Nat) (v2 : Int32) (v3 : Int32), GO Y X 4 r h 0 0 35 [(0, .ref v0), (2, .int v2), (3, .int v3)] [] (fX10_frees_L35 k64 n h v0 v2 v3) := by
  intro n
  induction n with
  | zero => intros; exact go_none _ _ _
  | succ n ih =>
    intro h v0 v2 v3
    rw [fX10_frees_L35]
    refine go_iload_n (pc := 35) C 2 dX10_frees_35 rfl ?_
    refine go_bipush (pc := 36) C dX10_frees_36 kb_6 ?_
    refine go_icmp_ge (pc := 38) C 64 dX10_frees_38 (by decide) (fun _ => ?_) (fun _ => ?_)
    · refine go_sub (ls' := [(0, .ref v0), (2, .int v2)]) [0, 1] rfl ?_
      exact hk64 h v0 v2
    · refine go_iload_n (pc := 41) C 1 dX10_frees_41 rfl ?_
      refine go_iload_n (pc := 42) C 2 dX10_frees_42 rfl ?_
      refine go_bind (fun q1 hq1 => ?_)
      refine go_callS (rest := []) (st' := [.int (b2i q1)]) (c' := 0) (s' := 0) (pc := 43) C O miX10_288 w_576 [.int v2, .int v3] rfl (mX10_isIn hq1) dX10_frees_43 ⟨by decide, by decide, by decide, by decide⟩ rfl (Nat.le_of_ble_eq_true rfl) rfl ⟨rfl, rfl⟩ ?_
      refine go_ifZ_eq (pc := 46) C 58 dX10_frees_46 (by decide) (fun _ => ?_) (fun _ => ?_)
      · refine go_aload_n (pc := 49) C 0 dX10_frees_49 rfl ?_
        refine go_gR (pc := 50) C fdX10_20 dX10_frees_50 (fun x2 => ?_)
        refine go_iload_n (pc := 53) C 2 dX10_frees_53 rfl ?_
        refine go_bind (fun q3 hq3 => ?_)
        refine go_callV (rest := []) (st' := [.int q3.1]) (c' := 0) (s' := 0) (pc := 54) C O miX10_227 mvX9_endSpace [.int v3] rfl (mX9_endSpace hq3).1 (mX9_endSpace hq3).2 dX10_frees_54 ⟨by decide, by decide, by decide, by decide⟩ rfl (Nat.le_of_ble_eq_true rfl) rfl ⟨rfl, rfl⟩ ?_
        refine go_pop (pc := 57) C dX10_frees_57 rfl ?_
        refine go_iincL (pc := 58) C 2 dX10_frees_58 rfl ki_1 (by decide) (fun x4 => [(3, .int x4), (0, .ref v0), (2, .int v2)]) (fun _ => rfl) (fun x4 => ?_)
        refine go_goto (pc := 61) C 35 dX10_frees_61 (by decide) ?_
        refine go_sub (ls' := [(0, .ref v0), (2, .int v2), (3, .int x4)]) [1, 2, 0] rfl ?_
        exact ih q3.2 v0 v2 x4
      · refine go_iincL (pc := 58) C 2 dX10_frees_58 rfl ki_1 (by decide) (fun x5 => [(3, .int x5), (0, .ref v0), (2, .int v2)]) (fun _ => rfl) (fun x5 => ?_)
        refine go_goto (pc := 61) C 35 dX10_frees_61 (by decide) ?_
        refine go_sub (ls' := [(0, .ref v0), (2, .int v2), (3, .int x5)]) [1, 2, 0] rfl ?_
        exact ih h v0 v2 x5
set_option maxHeartbeats 4000000 in
theorem mX10_frees {h : AH} {a0 : Nat} {a1 : Int32} {r : Int32 × AH} (hr : fX10_frees h a0 a1 = some r) : hasC h 10 a0 = true ∧ MC yX10_frees cX10_frees 4 (some .int) 5 0 0 [.ref a0, .int a1] h (some (.int r.1)) r.2 := by
  unfold fX10_frees at hr
  obtain ⟨hc, hr⟩ := if_some hr
  refine ⟨hc, mc_of (l0 := [(0, .ref a0), (1, .int a1)]) rfl pn_X10 (Nat.le_of_ble_eq_true rfl) (fun Y X C E O hnm => go_run hr ?_)⟩
  have C : CT Y X RX10 cX10_frees 4 := C
  refine go_aload_n (pc := 0) C 0 dX10_frees_0 rfl ?_
  refine go_gR (pc := 1) C fdX10_16 dX10_frees_1 (fun x6 => ?_)
  refine go_iload_n (pc := 4) C 1 dX10_frees_4 rfl ?_
  refine go_bind (fun q7 hq7 => ?_)
  refine go_callV (rest := []) (st' := [.int (b2i q7)]) (c' := 0) (s' := 0) (pc := 5) C O miX10_162 mvX9_hasObject [.int a1] rfl (mX9_hasObject hq7).1 (mX9_hasObject hq7).2 dX10_frees_5 ⟨by decide, by decide, by decide, by decide⟩ rfl (Nat.le_of_ble_eq_true rfl) rfl ⟨rfl, rfl⟩ ?_
  refine go_ifZ_ne (pc := 8) C 13 dX10_frees_8 (by decide) (fun _ => ?_) (fun _ => ?_)
  · refine go_aload_n (pc := 13) C 0 dX10_frees_13 rfl ?_
    refine go_gR (pc := 14) C fdX10_16 dX10_frees_14 (fun x8 => ?_)
    refine go_iload_n (pc := 17) C 1 dX10_frees_17 rfl ?_
    refine go_bind (fun q9 hq9 => ?_)
    refine go_callV (rest := []) (st' := [.int q9]) (c' := 0) (s' := 0) (pc := 18) C O miX10_268 mvX9_spacesAbove [.int a1] rfl (mX9_spacesAbove hq9).1 (mX9_spacesAbove hq9).2 dX10_frees_18 ⟨by decide, by decide, by decide, by decide⟩ rfl (Nat.le_of_ble_eq_true rfl) rfl ⟨rfl, rfl⟩ ?_
    refine go_istore_n (ls' := [(2, .int q9), (0, .ref a0), (1, .int a1)]) (pc := 21) C dX10_frees_21 (by decide) rfl ?_
    refine go_aload_n (pc := 22) C 1 dX10_frees_22 rfl ?_
    refine go_gR (pc := 23) C fdX10_20 dX10_frees_23 (fun x10 => ?_)
    refine go_aload_n (pc := 26) C 1 dX10_frees_26 rfl ?_
    refine go_gR (pc := 27) C fdX10_16 dX10_frees_27 (fun x11 => ?_)
    refine go_bind (fun q12 hq12 => ?_)
    refine go_callV (rest := []) (st' := []) (c' := 0) (s' := 0) (pc := 30) C O miX10_286 mvX9_copyFrom [.ref x11] rfl (mX9_copyFrom hq12).1 (mX9_copyFrom hq12).2 dX10_frees_30 ⟨by decide, by decide, by decide, by decide⟩ rfl (Nat.le_of_ble_eq_true rfl) rfl ⟨rfl, rfl⟩ ?_
    refine go_iconst (pc := 33) C dX10_frees_33 ki_0 ?_
    refine go_istore_n (ls' := [(3, .int 0), (2, .int q9), (0, .ref a0), (1, .int a1)]) (pc := 34) C dX10_frees_34 (by decide) rfl ?_
    refine go_sub (ls' := [(0, .ref a0), (2, .int q9), (3, .int 0)]) [2, 1, 0] rfl ?_
    refine gX10_frees_L35 C O E (fun h15 x13 x14 => ?_) FU q12 a0 q9 0
    · refine go_aload_n (pc := 64) C 0 dX10_frees_64 rfl ?_
      refine go_gR (pc := 65) C fdX10_50 dX10_frees_65 (fun x16 => ?_)
      refine go_bind (fun q17 hq17 => ?_)
      refine go_callV (rest := []) (st' := []) (c' := 0) (s' := 0) (pc := 68) C O miX10_209 mvX5_clear [] rfl (mX5_clear hq17).1 (mX5_clear hq17).2 dX10_frees_68 ⟨by decide, by decide, by decide, by decide⟩ rfl (Nat.le_of_ble_eq_true rfl) rfl ⟨rfl, rfl⟩ ?_
      refine go_aload_n (pc := 71) C 0 dX10_frees_71 rfl ?_
      refine go_gR (pc := 72) C fdX10_50 dX10_frees_72 (fun x18 => ?_)
      refine go_aload_n (pc := 75) C 0 dX10_frees_75 rfl ?_
      refine go_gR (pc := 76) C fdX10_20 dX10_frees_76 (fun x19 => ?_)
      refine go_bind (fun q20 hq20 => ?_)
      refine go_callV (rest := [.ref x18]) (st' := [.int q20, .ref x18]) (c' := 0) (s' := 0) (pc := 79) C O miX10_96 mvX9_frameTotal [] rfl (mX9_frameTotal hq20).1 (mX9_frameTotal hq20).2 dX10_frees_79 ⟨by decide, by decide, by decide, by decide⟩ rfl (Nat.le_of_ble_eq_true rfl) rfl ⟨rfl, rfl⟩ ?_
      refine go_i2l (pc := 82) C dX10_frees_82 ?_
      refine go_bind (fun q21 hq21 => ?_)
      refine go_callV (rest := []) (st' := []) (c' := 0) (s' := 0) (pc := 83) C O miX10_212 mvX5_add [.long (Int32.toInt64 q20)] rfl (mX5_add hq21).1 (mX5_add hq21).2 dX10_frees_83 ⟨by decide, by decide, by decide, by decide⟩ rfl (Nat.le_of_ble_eq_true rfl) rfl ⟨rfl, rfl⟩ ?_
      refine go_iload_n (pc := 86) C 1 dX10_frees_86 rfl ?_
      refine go_bind (fun q22 hq22 => ?_)
      refine go_callS (rest := []) (st' := [.int q22]) (c' := 0) (s' := 0) (pc := 87) C O miX10_291 w_397 [.int x14] rfl (mJ6_bitCount_0f7a4 hq22) dX10_frees_87 ⟨by decide, by decide, by decide, by decide⟩ rfl (Nat.le_of_ble_eq_true rfl) rfl ⟨rfl, rfl⟩ ?_
      exact go_iret (w := wIh) (pc := 90) C E ((q22, q21)) q22 dX10_frees_90 rfl
  · refine go_iconst (pc := 11) C dX10_frees_11 ki_m1 ?_
    exact go_iret (w := wIh) (pc := 12) C E (((-1), h)) ((-1)) dX10_frees_12 rfl
theorem dX10_storm_0 : decode cX10_storm 0 = .ok (.aload_n 0, 1) := by decide +kernel
theorem dX10_storm_1 : decode cX10_storm 1 = .ok (.getfield 16, 3) := by decide +kernel
theorem dX10_storm_4 : decode cX10_storm 4 = .ok (.iload_n 1, 1) := by decide +kernel
theorem dX10_storm_5 : decode cX10_storm 5 = .ok (.invokevirtual 138, 3) := by decide +kernel
theorem dX10_storm_8 : decode cX10_storm 8 = .ok (.ifCond .eq 12, 3) := by decide +kernel
theorem dX10_storm_11 : decode cX10_storm 11 = .ok (.iload_n 2, 1) := by decide +kernel
theorem dX10_storm_12 : decode cX10_storm 12 = .ok (.ifCond .lt 8, 3) := by decide +kernel
theorem dX10_storm_15 : decode cX10_storm 15 = .ok (.iload_n 2, 1) := by decide +kernel
theorem dX10_storm_16 : decode cX10_storm 16 = .ok (.iconst 5, 1) := by decide +kernel
theorem dX10_storm_17 : decode cX10_storm 17 = .ok (.if_icmp .le 5, 3) := by decide +kernel
theorem dX10_storm_20 : decode cX10_storm 20 = .ok (.iconst (-1), 1) := by decide +kernel
theorem dX10_storm_21 : decode cX10_storm 21 = .ok (.ireturn, 1) := by decide +kernel
theorem dX10_storm_22 : decode cX10_storm 22 = .ok (.aload_n 0, 1) := by decide +kernel
theorem dX10_storm_23 : decode cX10_storm 23 = .ok (.getfield 20, 3) := by decide +kernel
theorem dX10_storm_26 : decode cX10_storm 26 = .ok (.aload_n 0, 1) := by decide +kernel
theorem dX10_storm_27 : decode cX10_storm 27 = .ok (.getfield 16, 3) := by decide +kernel
theorem dX10_storm_30 : decode cX10_storm 30 = .ok (.invokevirtual 286, 3) := by decide +kernel
theorem dX10_storm_33 : decode cX10_storm 33 = .ok (.iconst 0, 1) := by decide +kernel
theorem dX10_storm_34 : decode cX10_storm 34 = .ok (.istore_n 3, 1) := by decide +kernel
theorem dX10_storm_35 : decode cX10_storm 35 = .ok (.iload_n 3, 1) := by decide +kernel
theorem dX10_storm_36 : decode cX10_storm 36 = .ok (.iload_n 2, 1) := by decide +kernel
theorem dX10_storm_37 : decode cX10_storm 37 = .ok (.if_icmp .ge 41, 3) := by decide +kernel
theorem dX10_storm_40 : decode cX10_storm 40 = .ok (.aload_n 0, 1) := by decide +kernel
theorem dX10_storm_41 : decode cX10_storm 41 = .ok (.getfield 20, 3) := by decide +kernel
theorem dX10_storm_44 : decode cX10_storm 44 = .ok (.iload_n 1, 1) := by decide +kernel
theorem dX10_storm_45 : decode cX10_storm 45 = .ok (.invokevirtual 224, 3) := by decide +kernel
theorem dX10_storm_48 : decode cX10_storm 48 = .ok (.istore 4, 2) := by decide +kernel
theorem dX10_storm_50 : decode cX10_storm 50 = .ok (.iload 4, 2) := by decide +kernel
theorem dX10_storm_52 : decode cX10_storm 52 = .ok (.ifCond .lt 20, 3) := by decide +kernel
theorem dX10_storm_55 : decode cX10_storm 55 = .ok (.aload_n 0, 1) := by decide +kernel
theorem dX10_storm_56 : decode cX10_storm 56 = .ok (.getfield 20, 3) := by decide +kernel
theorem dX10_storm_59 : decode cX10_storm 59 = .ok (.iload 4, 2) := by decide +kernel
theorem dX10_storm_61 : decode cX10_storm 61 = .ok (.iconst 0, 1) := by decide +kernel
theorem dX10_storm_62 : decode cX10_storm 62 = .ok (.iload 4, 2) := by decide +kernel
theorem dX10_storm_64 : decode cX10_storm 64 = .ok (.aload_n 0, 1) := by decide +kernel
theorem dX10_storm_65 : decode cX10_storm 65 = .ok (.getfield 33, 3) := by decide +kernel
theorem dX10_storm_68 : decode cX10_storm 68 = .ok (.invokevirtual 220, 3) := by decide +kernel
theorem dX10_storm_71 : decode cX10_storm 71 = .ok (.pop, 1) := by decide +kernel
theorem dX10_storm_72 : decode cX10_storm 72 = .ok (.iinc 3 1, 3) := by decide +kernel
theorem dX10_storm_75 : decode cX10_storm 75 = .ok (.goto (-40), 3) := by decide +kernel
theorem dX10_storm_78 : decode cX10_storm 78 = .ok (.aload_n 0, 1) := by decide +kernel
theorem dX10_storm_79 : decode cX10_storm 79 = .ok (.getfield 50, 3) := by decide +kernel
theorem dX10_storm_82 : decode cX10_storm 82 = .ok (.invokevirtual 209, 3) := by decide +kernel
theorem dX10_storm_85 : decode cX10_storm 85 = .ok (.aload_n 0, 1) := by decide +kernel
theorem dX10_storm_86 : decode cX10_storm 86 = .ok (.getfield 50, 3) := by decide +kernel
theorem dX10_storm_89 : decode cX10_storm 89 = .ok (.aload_n 0, 1) := by decide +kernel
theorem dX10_storm_90 : decode cX10_storm 90 = .ok (.getfield 20, 3) := by decide +kernel
theorem dX10_storm_93 : decode cX10_storm 93 = .ok (.invokevirtual 93, 3) := by decide +kernel
theorem dX10_storm_96 : decode cX10_storm 96 = .ok (.i2l, 1) := by decide +kernel
theorem dX10_storm_97 : decode cX10_storm 97 = .ok (.invokevirtual 212, 3) := by decide +kernel
theorem dX10_storm_100 : decode cX10_storm 100 = .ok (.aload_n 0, 1) := by decide +kernel
theorem dX10_storm_101 : decode cX10_storm 101 = .ok (.getfield 50, 3) := by decide +kernel
theorem dX10_storm_104 : decode cX10_storm 104 = .ok (.aload_n 0, 1) := by decide +kernel
theorem dX10_storm_105 : decode cX10_storm 105 = .ok (.getfield 20, 3) := by decide +kernel
theorem dX10_storm_108 : decode cX10_storm 108 = .ok (.invokevirtual 90, 3) := by decide +kernel
theorem dX10_storm_111 : decode cX10_storm 111 = .ok (.i2l, 1) := by decide +kernel
theorem dX10_storm_112 : decode cX10_storm 112 = .ok (.invokevirtual 212, 3) := by decide +kernel
theorem dX10_storm_115 : decode cX10_storm 115 = .ok (.aload_n 0, 1) := by decide +kernel
theorem dX10_storm_116 : decode cX10_storm 116 = .ok (.getfield 20, 3) := by decide +kernel
theorem dX10_storm_119 : decode cX10_storm 119 = .ok (.invokevirtual 96, 3) := by decide +kernel
theorem dX10_storm_122 : decode cX10_storm 122 = .ok (.ireturn, 1) := by decide +kernel
def fX10_storm_L35 (k78 : AH → Nat → Option (Int32 × AH)) : Nat → AH → Nat → Int32 → Int32 → Int32 → Option (Int32 × AH)
  | 0, _, _, _, _, _ => none
  | n + 1, h, v0, v1, v2, v3 =>
    if v2 ≤ v3 then (
      k78 h v0
    ) else (
      (gR h 10 v0 3).bind fun x1 =>
      (fX9_forkSpace h x1 v1).bind fun q2 =>
      if q2.1 < 0 then (
        letF (v3 + 1 : Int32) fun x3 =>
        fX10_storm_L35 k78 n q2.2 v0 v1 v2 x3
      ) else (
        (gR q2.2 10 v0 3).bind fun x4 =>
        (gR q2.2 10 v0 5).bind fun x5 =>
        (fX9_writePage q2.2 x4 q2.1 0 q2.1 x5).bind fun q6 =>
        letF (v3 + 1 : Int32) fun x7 =>
        fX10_storm_L35 k78 n q6.2 v0 v1 v2 x7
      )
    )
def fX10_storm (h : AH) (a0 : Nat) (a1 : Int32) (a2 : Int32) : Option (Int32 × AH) :=
  if hasC h 10 a0 = true then (
    (gR h 10 a0 2).bind fun x8 =>
    (fX9_hasSpace h x8 a1).bind fun q9 =>
    if q9 = true then (
      if a2 < 0 then (
        some (((-1), h))
      ) else (
        if a2 ≤ 5 then (
          (gR h 10 a0 3).bind fun x10 =>
          (gR h 10 a0 2).bind fun x11 =>
          (fX9_copyFrom h x10 x11).bind fun q12 =>
          fX10_storm_L35
            (fun h14 x13 =>
              (gR h14 10 x13 8).bind fun x15 =>
              (fX5_clear h14 x15).bind fun q16 =>
              (gR q16 10 x13 8).bind fun x17 =>
              (gR q16 10 x13 3).bind fun x18 =>
              (fX9_objectTotal q16 x18).bind fun q19 =>
              (fX5_add q16 x17 (Int32.toInt64 q19)).bind fun q20 =>
              (gR q20 10 x13 8).bind fun x21 =>
              (gR q20 10 x13 3).bind fun x22 =>
              (fX9_spaceTotal q20 x22).bind fun q23 =>
              (fX5_add q20 x21 (Int32.toInt64 q23)).bind fun q24 =>
              (gR q24 10 x13 3).bind fun x25 =>
              (fX9_frameTotal q24 x25).bind fun q26 =>
              some ((q26, q24)))
            FU q12 a0 a1 a2 0
        ) else (
          some (((-1), h))
        )
      )
    ) else (
      some (((-1), h))
    )
  ) else none
set_option maxHeartbeats 4000000 in
theorem gX10_storm_L35 {Y : YT} {X : XT} (C : CT Y X RX10 cX10_storm 5) (O : RO X 7 0 0) {r : Int32 × AH} (E : RX Y X (some .int) (some (.int r.1)) r.2 0 0) {k78 : AH → Nat → Option (Int32 × AH)} (hk78 : ∀ (h : AH) (v0 : Nat), GO Y X 5 r h 0 0 78 [(0, .ref v0)] [] (k78 h v0)) : ∀ (n : Nat) (h : AH) (v0 : Nat) (v1 : Int32) (v2 : Int32) (v3 : Int32), GO Y X 5 r h 0 0 35 [(0, .ref v0), (1, .int v1), (2, .int v2), (3, .int v3)] [] (fX10_storm_L35 k78 n h v0 v1 v2 v3) := by
  intro n
  induction n with
  | zero => intros; exact go_none _ _ _
  | succ n ih =>
    intro h v0 v1 v2 v3
    rw [fX10_storm_L35]
    refine go_iload_n (pc := 35) C 3 dX10_storm_35 rfl ?_
    refine go_iload_n (pc := 36) C 2 dX10_storm_36 rfl ?_
    refine go_icmp_ge (pc := 37) C 78 dX10_storm_37 (by decide) (fun _ => ?_) (fun _ => ?_)
    · refine go_sub (ls' := [(0, .ref v0)]) [0] rfl ?_
      exact hk78 h v0
    · refine go_aload_n (pc := 40) C 0 dX10_storm_40 rfl ?_
      refine go_gR (pc := 41) C fdX10_20 dX10_storm_41 (fun x1 => ?_)
      refine go_iload_n (pc := 44) C 1 dX10_storm_44 rfl ?_
      refine go_bind (fun q2 hq2 => ?_)
      refine go_callV (rest := []) (st' := [.int q2.1]) (c' := 0) (s' := 0) (pc := 45) C O miX10_224 mvX9_forkSpace [.int v1] rfl (mX9_forkSpace hq2).1 (mX9_forkSpace hq2).2 dX10_storm_45 ⟨by decide, by decide, by decide, by decide⟩ rfl (Nat.le_of_ble_eq_true rfl) rfl ⟨rfl, rfl⟩ ?_
      refine go_istore (ls' := [(4, .int q2.1), (0, .ref v0), (1, .int v1), (2, .int v2), (3, .int v3)]) (pc := 48) C dX10_storm_48 (by decide) rfl ?_
      refine go_iload (pc := 50) C 0 dX10_storm_50 rfl ?_
      refine go_if_lt (pc := 52) C 72 dX10_storm_52 (by decide) (fun _ => ?_) (fun _ => ?_)
      · refine go_iincL (pc := 72) C 4 dX10_storm_72 rfl ki_1 (by decide) (fun x3 => [(3, .int x3), (4, .int q2.1), (0, .ref v0), (1, .int v1), (2, .int v2)]) (fun _ => rfl) (fun x3 => ?_)
        refine go_goto (pc := 75) C 35 dX10_storm_75 (by decide) ?_
        refine go_sub (ls' := [(0, .ref v0), (1, .int v1), (2, .int v2), (3, .int x3)]) [2, 3, 4, 0] rfl ?_
        exact ih q2.2 v0 v1 v2 x3
      · refine go_aload_n (pc := 55) C 1 dX10_storm_55 rfl ?_
        refine go_gR (pc := 56) C fdX10_20 dX10_storm_56 (fun x4 => ?_)
        refine go_iload (pc := 59) C 0 dX10_storm_59 rfl ?_
        refine go_iconst (pc := 61) C dX10_storm_61 ki_0 ?_
        refine go_iload (pc := 62) C 0 dX10_storm_62 rfl ?_
        refine go_aload_n (pc := 64) C 1 dX10_storm_64 rfl ?_
        refine go_gR (pc := 65) C fdX10_33 dX10_storm_65 (fun x5 => ?_)
        refine go_bind (fun q6 hq6 => ?_)
        refine go_callV (rest := []) (st' := [.int q6.1]) (c' := 0) (s' := 0) (pc := 68) C O miX10_220 mvX9_writePage [.int q2.1, .int 0, .int q2.1, .ref x5] rfl (mX9_writePage hq6).1 (mX9_writePage hq6).2 dX10_storm_68 ⟨by decide, by decide, by decide, by decide⟩ rfl (Nat.le_of_ble_eq_true rfl) rfl ⟨rfl, rfl⟩ ?_
        refine go_pop (pc := 71) C dX10_storm_71 rfl ?_
        refine go_iincL (pc := 72) C 4 dX10_storm_72 rfl ki_1 (by decide) (fun x7 => [(3, .int x7), (4, .int q2.1), (0, .ref v0), (1, .int v1), (2, .int v2)]) (fun _ => rfl) (fun x7 => ?_)
        refine go_goto (pc := 75) C 35 dX10_storm_75 (by decide) ?_
        refine go_sub (ls' := [(0, .ref v0), (1, .int v1), (2, .int v2), (3, .int x7)]) [2, 3, 4, 0] rfl ?_
        exact ih q6.2 v0 v1 v2 x7
set_option maxHeartbeats 4000000 in
theorem mX10_storm {h : AH} {a0 : Nat} {a1 : Int32} {a2 : Int32} {r : Int32 × AH} (hr : fX10_storm h a0 a1 a2 = some r) : hasC h 10 a0 = true ∧ MC yX10_storm cX10_storm 5 (some .int) 7 0 0 [.ref a0, .int a1, .int a2] h (some (.int r.1)) r.2 := by
  unfold fX10_storm at hr
  obtain ⟨hc, hr⟩ := if_some hr
  refine ⟨hc, mc_of (l0 := [(0, .ref a0), (1, .int a1), (2, .int a2)]) rfl pn_X10 (Nat.le_of_ble_eq_true rfl) (fun Y X C E O hnm => go_run hr ?_)⟩
  have C : CT Y X RX10 cX10_storm 5 := C
  refine go_aload_n (pc := 0) C 0 dX10_storm_0 rfl ?_
  refine go_gR (pc := 1) C fdX10_16 dX10_storm_1 (fun x8 => ?_)
  refine go_iload_n (pc := 4) C 1 dX10_storm_4 rfl ?_
  refine go_bind (fun q9 hq9 => ?_)
  refine go_callV (rest := []) (st' := [.int (b2i q9)]) (c' := 0) (s' := 0) (pc := 5) C O miX10_138 mvX9_hasSpace [.int a1] rfl (mX9_hasSpace hq9).1 (mX9_hasSpace hq9).2 dX10_storm_5 ⟨by decide, by decide, by decide, by decide⟩ rfl (Nat.le_of_ble_eq_true rfl) rfl ⟨rfl, rfl⟩ ?_
  refine go_ifZ_eq (pc := 8) C 20 dX10_storm_8 (by decide) (fun _ => ?_) (fun _ => ?_)
  · refine go_iload_n (pc := 11) C 2 dX10_storm_11 rfl ?_
    refine go_if_lt (pc := 12) C 20 dX10_storm_12 (by decide) (fun _ => ?_) (fun _ => ?_)
    · refine go_iconst (pc := 20) C dX10_storm_20 ki_m1 ?_
      exact go_iret (w := wIh) (pc := 21) C E (((-1), h)) ((-1)) dX10_storm_21 rfl
    · refine go_iload_n (pc := 15) C 2 dX10_storm_15 rfl ?_
      refine go_iconst (pc := 16) C dX10_storm_16 ki_5 ?_
      refine go_icmp_le (pc := 17) C 22 dX10_storm_17 (by decide) (fun _ => ?_) (fun _ => ?_)
      · refine go_aload_n (pc := 22) C 0 dX10_storm_22 rfl ?_
        refine go_gR (pc := 23) C fdX10_20 dX10_storm_23 (fun x10 => ?_)
        refine go_aload_n (pc := 26) C 0 dX10_storm_26 rfl ?_
        refine go_gR (pc := 27) C fdX10_16 dX10_storm_27 (fun x11 => ?_)
        refine go_bind (fun q12 hq12 => ?_)
        refine go_callV (rest := []) (st' := []) (c' := 0) (s' := 0) (pc := 30) C O miX10_286 mvX9_copyFrom [.ref x11] rfl (mX9_copyFrom hq12).1 (mX9_copyFrom hq12).2 dX10_storm_30 ⟨by decide, by decide, by decide, by decide⟩ rfl (Nat.le_of_ble_eq_true rfl) rfl ⟨rfl, rfl⟩ ?_
        refine go_iconst (pc := 33) C dX10_storm_33 ki_0 ?_
        refine go_istore_n (ls' := [(3, .int 0), (0, .ref a0), (1, .int a1), (2, .int a2)]) (pc := 34) C dX10_storm_34 (by decide) rfl ?_
        refine go_sub (ls' := [(0, .ref a0), (1, .int a1), (2, .int a2), (3, .int 0)]) [1, 2, 3, 0] rfl ?_
        refine gX10_storm_L35 C O E (fun h14 x13 => ?_) FU q12 a0 a1 a2 0
        · refine go_aload_n (pc := 78) C 0 dX10_storm_78 rfl ?_
          refine go_gR (pc := 79) C fdX10_50 dX10_storm_79 (fun x15 => ?_)
          refine go_bind (fun q16 hq16 => ?_)
          refine go_callV (rest := []) (st' := []) (c' := 0) (s' := 0) (pc := 82) C O miX10_209 mvX5_clear [] rfl (mX5_clear hq16).1 (mX5_clear hq16).2 dX10_storm_82 ⟨by decide, by decide, by decide, by decide⟩ rfl (Nat.le_of_ble_eq_true rfl) rfl ⟨rfl, rfl⟩ ?_
          refine go_aload_n (pc := 85) C 0 dX10_storm_85 rfl ?_
          refine go_gR (pc := 86) C fdX10_50 dX10_storm_86 (fun x17 => ?_)
          refine go_aload_n (pc := 89) C 0 dX10_storm_89 rfl ?_
          refine go_gR (pc := 90) C fdX10_20 dX10_storm_90 (fun x18 => ?_)
          refine go_bind (fun q19 hq19 => ?_)
          refine go_callV (rest := [.ref x17]) (st' := [.int q19, .ref x17]) (c' := 0) (s' := 0) (pc := 93) C O miX10_93 mvX9_objectTotal [] rfl (mX9_objectTotal hq19).1 (mX9_objectTotal hq19).2 dX10_storm_93 ⟨by decide, by decide, by decide, by decide⟩ rfl (Nat.le_of_ble_eq_true rfl) rfl ⟨rfl, rfl⟩ ?_
          refine go_i2l (pc := 96) C dX10_storm_96 ?_
          refine go_bind (fun q20 hq20 => ?_)
          refine go_callV (rest := []) (st' := []) (c' := 0) (s' := 0) (pc := 97) C O miX10_212 mvX5_add [.long (Int32.toInt64 q19)] rfl (mX5_add hq20).1 (mX5_add hq20).2 dX10_storm_97 ⟨by decide, by decide, by decide, by decide⟩ rfl (Nat.le_of_ble_eq_true rfl) rfl ⟨rfl, rfl⟩ ?_
          refine go_aload_n (pc := 100) C 0 dX10_storm_100 rfl ?_
          refine go_gR (pc := 101) C fdX10_50 dX10_storm_101 (fun x21 => ?_)
          refine go_aload_n (pc := 104) C 0 dX10_storm_104 rfl ?_
          refine go_gR (pc := 105) C fdX10_20 dX10_storm_105 (fun x22 => ?_)
          refine go_bind (fun q23 hq23 => ?_)
          refine go_callV (rest := [.ref x21]) (st' := [.int q23, .ref x21]) (c' := 0) (s' := 0) (pc := 108) C O miX10_90 mvX9_spaceTotal [] rfl (mX9_spaceTotal hq23).1 (mX9_spaceTotal hq23).2 dX10_storm_108 ⟨by decide, by decide, by decide, by decide⟩ rfl (Nat.le_of_ble_eq_true rfl) rfl ⟨rfl, rfl⟩ ?_
          refine go_i2l (pc := 111) C dX10_storm_111 ?_
          refine go_bind (fun q24 hq24 => ?_)
          refine go_callV (rest := []) (st' := []) (c' := 0) (s' := 0) (pc := 112) C O miX10_212 mvX5_add [.long (Int32.toInt64 q23)] rfl (mX5_add hq24).1 (mX5_add hq24).2 dX10_storm_112 ⟨by decide, by decide, by decide, by decide⟩ rfl (Nat.le_of_ble_eq_true rfl) rfl ⟨rfl, rfl⟩ ?_
          refine go_aload_n (pc := 115) C 0 dX10_storm_115 rfl ?_
          refine go_gR (pc := 116) C fdX10_20 dX10_storm_116 (fun x25 => ?_)
          refine go_bind (fun q26 hq26 => ?_)
          refine go_callV (rest := []) (st' := [.int q26]) (c' := 0) (s' := 0) (pc := 119) C O miX10_96 mvX9_frameTotal [] rfl (mX9_frameTotal hq26).1 (mX9_frameTotal hq26).2 dX10_storm_119 ⟨by decide, by decide, by decide, by decide⟩ rfl (Nat.le_of_ble_eq_true rfl) rfl ⟨rfl, rfl⟩ ?_
          exact go_iret (w := wIh) (pc := 122) C E ((q26, q24)) q26 dX10_storm_122 rfl
      · refine go_iconst (pc := 20) C dX10_storm_20 ki_m1 ?_
        exact go_iret (w := wIh) (pc := 21) C E (((-1), h)) ((-1)) dX10_storm_21 rfl
  · refine go_iconst (pc := 20) C dX10_storm_20 ki_m1 ?_
    exact go_iret (w := wIh) (pc := 21) C E (((-1), h)) ((-1)) dX10_storm_21 rfl
theorem dX10_sweep_0 : decode cX10_sweep 0 = .ok (.aload_n 0, 1) := by decide +kernel
theorem dX10_sweep_1 : decode cX10_sweep 1 = .ok (.getfield 16, 3) := by decide +kernel
theorem dX10_sweep_4 : decode cX10_sweep 4 = .ok (.iload_n 1, 1) := by decide +kernel
theorem dX10_sweep_5 : decode cX10_sweep 5 = .ok (.invokevirtual 138, 3) := by decide +kernel
theorem dX10_sweep_8 : decode cX10_sweep 8 = .ok (.ifCond .eq 10, 3) := by decide +kernel
theorem dX10_sweep_11 : decode cX10_sweep 11 = .ok (.iload_n 2, 1) := by decide +kernel
theorem dX10_sweep_12 : decode cX10_sweep 12 = .ok (.invokestatic 296, 3) := by decide +kernel
theorem dX10_sweep_15 : decode cX10_sweep 15 = .ok (.ifCond .ne 5, 3) := by decide +kernel
theorem dX10_sweep_18 : decode cX10_sweep 18 = .ok (.iconst (-1), 1) := by decide +kernel
theorem dX10_sweep_19 : decode cX10_sweep 19 = .ok (.ireturn, 1) := by decide +kernel
theorem dX10_sweep_20 : decode cX10_sweep 20 = .ok (.aload_n 0, 1) := by decide +kernel
theorem dX10_sweep_21 : decode cX10_sweep 21 = .ok (.getfield 20, 3) := by decide +kernel
theorem dX10_sweep_24 : decode cX10_sweep 24 = .ok (.aload_n 0, 1) := by decide +kernel
theorem dX10_sweep_25 : decode cX10_sweep 25 = .ok (.getfield 16, 3) := by decide +kernel
theorem dX10_sweep_28 : decode cX10_sweep 28 = .ok (.invokevirtual 286, 3) := by decide +kernel
theorem dX10_sweep_31 : decode cX10_sweep 31 = .ok (.iconst 0, 1) := by decide +kernel
theorem dX10_sweep_32 : decode cX10_sweep 32 = .ok (.istore_n 3, 1) := by decide +kernel
theorem dX10_sweep_33 : decode cX10_sweep 33 = .ok (.iconst 0, 1) := by decide +kernel
theorem dX10_sweep_34 : decode cX10_sweep 34 = .ok (.istore 4, 2) := by decide +kernel
theorem dX10_sweep_36 : decode cX10_sweep 36 = .ok (.iload 4, 2) := by decide +kernel
theorem dX10_sweep_38 : decode cX10_sweep 38 = .ok (.bipush 8, 2) := by decide +kernel
theorem dX10_sweep_40 : decode cX10_sweep 40 = .ok (.if_icmp .ge 35, 3) := by decide +kernel
theorem dX10_sweep_43 : decode cX10_sweep 43 = .ok (.iload_n 3, 1) := by decide +kernel
theorem dX10_sweep_44 : decode cX10_sweep 44 = .ok (.aload_n 0, 1) := by decide +kernel
theorem dX10_sweep_45 : decode cX10_sweep 45 = .ok (.getfield 20, 3) := by decide +kernel
theorem dX10_sweep_48 : decode cX10_sweep 48 = .ok (.iload_n 1, 1) := by decide +kernel
theorem dX10_sweep_49 : decode cX10_sweep 49 = .ok (.iload 4, 2) := by decide +kernel
theorem dX10_sweep_51 : decode cX10_sweep 51 = .ok (.iload_n 2, 1) := by decide +kernel
theorem dX10_sweep_52 : decode cX10_sweep 52 = .ok (.aload_n 0, 1) := by decide +kernel
theorem dX10_sweep_53 : decode cX10_sweep 53 = .ok (.getfield 33, 3) := by decide +kernel
theorem dX10_sweep_56 : decode cX10_sweep 56 = .ok (.invokevirtual 220, 3) := by decide +kernel
theorem dX10_sweep_59 : decode cX10_sweep 59 = .ok (.ifCond .ge 7, 3) := by decide +kernel
theorem dX10_sweep_62 : decode cX10_sweep 62 = .ok (.iconst 1, 1) := by decide +kernel
theorem dX10_sweep_63 : decode cX10_sweep 63 = .ok (.goto 4, 3) := by decide +kernel
theorem dX10_sweep_66 : decode cX10_sweep 66 = .ok (.iconst 0, 1) := by decide +kernel
theorem dX10_sweep_67 : decode cX10_sweep 67 = .ok (.iadd, 1) := by decide +kernel
theorem dX10_sweep_68 : decode cX10_sweep 68 = .ok (.istore_n 3, 1) := by decide +kernel
theorem dX10_sweep_69 : decode cX10_sweep 69 = .ok (.iinc 4 1, 3) := by decide +kernel
theorem dX10_sweep_72 : decode cX10_sweep 72 = .ok (.goto (-36), 3) := by decide +kernel
theorem dX10_sweep_75 : decode cX10_sweep 75 = .ok (.aload_n 0, 1) := by decide +kernel
theorem dX10_sweep_76 : decode cX10_sweep 76 = .ok (.getfield 50, 3) := by decide +kernel
theorem dX10_sweep_79 : decode cX10_sweep 79 = .ok (.invokevirtual 209, 3) := by decide +kernel
theorem dX10_sweep_82 : decode cX10_sweep 82 = .ok (.aload_n 0, 1) := by decide +kernel
theorem dX10_sweep_83 : decode cX10_sweep 83 = .ok (.getfield 50, 3) := by decide +kernel
theorem dX10_sweep_86 : decode cX10_sweep 86 = .ok (.aload_n 0, 1) := by decide +kernel
theorem dX10_sweep_87 : decode cX10_sweep 87 = .ok (.getfield 20, 3) := by decide +kernel
theorem dX10_sweep_90 : decode cX10_sweep 90 = .ok (.invokevirtual 96, 3) := by decide +kernel
theorem dX10_sweep_93 : decode cX10_sweep 93 = .ok (.i2l, 1) := by decide +kernel
theorem dX10_sweep_94 : decode cX10_sweep 94 = .ok (.invokevirtual 212, 3) := by decide +kernel
theorem dX10_sweep_97 : decode cX10_sweep 97 = .ok (.aload_n 0, 1) := by decide +kernel
theorem dX10_sweep_98 : decode cX10_sweep 98 = .ok (.getfield 50, 3) := by decide +kernel
theorem dX10_sweep_101 : decode cX10_sweep 101 = .ok (.iload_n 3, 1) := by decide +kernel
theorem dX10_sweep_102 : decode cX10_sweep 102 = .ok (.i2l, 1) := by decide +kernel
theorem dX10_sweep_103 : decode cX10_sweep 103 = .ok (.invokevirtual 212, 3) := by decide +kernel
theorem dX10_sweep_106 : decode cX10_sweep 106 = .ok (.aload_n 0, 1) := by decide +kernel
theorem dX10_sweep_107 : decode cX10_sweep 107 = .ok (.getfield 20, 3) := by decide +kernel
theorem dX10_sweep_110 : decode cX10_sweep 110 = .ok (.iload_n 1, 1) := by decide +kernel
theorem dX10_sweep_111 : decode cX10_sweep 111 = .ok (.invokevirtual 151, 3) := by decide +kernel
theorem dX10_sweep_114 : decode cX10_sweep 114 = .ok (.ireturn, 1) := by decide +kernel
def fX10_sweep_J67 (k36 : AH → Nat → Int32 → Int32 → Int32 → Int32 → Option (Int32 × AH)) (h : AH) (v0 : Nat) (v1 : Int32) (v2 : Int32) (v4 : Int32) (s0 : Int32) (s1 : Int32) : Option (Int32 × AH) :=
    letF (s1 + s0 : Int32) fun x1 =>
    letF (v4 + 1 : Int32) fun x2 =>
    k36 h v0 v1 v2 x1 x2
def fX10_sweep_L36 (k75 : AH → Nat → Int32 → Int32 → Option (Int32 × AH)) : Nat → AH → Nat → Int32 → Int32 → Int32 → Int32 → Option (Int32 × AH)
  | 0, _, _, _, _, _, _ => none
  | n + 1, h, v0, v1, v2, v3, v4 =>
    if 8 ≤ v4 then (
      k75 h v0 v1 v3
    ) else (
      (gR h 10 v0 3).bind fun x3 =>
      (gR h 10 v0 5).bind fun x4 =>
      (fX9_writePage h x3 v1 v4 v2 x4).bind fun q5 =>
      if 0 ≤ q5.1 then (
        fX10_sweep_J67 (fX10_sweep_L36 k75 n) q5.2 v0 v1 v2 v4 0 v3
      ) else (
        fX10_sweep_J67 (fX10_sweep_L36 k75 n) q5.2 v0 v1 v2 v4 1 v3
      )
    )
def fX10_sweep (h : AH) (a0 : Nat) (a1 : Int32) (a2 : Int32) : Option (Int32 × AH) :=
  if hasC h 10 a0 = true then (
    (gR h 10 a0 2).bind fun x6 =>
    (fX9_hasSpace h x6 a1).bind fun q7 =>
    if q7 = true then (
      (fX10_isValue h a2).bind fun q8 =>
      if q8 = true then (
        (gR h 10 a0 3).bind fun x9 =>
        (gR h 10 a0 2).bind fun x10 =>
        (fX9_copyFrom h x9 x10).bind fun q11 =>
        fX10_sweep_L36
          (fun h15 x12 x13 x14 =>
            (gR h15 10 x12 8).bind fun x16 =>
            (fX5_clear h15 x16).bind fun q17 =>
            (gR q17 10 x12 8).bind fun x18 =>
            (gR q17 10 x12 3).bind fun x19 =>
            (fX9_frameTotal q17 x19).bind fun q20 =>
            (fX5_add q17 x18 (Int32.toInt64 q20)).bind fun q21 =>
            (gR q21 10 x12 8).bind fun x22 =>
            (fX5_add q21 x22 (Int32.toInt64 x14)).bind fun q23 =>
            (gR q23 10 x12 3).bind fun x24 =>
            (fX9_chainLength q23 x24 x13).bind fun q25 =>
            some ((q25, q23)))
          FU q11 a0 a1 a2 0 0
      ) else (
        some (((-1), h))
      )
    ) else (
      some (((-1), h))
    )
  ) else none
set_option maxHeartbeats 4000000 in
theorem gX10_sweep_J67 {Y : YT} {X : XT} (C : CT Y X RX10 cX10_sweep 5) (O : RO X 7 0 0) {r : Int32 × AH} (E : RX Y X (some .int) (some (.int r.1)) r.2 0 0) {k36 : AH → Nat → Int32 → Int32 → Int32 → Int32 → Option (Int32 × AH)} (hk36 : ∀ (h : AH) (v0 : Nat) (v1 : Int32) (v2 : Int32) (v3 : Int32) (v4 : Int32), GO Y X 5 r h 0 0 36 [(0, .ref v0), (1, .int v1), (2, .int v2), (3, .int v3), (4, .int v4)] [] (k36 h v0 v1 v2 v3 v4)) : ∀ (h : AH) (v0 : Nat) (v1 : Int32) (v2 : Int32) (v4 : Int32) (s0 : Int32) (s1 : Int32), GO Y X 5 r h 0 0 67 [(0, .ref v0), (1, .int v1), (2, .int v2), (4, .int v4)] [.int s0, .int s1] (fX10_sweep_J67 k36 h v0 v1 v2 v4 s0 s1) := by
  intro h v0 v1 v2 v4 s0 s1
  unfold fX10_sweep_J67
  refine go_iadd (pc := 67) C dX10_sweep_67 ?_
  refine go_istore_nL (pc := 68) C dX10_sweep_68 (by decide) (fun x1 => [(3, .int x1), (0, .ref v0), (1, .int v1), (2, .int v2), (4, .int v4)]) (fun _ => rfl) (fun x1 => ?_)
  refine go_iincL (pc := 69) C 4 dX10_sweep_69 rfl ki_1 (by decide) (fun x2 => [(4, .int x2), (3, .int x1), (0, .ref v0), (1, .int v1), (2, .int v2)]) (fun _ => rfl) (fun x2 => ?_)
  refine go_goto (pc := 72) C 36 dX10_sweep_72 (by decide) ?_
  refine go_sub (ls' := [(0, .ref v0), (1, .int v1), (2, .int v2), (3, .int x1), (4, .int x2)]) [2, 3, 4, 1, 0] rfl ?_
  exact hk36 h v0 v1 v2 x1 x2
set_option maxHeartbeats 4000000 in
theorem gX10_sweep_L36 {Y : YT} {X : XT} (C : CT Y X RX10 cX10_sweep 5) (O : RO X 7 0 0) {r : Int32 × AH} (E : RX Y X (some .int) (some (.int r.1)) r.2 0 0) {k75 : AH → Nat → Int32 → Int32 → Option (Int32 × AH)} (hk75 : ∀ (h : AH) (v0 : Nat) (v1 : Int32) (v3 : Int32), GO Y X 5 r h 0 0 75 [(0, .ref v0), (1, .int v1), (3, .int v3)] [] (k75 h v0 v1 v3)) : ∀ (n : Nat) (h : AH) (v0 : Nat) (v1 : Int32) (v2 : Int32) (v3 : Int32) (v4 : Int32), GO Y X 5 r h 0 0 36 [(0, .ref v0), (1, .int v1), (2, .int v2), (3, .int v3), (4, .int v4)] [] (fX10_sweep_L36 k75 n h v0 v1 v2 v3 v4) := by
  intro n
  induction n with
  | zero => intros; exact go_none _ _ _
  | succ n ih =>
    intro h v0 v1 v2 v3 v4
    rw [fX10_sweep_L36]
    refine go_iload (pc := 36) C 4 dX10_sweep_36 rfl ?_
    refine go_bipush (pc := 38) C dX10_sweep_38 kb_8 ?_
    refine go_icmp_ge (pc := 40) C 75 dX10_sweep_40 (by decide) (fun _ => ?_) (fun _ => ?_)
    · refine go_sub (ls' := [(0, .ref v0), (1, .int v1), (3, .int v3)]) [0, 1, 3] rfl ?_
      exact hk75 h v0 v1 v3
    · refine go_iload_n (pc := 43) C 3 dX10_sweep_43 rfl ?_
      refine go_aload_n (pc := 44) C 0 dX10_sweep_44 rfl ?_
      refine go_gR (pc := 45) C fdX10_20 dX10_sweep_45 (fun x3 => ?_)
      refine go_iload_n (pc := 48) C 1 dX10_sweep_48 rfl ?_
      refine go_iload (pc := 49) C 4 dX10_sweep_49 rfl ?_
      refine go_iload_n (pc := 51) C 2 dX10_sweep_51 rfl ?_
      refine go_aload_n (pc := 52) C 0 dX10_sweep_52 rfl ?_
      refine go_gR (pc := 53) C fdX10_33 dX10_sweep_53 (fun x4 => ?_)
      refine go_bind (fun q5 hq5 => ?_)
      refine go_callV (rest := [.int v3]) (st' := [.int q5.1, .int v3]) (c' := 0) (s' := 0) (pc := 56) C O miX10_220 mvX9_writePage [.int v1, .int v4, .int v2, .ref x4] rfl (mX9_writePage hq5).1 (mX9_writePage hq5).2 dX10_sweep_56 ⟨by decide, by decide, by decide, by decide⟩ rfl (Nat.le_of_ble_eq_true rfl) rfl ⟨rfl, rfl⟩ ?_
      refine go_if_ge (pc := 59) C 66 dX10_sweep_59 (by decide) (fun _ => ?_) (fun _ => ?_)
      · refine go_iconst (pc := 66) C dX10_sweep_66 ki_0 ?_
        refine go_sub (ls' := [(0, .ref v0), (1, .int v1), (2, .int v2), (4, .int v4)]) [0, 1, 2, 4] rfl ?_
        refine gX10_sweep_J67 C O E (ih) q5.2 v0 v1 v2 v4 0 v3
      · refine go_iconst (pc := 62) C dX10_sweep_62 ki_1 ?_
        refine go_goto (pc := 63) C 67 dX10_sweep_63 (by decide) ?_
        refine go_sub (ls' := [(0, .ref v0), (1, .int v1), (2, .int v2), (4, .int v4)]) [0, 1, 2, 4] rfl ?_
        refine gX10_sweep_J67 C O E (ih) q5.2 v0 v1 v2 v4 1 v3
set_option maxHeartbeats 4000000 in
theorem mX10_sweep {h : AH} {a0 : Nat} {a1 : Int32} {a2 : Int32} {r : Int32 × AH} (hr : fX10_sweep h a0 a1 a2 = some r) : hasC h 10 a0 = true ∧ MC yX10_sweep cX10_sweep 5 (some .int) 7 0 0 [.ref a0, .int a1, .int a2] h (some (.int r.1)) r.2 := by
  unfold fX10_sweep at hr
  obtain ⟨hc, hr⟩ := if_some hr
  refine ⟨hc, mc_of (l0 := [(0, .ref a0), (1, .int a1), (2, .int a2)]) rfl pn_X10 (Nat.le_of_ble_eq_true rfl) (fun Y X C E O hnm => go_run hr ?_)⟩
  have C : CT Y X RX10 cX10_sweep 5 := C
  refine go_aload_n (pc := 0) C 0 dX10_sweep_0 rfl ?_
  refine go_gR (pc := 1) C fdX10_16 dX10_sweep_1 (fun x6 => ?_)
  refine go_iload_n (pc := 4) C 1 dX10_sweep_4 rfl ?_
  refine go_bind (fun q7 hq7 => ?_)
  refine go_callV (rest := []) (st' := [.int (b2i q7)]) (c' := 0) (s' := 0) (pc := 5) C O miX10_138 mvX9_hasSpace [.int a1] rfl (mX9_hasSpace hq7).1 (mX9_hasSpace hq7).2 dX10_sweep_5 ⟨by decide, by decide, by decide, by decide⟩ rfl (Nat.le_of_ble_eq_true rfl) rfl ⟨rfl, rfl⟩ ?_
  refine go_ifZ_eq (pc := 8) C 18 dX10_sweep_8 (by decide) (fun _ => ?_) (fun _ => ?_)
  · refine go_iload_n (pc := 11) C 2 dX10_sweep_11 rfl ?_
    refine go_bind (fun q8 hq8 => ?_)
    refine go_callS (rest := []) (st' := [.int (b2i q8)]) (c' := 0) (s' := 0) (pc := 12) C O miX10_296 w_642 [.int a2] rfl (mX10_isValue hq8) dX10_sweep_12 ⟨by decide, by decide, by decide, by decide⟩ rfl (Nat.le_of_ble_eq_true rfl) rfl ⟨rfl, rfl⟩ ?_
    refine go_ifZ_ne (pc := 15) C 20 dX10_sweep_15 (by decide) (fun _ => ?_) (fun _ => ?_)
    · refine go_aload_n (pc := 20) C 0 dX10_sweep_20 rfl ?_
      refine go_gR (pc := 21) C fdX10_20 dX10_sweep_21 (fun x9 => ?_)
      refine go_aload_n (pc := 24) C 0 dX10_sweep_24 rfl ?_
      refine go_gR (pc := 25) C fdX10_16 dX10_sweep_25 (fun x10 => ?_)
      refine go_bind (fun q11 hq11 => ?_)
      refine go_callV (rest := []) (st' := []) (c' := 0) (s' := 0) (pc := 28) C O miX10_286 mvX9_copyFrom [.ref x10] rfl (mX9_copyFrom hq11).1 (mX9_copyFrom hq11).2 dX10_sweep_28 ⟨by decide, by decide, by decide, by decide⟩ rfl (Nat.le_of_ble_eq_true rfl) rfl ⟨rfl, rfl⟩ ?_
      refine go_iconst (pc := 31) C dX10_sweep_31 ki_0 ?_
      refine go_istore_n (ls' := [(3, .int 0), (0, .ref a0), (1, .int a1), (2, .int a2)]) (pc := 32) C dX10_sweep_32 (by decide) rfl ?_
      refine go_iconst (pc := 33) C dX10_sweep_33 ki_0 ?_
      refine go_istore (ls' := [(4, .int 0), (3, .int 0), (0, .ref a0), (1, .int a1), (2, .int a2)]) (pc := 34) C dX10_sweep_34 (by decide) rfl ?_
      refine go_sub (ls' := [(0, .ref a0), (1, .int a1), (2, .int a2), (3, .int 0), (4, .int 0)]) [2, 3, 4, 1, 0] rfl ?_
      refine gX10_sweep_L36 C O E (fun h15 x12 x13 x14 => ?_) FU q11 a0 a1 a2 0 0
      · refine go_aload_n (pc := 75) C 0 dX10_sweep_75 rfl ?_
        refine go_gR (pc := 76) C fdX10_50 dX10_sweep_76 (fun x16 => ?_)
        refine go_bind (fun q17 hq17 => ?_)
        refine go_callV (rest := []) (st' := []) (c' := 0) (s' := 0) (pc := 79) C O miX10_209 mvX5_clear [] rfl (mX5_clear hq17).1 (mX5_clear hq17).2 dX10_sweep_79 ⟨by decide, by decide, by decide, by decide⟩ rfl (Nat.le_of_ble_eq_true rfl) rfl ⟨rfl, rfl⟩ ?_
        refine go_aload_n (pc := 82) C 0 dX10_sweep_82 rfl ?_
        refine go_gR (pc := 83) C fdX10_50 dX10_sweep_83 (fun x18 => ?_)
        refine go_aload_n (pc := 86) C 0 dX10_sweep_86 rfl ?_
        refine go_gR (pc := 87) C fdX10_20 dX10_sweep_87 (fun x19 => ?_)
        refine go_bind (fun q20 hq20 => ?_)
        refine go_callV (rest := [.ref x18]) (st' := [.int q20, .ref x18]) (c' := 0) (s' := 0) (pc := 90) C O miX10_96 mvX9_frameTotal [] rfl (mX9_frameTotal hq20).1 (mX9_frameTotal hq20).2 dX10_sweep_90 ⟨by decide, by decide, by decide, by decide⟩ rfl (Nat.le_of_ble_eq_true rfl) rfl ⟨rfl, rfl⟩ ?_
        refine go_i2l (pc := 93) C dX10_sweep_93 ?_
        refine go_bind (fun q21 hq21 => ?_)
        refine go_callV (rest := []) (st' := []) (c' := 0) (s' := 0) (pc := 94) C O miX10_212 mvX5_add [.long (Int32.toInt64 q20)] rfl (mX5_add hq21).1 (mX5_add hq21).2 dX10_sweep_94 ⟨by decide, by decide, by decide, by decide⟩ rfl (Nat.le_of_ble_eq_true rfl) rfl ⟨rfl, rfl⟩ ?_
        refine go_aload_n (pc := 97) C 0 dX10_sweep_97 rfl ?_
        refine go_gR (pc := 98) C fdX10_50 dX10_sweep_98 (fun x22 => ?_)
        refine go_iload_n (pc := 101) C 2 dX10_sweep_101 rfl ?_
        refine go_i2l (pc := 102) C dX10_sweep_102 ?_
        refine go_bind (fun q23 hq23 => ?_)
        refine go_callV (rest := []) (st' := []) (c' := 0) (s' := 0) (pc := 103) C O miX10_212 mvX5_add [.long (Int32.toInt64 x14)] rfl (mX5_add hq23).1 (mX5_add hq23).2 dX10_sweep_103 ⟨by decide, by decide, by decide, by decide⟩ rfl (Nat.le_of_ble_eq_true rfl) rfl ⟨rfl, rfl⟩ ?_
        refine go_aload_n (pc := 106) C 0 dX10_sweep_106 rfl ?_
        refine go_gR (pc := 107) C fdX10_20 dX10_sweep_107 (fun x24 => ?_)
        refine go_iload_n (pc := 110) C 1 dX10_sweep_110 rfl ?_
        refine go_bind (fun q25 hq25 => ?_)
        refine go_callV (rest := []) (st' := [.int q25]) (c' := 0) (s' := 0) (pc := 111) C O miX10_151 mvX9_chainLength [.int x13] rfl (mX9_chainLength hq25).1 (mX9_chainLength hq25).2 dX10_sweep_111 ⟨by decide, by decide, by decide, by decide⟩ rfl (Nat.le_of_ble_eq_true rfl) rfl ⟨rfl, rfl⟩ ?_
        exact go_iret (w := wIh) (pc := 114) C E ((q25, q23)) q25 dX10_sweep_114 rfl
    · refine go_iconst (pc := 18) C dX10_sweep_18 ki_m1 ?_
      exact go_iret (w := wIh) (pc := 19) C E (((-1), h)) ((-1)) dX10_sweep_19 rfl
  · refine go_iconst (pc := 18) C dX10_sweep_18 ki_m1 ?_
    exact go_iret (w := wIh) (pc := 19) C E (((-1), h)) ((-1)) dX10_sweep_19 rfl
theorem dX10_choices_0 : decode cX10_choices 0 = .ok (.lconst 1, 1) := by decide +kernel
theorem dX10_choices_1 : decode cX10_choices 1 = .ok (.lstore_n 2, 1) := by decide +kernel
theorem dX10_choices_2 : decode cX10_choices 2 = .ok (.iconst 1, 1) := by decide +kernel
theorem dX10_choices_3 : decode cX10_choices 3 = .ok (.istore 4, 2) := by decide +kernel
theorem dX10_choices_5 : decode cX10_choices 5 = .ok (.iload 4, 2) := by decide +kernel
theorem dX10_choices_7 : decode cX10_choices 7 = .ok (.iload_n 1, 1) := by decide +kernel
theorem dX10_choices_8 : decode cX10_choices 8 = .ok (.if_icmp .gt 23, 3) := by decide +kernel
theorem dX10_choices_11 : decode cX10_choices 11 = .ok (.lload_n 2, 1) := by decide +kernel
theorem dX10_choices_12 : decode cX10_choices 12 = .ok (.iload_n 0, 1) := by decide +kernel
theorem dX10_choices_13 : decode cX10_choices 13 = .ok (.iload_n 1, 1) := by decide +kernel
theorem dX10_choices_14 : decode cX10_choices 14 = .ok (.isub, 1) := by decide +kernel
theorem dX10_choices_15 : decode cX10_choices 15 = .ok (.iload 4, 2) := by decide +kernel
theorem dX10_choices_17 : decode cX10_choices 17 = .ok (.iadd, 1) := by decide +kernel
theorem dX10_choices_18 : decode cX10_choices 18 = .ok (.i2l, 1) := by decide +kernel
theorem dX10_choices_19 : decode cX10_choices 19 = .ok (.lmul, 1) := by decide +kernel
theorem dX10_choices_20 : decode cX10_choices 20 = .ok (.iload 4, 2) := by decide +kernel
theorem dX10_choices_22 : decode cX10_choices 22 = .ok (.i2l, 1) := by decide +kernel
theorem dX10_choices_23 : decode cX10_choices 23 = .ok (.ldiv, 1) := by decide +kernel
theorem dX10_choices_24 : decode cX10_choices 24 = .ok (.lstore_n 2, 1) := by decide +kernel
theorem dX10_choices_25 : decode cX10_choices 25 = .ok (.iinc 4 1, 3) := by decide +kernel
theorem dX10_choices_28 : decode cX10_choices 28 = .ok (.goto (-23), 3) := by decide +kernel
theorem dX10_choices_31 : decode cX10_choices 31 = .ok (.lload_n 2, 1) := by decide +kernel
theorem dX10_choices_32 : decode cX10_choices 32 = .ok (.lreturn, 1) := by decide +kernel
def fX10_choices_L5 (h : AH) : Nat → Int32 → Int32 → Int64 → Int32 → Option (Int64)
  | 0, _, _, _, _ => none
  | n + 1, v0, v1, v2, v4 =>
    if v1 < v4 then (
      some v2
    ) else (
      (jdivL (v2 * (Int32.toInt64 ((v0 - v1) + v4))) (Int32.toInt64 v4)).bind fun x1 =>
      letF (v4 + 1 : Int32) fun x2 =>
      fX10_choices_L5 h n v0 v1 x1 x2
    )
def fX10_choices (h : AH) (a0 : Int32) (a1 : Int32) : Option (Int64) :=
  fX10_choices_L5 h FU a0 a1 1 1
set_option maxHeartbeats 4000000 in
theorem gX10_choices_L5 {Y : YT} {X : XT} (C : CT Y X RX10 cX10_choices 5) (O : RO X 1 0 0) {h : AH} {r : Int64} (E : RX Y X (some .long) (some (.long r)) h 0 0) : ∀ (n : Nat) (v0 : Int32) (v1 : Int32) (v2 : Int64) (v4 : Int32), GO Y X 5 r h 0 0 5 [(0, .int v0), (1, .int v1), (2, .long v2), (4, .int v4)] [] (fX10_choices_L5 h n v0 v1 v2 v4) := by
  intro n
  induction n with
  | zero => intros; exact go_none _ _ _
  | succ n ih =>
    intro v0 v1 v2 v4
    rw [fX10_choices_L5]
    refine go_iload (pc := 5) C 3 dX10_choices_5 rfl ?_
    refine go_iload_n (pc := 7) C 1 dX10_choices_7 rfl ?_
    refine go_icmp_gt (pc := 8) C 31 dX10_choices_8 (by decide) (fun _ => ?_) (fun _ => ?_)
    · refine go_lload_n (pc := 31) C 2 dX10_choices_31 rfl ?_
      exact go_lret (w := (wJ h)) (pc := 32) C E v2 v2 dX10_choices_32 rfl
    · refine go_lload_n (pc := 11) C 2 dX10_choices_11 rfl ?_
      refine go_iload_n (pc := 12) C 0 dX10_choices_12 rfl ?_
      refine go_iload_n (pc := 13) C 1 dX10_choices_13 rfl ?_
      refine go_isub (pc := 14) C dX10_choices_14 ?_
      refine go_iload (pc := 15) C 3 dX10_choices_15 rfl ?_
      refine go_iadd (pc := 17) C dX10_choices_17 ?_
      refine go_i2l (pc := 18) C dX10_choices_18 ?_
      refine go_lmul (pc := 19) C dX10_choices_19 ?_
      refine go_iload (pc := 20) C 3 dX10_choices_20 rfl ?_
      refine go_i2l (pc := 22) C dX10_choices_22 ?_
      refine go_ldiv (pc := 23) C dX10_choices_23 (fun x1 => ?_)
      refine go_lstore_n (ls' := [(2, .long x1), (0, .int v0), (1, .int v1), (4, .int v4)]) (pc := 24) C dX10_choices_24 (by decide) rfl ?_
      refine go_iincL (pc := 25) C 3 dX10_choices_25 rfl ki_1 (by decide) (fun x2 => [(4, .int x2), (2, .long x1), (0, .int v0), (1, .int v1)]) (fun _ => rfl) (fun x2 => ?_)
      refine go_goto (pc := 28) C 5 dX10_choices_28 (by decide) ?_
      refine go_sub (ls' := [(0, .int v0), (1, .int v1), (2, .long x1), (4, .int x2)]) [2, 3, 1, 0] rfl ?_
      exact ih v0 v1 x1 x2
set_option maxHeartbeats 4000000 in
theorem mX10_choices {h : AH} {a0 : Int32} {a1 : Int32} {r : Int64} (hr : fX10_choices h a0 a1 = some r) : MC yX10_choices cX10_choices 5 (some .long) 1 0 0 [.int a0, .int a1] h (some (.long r)) h := by
  unfold fX10_choices at hr
  refine mc_of (l0 := [(0, .int a0), (1, .int a1)]) rfl pn_X10 (Nat.le_of_ble_eq_true rfl) (fun Y X C E O hnm => go_run hr ?_)
  have C : CT Y X RX10 cX10_choices 5 := C
  refine go_lconst (v := 1) (pc := 0) C dX10_choices_0 (by decide) ?_
  refine go_lstore_n (ls' := [(2, .long 1), (0, .int a0), (1, .int a1)]) (pc := 1) C dX10_choices_1 (by decide) rfl ?_
  refine go_iconst (pc := 2) C dX10_choices_2 ki_1 ?_
  refine go_istore (ls' := [(4, .int 1), (2, .long 1), (0, .int a0), (1, .int a1)]) (pc := 3) C dX10_choices_3 (by decide) rfl ?_
  refine go_sub (ls' := [(0, .int a0), (1, .int a1), (2, .long 1), (4, .int 1)]) [2, 3, 1, 0] rfl ?_
  refine gX10_choices_L5 C O E FU a0 a1 1 1
theorem dX10_power_0 : decode cX10_power 0 = .ok (.lconst 1, 1) := by decide +kernel
theorem dX10_power_1 : decode cX10_power 1 = .ok (.lstore_n 2, 1) := by decide +kernel
theorem dX10_power_2 : decode cX10_power 2 = .ok (.iconst 0, 1) := by decide +kernel
theorem dX10_power_3 : decode cX10_power 3 = .ok (.istore 4, 2) := by decide +kernel
theorem dX10_power_5 : decode cX10_power 5 = .ok (.iload 4, 2) := by decide +kernel
theorem dX10_power_7 : decode cX10_power 7 = .ok (.iload_n 1, 1) := by decide +kernel
theorem dX10_power_8 : decode cX10_power 8 = .ok (.if_icmp .ge 14, 3) := by decide +kernel
theorem dX10_power_11 : decode cX10_power 11 = .ok (.lload_n 2, 1) := by decide +kernel
theorem dX10_power_12 : decode cX10_power 12 = .ok (.iload_n 0, 1) := by decide +kernel
theorem dX10_power_13 : decode cX10_power 13 = .ok (.i2l, 1) := by decide +kernel
theorem dX10_power_14 : decode cX10_power 14 = .ok (.lmul, 1) := by decide +kernel
theorem dX10_power_15 : decode cX10_power 15 = .ok (.lstore_n 2, 1) := by decide +kernel
theorem dX10_power_16 : decode cX10_power 16 = .ok (.iinc 4 1, 3) := by decide +kernel
theorem dX10_power_19 : decode cX10_power 19 = .ok (.goto (-14), 3) := by decide +kernel
theorem dX10_power_22 : decode cX10_power 22 = .ok (.lload_n 2, 1) := by decide +kernel
theorem dX10_power_23 : decode cX10_power 23 = .ok (.lreturn, 1) := by decide +kernel
def fX10_power_L5 (h : AH) : Nat → Int32 → Int32 → Int64 → Int32 → Option (Int64)
  | 0, _, _, _, _ => none
  | n + 1, v0, v1, v2, v4 =>
    if v1 ≤ v4 then (
      some v2
    ) else (
      letF (v2 * (Int32.toInt64 v0) : Int64) fun x1 =>
      letF (v4 + 1 : Int32) fun x2 =>
      fX10_power_L5 h n v0 v1 x1 x2
    )
def fX10_power (h : AH) (a0 : Int32) (a1 : Int32) : Option (Int64) :=
  fX10_power_L5 h FU a0 a1 1 0
set_option maxHeartbeats 4000000 in
theorem gX10_power_L5 {Y : YT} {X : XT} (C : CT Y X RX10 cX10_power 5) (O : RO X 1 0 0) {h : AH} {r : Int64} (E : RX Y X (some .long) (some (.long r)) h 0 0) : ∀ (n : Nat) (v0 : Int32) (v1 : Int32) (v2 : Int64) (v4 : Int32), GO Y X 5 r h 0 0 5 [(0, .int v0), (1, .int v1), (2, .long v2), (4, .int v4)] [] (fX10_power_L5 h n v0 v1 v2 v4) := by
  intro n
  induction n with
  | zero => intros; exact go_none _ _ _
  | succ n ih =>
    intro v0 v1 v2 v4
    rw [fX10_power_L5]
    refine go_iload (pc := 5) C 3 dX10_power_5 rfl ?_
    refine go_iload_n (pc := 7) C 1 dX10_power_7 rfl ?_
    refine go_icmp_ge (pc := 8) C 22 dX10_power_8 (by decide) (fun _ => ?_) (fun _ => ?_)
    · refine go_lload_n (pc := 22) C 2 dX10_power_22 rfl ?_
      exact go_lret (w := (wJ h)) (pc := 23) C E v2 v2 dX10_power_23 rfl
    · refine go_lload_n (pc := 11) C 2 dX10_power_11 rfl ?_
      refine go_iload_n (pc := 12) C 0 dX10_power_12 rfl ?_
      refine go_i2l (pc := 13) C dX10_power_13 ?_
      refine go_lmul (pc := 14) C dX10_power_14 ?_
      refine go_lstore_nL (pc := 15) C dX10_power_15 (by decide) (fun x1 => [(2, .long x1), (0, .int v0), (1, .int v1), (4, .int v4)]) (fun _ => rfl) (fun x1 => ?_)
      refine go_iincL (pc := 16) C 3 dX10_power_16 rfl ki_1 (by decide) (fun x2 => [(4, .int x2), (2, .long x1), (0, .int v0), (1, .int v1)]) (fun _ => rfl) (fun x2 => ?_)
      refine go_goto (pc := 19) C 5 dX10_power_19 (by decide) ?_
      refine go_sub (ls' := [(0, .int v0), (1, .int v1), (2, .long x1), (4, .int x2)]) [2, 3, 1, 0] rfl ?_
      exact ih v0 v1 x1 x2
set_option maxHeartbeats 4000000 in
theorem mX10_power {h : AH} {a0 : Int32} {a1 : Int32} {r : Int64} (hr : fX10_power h a0 a1 = some r) : MC yX10_power cX10_power 5 (some .long) 1 0 0 [.int a0, .int a1] h (some (.long r)) h := by
  unfold fX10_power at hr
  refine mc_of (l0 := [(0, .int a0), (1, .int a1)]) rfl pn_X10 (Nat.le_of_ble_eq_true rfl) (fun Y X C E O hnm => go_run hr ?_)
  have C : CT Y X RX10 cX10_power 5 := C
  refine go_lconst (v := 1) (pc := 0) C dX10_power_0 (by decide) ?_
  refine go_lstore_n (ls' := [(2, .long 1), (0, .int a0), (1, .int a1)]) (pc := 1) C dX10_power_1 (by decide) rfl ?_
  refine go_iconst (pc := 2) C dX10_power_2 ki_0 ?_
  refine go_istore (ls' := [(4, .int 0), (2, .long 1), (0, .int a0), (1, .int a1)]) (pc := 3) C dX10_power_3 (by decide) rfl ?_
  refine go_sub (ls' := [(0, .int a0), (1, .int a1), (2, .long 1), (4, .int 0)]) [2, 3, 1, 0] rfl ?_
  refine gX10_power_L5 C O E FU a0 a1 1 0
theorem dX10_commonDivisor_0 : decode cX10_commonDivisor 0 = .ok (.lload_n 0, 1) := by decide +kernel
theorem dX10_commonDivisor_1 : decode cX10_commonDivisor 1 = .ok (.lstore 4, 2) := by decide +kernel
theorem dX10_commonDivisor_3 : decode cX10_commonDivisor 3 = .ok (.lload_n 2, 1) := by decide +kernel
theorem dX10_commonDivisor_4 : decode cX10_commonDivisor 4 = .ok (.lstore 6, 2) := by decide +kernel
theorem dX10_commonDivisor_6 : decode cX10_commonDivisor 6 = .ok (.iconst 0, 1) := by decide +kernel
theorem dX10_commonDivisor_7 : decode cX10_commonDivisor 7 = .ok (.istore 8, 2) := by decide +kernel
theorem dX10_commonDivisor_9 : decode cX10_commonDivisor 9 = .ok (.iload 8, 2) := by decide +kernel
theorem dX10_commonDivisor_11 : decode cX10_commonDivisor 11 = .ok (.bipush 100, 2) := by decide +kernel
theorem dX10_commonDivisor_13 : decode cX10_commonDivisor 13 = .ok (.if_icmp .ge 31, 3) := by decide +kernel
theorem dX10_commonDivisor_16 : decode cX10_commonDivisor 16 = .ok (.lload 6, 2) := by decide +kernel
theorem dX10_commonDivisor_18 : decode cX10_commonDivisor 18 = .ok (.lconst 0, 1) := by decide +kernel
theorem dX10_commonDivisor_19 : decode cX10_commonDivisor 19 = .ok (.lcmp, 1) := by decide +kernel
theorem dX10_commonDivisor_20 : decode cX10_commonDivisor 20 = .ok (.ifCond .eq 24, 3) := by decide +kernel
theorem dX10_commonDivisor_23 : decode cX10_commonDivisor 23 = .ok (.lload 4, 2) := by decide +kernel
theorem dX10_commonDivisor_25 : decode cX10_commonDivisor 25 = .ok (.lload 6, 2) := by decide +kernel
theorem dX10_commonDivisor_27 : decode cX10_commonDivisor 27 = .ok (.lrem, 1) := by decide +kernel
theorem dX10_commonDivisor_28 : decode cX10_commonDivisor 28 = .ok (.lstore 9, 2) := by decide +kernel
theorem dX10_commonDivisor_30 : decode cX10_commonDivisor 30 = .ok (.lload 6, 2) := by decide +kernel
theorem dX10_commonDivisor_32 : decode cX10_commonDivisor 32 = .ok (.lstore 4, 2) := by decide +kernel
theorem dX10_commonDivisor_34 : decode cX10_commonDivisor 34 = .ok (.lload 9, 2) := by decide +kernel
theorem dX10_commonDivisor_36 : decode cX10_commonDivisor 36 = .ok (.lstore 6, 2) := by decide +kernel
theorem dX10_commonDivisor_38 : decode cX10_commonDivisor 38 = .ok (.iinc 8 1, 3) := by decide +kernel
theorem dX10_commonDivisor_41 : decode cX10_commonDivisor 41 = .ok (.goto (-32), 3) := by decide +kernel
theorem dX10_commonDivisor_44 : decode cX10_commonDivisor 44 = .ok (.lload 4, 2) := by decide +kernel
theorem dX10_commonDivisor_46 : decode cX10_commonDivisor 46 = .ok (.lreturn, 1) := by decide +kernel
def fX10_commonDivisor_L9 (h : AH) : Nat → Int64 → Int64 → Int32 → Option (Int64)
  | 0, _, _, _ => none
  | n + 1, v4, v6, v8 =>
    if 100 ≤ v8 then (
      some v4
    ) else (
      if (lg_cmp v6 0) = 0 then (
        some v4
      ) else (
        (jremL v4 v6).bind fun x1 =>
        letF (v8 + 1 : Int32) fun x2 =>
        fX10_commonDivisor_L9 h n v6 x1 x2
      )
    )
def fX10_commonDivisor (h : AH) (a0 : Int64) (a2 : Int64) : Option (Int64) :=
  fX10_commonDivisor_L9 h FU a0 a2 0
set_option maxHeartbeats 4000000 in
theorem gX10_commonDivisor_L9 {Y : YT} {X : XT} (C : CT Y X RX10 cX10_commonDivisor 11) (O : RO X 1 0 0) {h : AH} {r : Int64} (E : RX Y X (some .long) (some (.long r)) h 0 0) : ∀ (n : Nat) (v4 : Int64) (v6 : Int64) (v8 : Int32), GO Y X 11 r h 0 0 9 [(4, .long v4), (6, .long v6), (8, .int v8)] [] (fX10_commonDivisor_L9 h n v4 v6 v8) := by
  intro n
  induction n with
  | zero => intros; exact go_none _ _ _
  | succ n ih =>
    intro v4 v6 v8
    rw [fX10_commonDivisor_L9]
    refine go_iload (pc := 9) C 2 dX10_commonDivisor_9 rfl ?_
    refine go_bipush (pc := 11) C dX10_commonDivisor_11 kb_100 ?_
    refine go_icmp_ge (pc := 13) C 44 dX10_commonDivisor_13 (by decide) (fun _ => ?_) (fun _ => ?_)
    · refine go_lload (pc := 44) C 0 dX10_commonDivisor_44 rfl ?_
      exact go_lret (w := (wJ h)) (pc := 46) C E v4 v4 dX10_commonDivisor_46 rfl
    · refine go_lload (pc := 16) C 1 dX10_commonDivisor_16 rfl ?_
      refine go_lconst (v := 0) (pc := 18) C dX10_commonDivisor_18 (by decide) ?_
      refine go_lcmp (pc := 19) C dX10_commonDivisor_19 ?_
      refine go_if_eq (pc := 20) C 44 dX10_commonDivisor_20 (by decide) (fun _ => ?_) (fun _ => ?_)
      · refine go_lload (pc := 44) C 0 dX10_commonDivisor_44 rfl ?_
        exact go_lret (w := (wJ h)) (pc := 46) C E v4 v4 dX10_commonDivisor_46 rfl
      · refine go_lload (pc := 23) C 0 dX10_commonDivisor_23 rfl ?_
        refine go_lload (pc := 25) C 1 dX10_commonDivisor_25 rfl ?_
        refine go_lrem (pc := 27) C dX10_commonDivisor_27 (fun x1 => ?_)
        refine go_lstore (ls' := [(9, .long x1), (4, .long v4), (6, .long v6), (8, .int v8)]) (pc := 28) C dX10_commonDivisor_28 (by decide) rfl ?_
        refine go_lload (pc := 30) C 2 dX10_commonDivisor_30 rfl ?_
        refine go_lstore (ls' := [(4, .long v6), (9, .long x1), (6, .long v6), (8, .int v8)]) (pc := 32) C dX10_commonDivisor_32 (by decide) rfl ?_
        refine go_lload (pc := 34) C 1 dX10_commonDivisor_34 rfl ?_
        refine go_lstore (ls' := [(6, .long x1), (4, .long v6), (9, .long x1), (8, .int v8)]) (pc := 36) C dX10_commonDivisor_36 (by decide) rfl ?_
        refine go_iincL (pc := 38) C 3 dX10_commonDivisor_38 rfl ki_1 (by decide) (fun x2 => [(8, .int x2), (6, .long x1), (4, .long v6), (9, .long x1)]) (fun _ => rfl) (fun x2 => ?_)
        refine go_goto (pc := 41) C 9 dX10_commonDivisor_41 (by decide) ?_
        refine go_sub (ls' := [(4, .long v6), (6, .long x1), (8, .int x2)]) [2, 1, 0] rfl ?_
        exact ih v6 x1 x2
set_option maxHeartbeats 4000000 in
theorem mX10_commonDivisor {h : AH} {a0 : Int64} {a2 : Int64} {r : Int64} (hr : fX10_commonDivisor h a0 a2 = some r) : MC yX10_commonDivisor cX10_commonDivisor 11 (some .long) 1 0 0 [.long a0, .long a2] h (some (.long r)) h := by
  unfold fX10_commonDivisor at hr
  refine mc_of (l0 := [(0, .long a0), (2, .long a2)]) rfl pn_X10 (Nat.le_of_ble_eq_true rfl) (fun Y X C E O hnm => go_run hr ?_)
  have C : CT Y X RX10 cX10_commonDivisor 11 := C
  refine go_lload_n (pc := 0) C 0 dX10_commonDivisor_0 rfl ?_
  refine go_lstore (ls' := [(4, .long a0), (0, .long a0), (2, .long a2)]) (pc := 1) C dX10_commonDivisor_1 (by decide) rfl ?_
  refine go_lload_n (pc := 3) C 2 dX10_commonDivisor_3 rfl ?_
  refine go_lstore (ls' := [(6, .long a2), (4, .long a0), (0, .long a0), (2, .long a2)]) (pc := 4) C dX10_commonDivisor_4 (by decide) rfl ?_
  refine go_iconst (pc := 6) C dX10_commonDivisor_6 ki_0 ?_
  refine go_istore (ls' := [(8, .int 0), (6, .long a2), (4, .long a0), (0, .long a0), (2, .long a2)]) (pc := 7) C dX10_commonDivisor_7 (by decide) rfl ?_
  refine go_sub (ls' := [(4, .long a0), (6, .long a2), (8, .int 0)]) [2, 1, 0] rfl ?_
  refine gX10_commonDivisor_L9 C O E FU a0 a2 0
theorem dX10_tellFraction_0 : decode cX10_tellFraction 0 = .ok (.lload_n 1, 1) := by decide +kernel
theorem dX10_tellFraction_1 : decode cX10_tellFraction 1 = .ok (.lload_n 3, 1) := by decide +kernel
theorem dX10_tellFraction_2 : decode cX10_tellFraction 2 = .ok (.invokestatic 441, 3) := by decide +kernel
theorem dX10_tellFraction_5 : decode cX10_tellFraction 5 = .ok (.lstore 5, 2) := by decide +kernel
theorem dX10_tellFraction_7 : decode cX10_tellFraction 7 = .ok (.aload_n 0, 1) := by decide +kernel
theorem dX10_tellFraction_8 : decode cX10_tellFraction 8 = .ok (.getfield 50, 3) := by decide +kernel
theorem dX10_tellFraction_11 : decode cX10_tellFraction 11 = .ok (.invokevirtual 209, 3) := by decide +kernel
theorem dX10_tellFraction_14 : decode cX10_tellFraction 14 = .ok (.aload_n 0, 1) := by decide +kernel
theorem dX10_tellFraction_15 : decode cX10_tellFraction 15 = .ok (.getfield 50, 3) := by decide +kernel
theorem dX10_tellFraction_18 : decode cX10_tellFraction 18 = .ok (.lload 5, 2) := by decide +kernel
theorem dX10_tellFraction_20 : decode cX10_tellFraction 20 = .ok (.lconst 0, 1) := by decide +kernel
theorem dX10_tellFraction_21 : decode cX10_tellFraction 21 = .ok (.lcmp, 1) := by decide +kernel
theorem dX10_tellFraction_22 : decode cX10_tellFraction 22 = .ok (.ifCond .ne 7, 3) := by decide +kernel
theorem dX10_tellFraction_25 : decode cX10_tellFraction 25 = .ok (.lconst 0, 1) := by decide +kernel
theorem dX10_tellFraction_26 : decode cX10_tellFraction 26 = .ok (.goto 7, 3) := by decide +kernel
theorem dX10_tellFraction_29 : decode cX10_tellFraction 29 = .ok (.lload_n 1, 1) := by decide +kernel
theorem dX10_tellFraction_30 : decode cX10_tellFraction 30 = .ok (.lload 5, 2) := by decide +kernel
theorem dX10_tellFraction_32 : decode cX10_tellFraction 32 = .ok (.ldiv, 1) := by decide +kernel
theorem dX10_tellFraction_33 : decode cX10_tellFraction 33 = .ok (.invokevirtual 212, 3) := by decide +kernel
theorem dX10_tellFraction_36 : decode cX10_tellFraction 36 = .ok (.aload_n 0, 1) := by decide +kernel
theorem dX10_tellFraction_37 : decode cX10_tellFraction 37 = .ok (.getfield 50, 3) := by decide +kernel
theorem dX10_tellFraction_40 : decode cX10_tellFraction 40 = .ok (.lload 5, 2) := by decide +kernel
theorem dX10_tellFraction_42 : decode cX10_tellFraction 42 = .ok (.lconst 0, 1) := by decide +kernel
theorem dX10_tellFraction_43 : decode cX10_tellFraction 43 = .ok (.lcmp, 1) := by decide +kernel
theorem dX10_tellFraction_44 : decode cX10_tellFraction 44 = .ok (.ifCond .ne 7, 3) := by decide +kernel
theorem dX10_tellFraction_47 : decode cX10_tellFraction 47 = .ok (.lconst 1, 1) := by decide +kernel
theorem dX10_tellFraction_48 : decode cX10_tellFraction 48 = .ok (.goto 7, 3) := by decide +kernel
theorem dX10_tellFraction_51 : decode cX10_tellFraction 51 = .ok (.lload_n 3, 1) := by decide +kernel
theorem dX10_tellFraction_52 : decode cX10_tellFraction 52 = .ok (.lload 5, 2) := by decide +kernel
theorem dX10_tellFraction_54 : decode cX10_tellFraction 54 = .ok (.ldiv, 1) := by decide +kernel
theorem dX10_tellFraction_55 : decode cX10_tellFraction 55 = .ok (.invokevirtual 212, 3) := by decide +kernel
theorem dX10_tellFraction_58 : decode cX10_tellFraction 58 = .ok (.return_, 1) := by decide +kernel
def fX10_tellFraction_J55 (h : AH) (s0 : Int64) (s1 : Nat) : Option (AH) :=
    (fX5_add h s1 s0).bind fun q1 =>
    some q1
def fX10_tellFraction_J33 (h : AH) (v0 : Nat) (v3 : Int64) (v5 : Int64) (s0 : Int64) (s1 : Nat) : Option (AH) :=
    (fX5_add h s1 s0).bind fun q2 =>
    (gR q2 10 v0 8).bind fun x3 =>
    if (lg_cmp v5 0) = 0 then (
      fX10_tellFraction_J55 q2 1 x3
    ) else (
      (jdivL v3 v5).bind fun x4 =>
      fX10_tellFraction_J55 q2 x4 x3
    )
def fX10_tellFraction (h : AH) (a0 : Nat) (a1 : Int64) (a3 : Int64) : Option (AH) :=
  if hasC h 10 a0 = true then (
    (fX10_commonDivisor h a1 a3).bind fun q5 =>
    (gR h 10 a0 8).bind fun x6 =>
    (fX5_clear h x6).bind fun q7 =>
    (gR q7 10 a0 8).bind fun x8 =>
    if (lg_cmp q5 0) = 0 then (
      fX10_tellFraction_J33 q7 a0 a3 q5 0 x8
    ) else (
      (jdivL a1 q5).bind fun x9 =>
      fX10_tellFraction_J33 q7 a0 a3 q5 x9 x8
    )
  ) else none
set_option maxHeartbeats 4000000 in
theorem gX10_tellFraction_J55 {Y : YT} {X : XT} (C : CT Y X RX10 cX10_tellFraction 7) (O : RO X 2 0 0) {r : AH} (E : RX Y X none none r 0 0) : ∀ (h : AH) (s0 : Int64) (s1 : Nat), GO Y X 7 r h 0 0 55 [] [.long s0, .ref s1] (fX10_tellFraction_J55 h s0 s1) := by
  intro h s0 s1
  unfold fX10_tellFraction_J55
  refine go_bind (fun q1 hq1 => ?_)
  refine go_callV (rest := []) (st' := []) (c' := 0) (s' := 0) (pc := 55) C O miX10_212 mvX5_add [.long s0] rfl (mX5_add hq1).1 (mX5_add hq1).2 dX10_tellFraction_55 ⟨by decide, by decide, by decide, by decide⟩ rfl (Nat.le_of_ble_eq_true rfl) rfl ⟨rfl, rfl⟩ ?_
  exact go_vret (w := wV) (pc := 58) C E q1 dX10_tellFraction_58 rfl
set_option maxHeartbeats 4000000 in
theorem gX10_tellFraction_J33 {Y : YT} {X : XT} (C : CT Y X RX10 cX10_tellFraction 7) (O : RO X 2 0 0) {r : AH} (E : RX Y X none none r 0 0) : ∀ (h : AH) (v0 : Nat) (v3 : Int64) (v5 : Int64) (s0 : Int64) (s1 : Nat), GO Y X 7 r h 0 0 33 [(0, .ref v0), (3, .long v3), (5, .long v5)] [.long s0, .ref s1] (fX10_tellFraction_J33 h v0 v3 v5 s0 s1) := by
  intro h v0 v3 v5 s0 s1
  unfold fX10_tellFraction_J33
  refine go_bind (fun q2 hq2 => ?_)
  refine go_callV (rest := []) (st' := []) (c' := 0) (s' := 0) (pc := 33) C O miX10_212 mvX5_add [.long s0] rfl (mX5_add hq2).1 (mX5_add hq2).2 dX10_tellFraction_33 ⟨by decide, by decide, by decide, by decide⟩ rfl (Nat.le_of_ble_eq_true rfl) rfl ⟨rfl, rfl⟩ ?_
  refine go_aload_n (pc := 36) C 0 dX10_tellFraction_36 rfl ?_
  refine go_gR (pc := 37) C fdX10_50 dX10_tellFraction_37 (fun x3 => ?_)
  refine go_lload (pc := 40) C 2 dX10_tellFraction_40 rfl ?_
  refine go_lconst (v := 0) (pc := 42) C dX10_tellFraction_42 (by decide) ?_
  refine go_lcmp (pc := 43) C dX10_tellFraction_43 ?_
  refine go_if_ne (pc := 44) C 51 dX10_tellFraction_44 (by decide) (fun _ => ?_) (fun _ => ?_)
  · refine go_lconst (v := 1) (pc := 47) C dX10_tellFraction_47 (by decide) ?_
    refine go_goto (pc := 48) C 55 dX10_tellFraction_48 (by decide) ?_
    refine go_sub (ls' := []) [] rfl ?_
    refine gX10_tellFraction_J55 C O E q2 1 x3
  · refine go_lload_n (pc := 51) C 1 dX10_tellFraction_51 rfl ?_
    refine go_lload (pc := 52) C 2 dX10_tellFraction_52 rfl ?_
    refine go_ldiv (pc := 54) C dX10_tellFraction_54 (fun x4 => ?_)
    refine go_sub (ls' := []) [] rfl ?_
    refine gX10_tellFraction_J55 C O E q2 x4 x3
set_option maxHeartbeats 4000000 in
theorem mX10_tellFraction {h : AH} {a0 : Nat} {a1 : Int64} {a3 : Int64} {r : AH} (hr : fX10_tellFraction h a0 a1 a3 = some r) : hasC h 10 a0 = true ∧ MC yX10_tellFraction cX10_tellFraction 7 none 2 0 0 [.ref a0, .long a1, .long a3] h none r := by
  unfold fX10_tellFraction at hr
  obtain ⟨hc, hr⟩ := if_some hr
  refine ⟨hc, mc_of (l0 := [(0, .ref a0), (1, .long a1), (3, .long a3)]) rfl pn_X10 (Nat.le_of_ble_eq_true rfl) (fun Y X C E O hnm => go_run hr ?_)⟩
  have C : CT Y X RX10 cX10_tellFraction 7 := C
  refine go_lload_n (pc := 0) C 1 dX10_tellFraction_0 rfl ?_
  refine go_lload_n (pc := 1) C 2 dX10_tellFraction_1 rfl ?_
  refine go_bind (fun q5 hq5 => ?_)
  refine go_callS (rest := []) (st' := [.long q5]) (c' := 0) (s' := 0) (pc := 2) C O miX10_441 w_988 [.long a1, .long a3] rfl (mX10_commonDivisor hq5) dX10_tellFraction_2 ⟨by decide, by decide, by decide, by decide⟩ rfl (Nat.le_of_ble_eq_true rfl) rfl ⟨rfl, rfl⟩ ?_
  refine go_lstore (ls' := [(5, .long q5), (0, .ref a0), (1, .long a1), (3, .long a3)]) (pc := 5) C dX10_tellFraction_5 (by decide) rfl ?_
  refine go_aload_n (pc := 7) C 1 dX10_tellFraction_7 rfl ?_
  refine go_gR (pc := 8) C fdX10_50 dX10_tellFraction_8 (fun x6 => ?_)
  refine go_bind (fun q7 hq7 => ?_)
  refine go_callV (rest := []) (st' := []) (c' := 0) (s' := 0) (pc := 11) C O miX10_209 mvX5_clear [] rfl (mX5_clear hq7).1 (mX5_clear hq7).2 dX10_tellFraction_11 ⟨by decide, by decide, by decide, by decide⟩ rfl (Nat.le_of_ble_eq_true rfl) rfl ⟨rfl, rfl⟩ ?_
  refine go_aload_n (pc := 14) C 1 dX10_tellFraction_14 rfl ?_
  refine go_gR (pc := 15) C fdX10_50 dX10_tellFraction_15 (fun x8 => ?_)
  refine go_lload (pc := 18) C 0 dX10_tellFraction_18 rfl ?_
  refine go_lconst (v := 0) (pc := 20) C dX10_tellFraction_20 (by decide) ?_
  refine go_lcmp (pc := 21) C dX10_tellFraction_21 ?_
  refine go_if_ne (pc := 22) C 29 dX10_tellFraction_22 (by decide) (fun _ => ?_) (fun _ => ?_)
  · refine go_lconst (v := 0) (pc := 25) C dX10_tellFraction_25 (by decide) ?_
    refine go_goto (pc := 26) C 33 dX10_tellFraction_26 (by decide) ?_
    refine go_sub (ls' := [(0, .ref a0), (3, .long a3), (5, .long q5)]) [1, 3, 0] rfl ?_
    refine gX10_tellFraction_J33 C O E q7 a0 a3 q5 0 x8
  · refine go_lload_n (pc := 29) C 2 dX10_tellFraction_29 rfl ?_
    refine go_lload (pc := 30) C 0 dX10_tellFraction_30 rfl ?_
    refine go_ldiv (pc := 32) C dX10_tellFraction_32 (fun x9 => ?_)
    refine go_sub (ls' := [(0, .ref a0), (3, .long a3), (5, .long q5)]) [1, 3, 0] rfl ?_
    refine gX10_tellFraction_J33 C O E q7 a0 a3 q5 x9 x8
theorem dX10_odds_0 : decode cX10_odds 0 = .ok (.aload_n 0, 1) := by decide +kernel
theorem dX10_odds_1 : decode cX10_odds 1 = .ok (.getfield 16, 3) := by decide +kernel
theorem dX10_odds_4 : decode cX10_odds 4 = .ok (.iload_n 1, 1) := by decide +kernel
theorem dX10_odds_5 : decode cX10_odds 5 = .ok (.invokevirtual 138, 3) := by decide +kernel
theorem dX10_odds_8 : decode cX10_odds 8 = .ok (.ifCond .eq 23, 3) := by decide +kernel
theorem dX10_odds_11 : decode cX10_odds 11 = .ok (.iload_n 2, 1) := by decide +kernel
theorem dX10_odds_12 : decode cX10_odds 12 = .ok (.ifCond .lt 19, 3) := by decide +kernel
theorem dX10_odds_15 : decode cX10_odds 15 = .ok (.iload_n 2, 1) := by decide +kernel
theorem dX10_odds_16 : decode cX10_odds 16 = .ok (.bipush 10, 2) := by decide +kernel
theorem dX10_odds_18 : decode cX10_odds 18 = .ok (.if_icmp .gt 13, 3) := by decide +kernel
theorem dX10_odds_21 : decode cX10_odds 21 = .ok (.iload_n 3, 1) := by decide +kernel
theorem dX10_odds_22 : decode cX10_odds 22 = .ok (.ifCond .lt 9, 3) := by decide +kernel
theorem dX10_odds_25 : decode cX10_odds 25 = .ok (.iload_n 3, 1) := by decide +kernel
theorem dX10_odds_26 : decode cX10_odds 26 = .ok (.bipush 8, 2) := by decide +kernel
theorem dX10_odds_28 : decode cX10_odds 28 = .ok (.if_icmp .le 5, 3) := by decide +kernel
theorem dX10_odds_31 : decode cX10_odds 31 = .ok (.iconst (-1), 1) := by decide +kernel
theorem dX10_odds_32 : decode cX10_odds 32 = .ok (.ireturn, 1) := by decide +kernel
theorem dX10_odds_33 : decode cX10_odds 33 = .ok (.bipush 8, 2) := by decide +kernel
theorem dX10_odds_35 : decode cX10_odds 35 = .ok (.aload_n 0, 1) := by decide +kernel
theorem dX10_odds_36 : decode cX10_odds 36 = .ok (.getfield 16, 3) := by decide +kernel
theorem dX10_odds_39 : decode cX10_odds 39 = .ok (.iload_n 1, 1) := by decide +kernel
theorem dX10_odds_40 : decode cX10_odds 40 = .ok (.invokevirtual 299, 3) := by decide +kernel
theorem dX10_odds_43 : decode cX10_odds 43 = .ok (.invokestatic 291, 3) := by decide +kernel
theorem dX10_odds_46 : decode cX10_odds 46 = .ok (.isub, 1) := by decide +kernel
theorem dX10_odds_47 : decode cX10_odds 47 = .ok (.istore 4, 2) := by decide +kernel
theorem dX10_odds_49 : decode cX10_odds 49 = .ok (.lconst 0, 1) := by decide +kernel
theorem dX10_odds_50 : decode cX10_odds 50 = .ok (.lstore 5, 2) := by decide +kernel
theorem dX10_odds_52 : decode cX10_odds 52 = .ok (.iconst 0, 1) := by decide +kernel
theorem dX10_odds_53 : decode cX10_odds 53 = .ok (.istore 7, 2) := by decide +kernel
theorem dX10_odds_55 : decode cX10_odds 55 = .ok (.iload 7, 2) := by decide +kernel
theorem dX10_odds_57 : decode cX10_odds 57 = .ok (.iload_n 3, 1) := by decide +kernel
theorem dX10_odds_58 : decode cX10_odds 58 = .ok (.if_icmp .gt 48, 3) := by decide +kernel
theorem dX10_odds_61 : decode cX10_odds 61 = .ok (.iload 7, 2) := by decide +kernel
theorem dX10_odds_63 : decode cX10_odds 63 = .ok (.iload 4, 2) := by decide +kernel
theorem dX10_odds_65 : decode cX10_odds 65 = .ok (.if_icmp .gt 41, 3) := by decide +kernel
theorem dX10_odds_68 : decode cX10_odds 68 = .ok (.lload 5, 2) := by decide +kernel
theorem dX10_odds_70 : decode cX10_odds 70 = .ok (.iload 4, 2) := by decide +kernel
theorem dX10_odds_72 : decode cX10_odds 72 = .ok (.iload 7, 2) := by decide +kernel
theorem dX10_odds_74 : decode cX10_odds 74 = .ok (.invokestatic 302, 3) := by decide +kernel
theorem dX10_odds_77 : decode cX10_odds 77 = .ok (.iload_n 2, 1) := by decide +kernel
theorem dX10_odds_78 : decode cX10_odds 78 = .ok (.iload 7, 2) := by decide +kernel
theorem dX10_odds_80 : decode cX10_odds 80 = .ok (.invokestatic 306, 3) := by decide +kernel
theorem dX10_odds_83 : decode cX10_odds 83 = .ok (.lmul, 1) := by decide +kernel
theorem dX10_odds_84 : decode cX10_odds 84 = .ok (.bipush 10, 2) := by decide +kernel
theorem dX10_odds_86 : decode cX10_odds 86 = .ok (.iload_n 2, 1) := by decide +kernel
theorem dX10_odds_87 : decode cX10_odds 87 = .ok (.isub, 1) := by decide +kernel
theorem dX10_odds_88 : decode cX10_odds 88 = .ok (.iload 4, 2) := by decide +kernel
theorem dX10_odds_90 : decode cX10_odds 90 = .ok (.iload 7, 2) := by decide +kernel
theorem dX10_odds_92 : decode cX10_odds 92 = .ok (.isub, 1) := by decide +kernel
theorem dX10_odds_93 : decode cX10_odds 93 = .ok (.invokestatic 306, 3) := by decide +kernel
theorem dX10_odds_96 : decode cX10_odds 96 = .ok (.lmul, 1) := by decide +kernel
theorem dX10_odds_97 : decode cX10_odds 97 = .ok (.ladd, 1) := by decide +kernel
theorem dX10_odds_98 : decode cX10_odds 98 = .ok (.lstore 5, 2) := by decide +kernel
theorem dX10_odds_100 : decode cX10_odds 100 = .ok (.iinc 7 1, 3) := by decide +kernel
theorem dX10_odds_103 : decode cX10_odds 103 = .ok (.goto (-48), 3) := by decide +kernel
theorem dX10_odds_106 : decode cX10_odds 106 = .ok (.aload_n 0, 1) := by decide +kernel
theorem dX10_odds_107 : decode cX10_odds 107 = .ok (.lload 5, 2) := by decide +kernel
theorem dX10_odds_109 : decode cX10_odds 109 = .ok (.bipush 10, 2) := by decide +kernel
theorem dX10_odds_111 : decode cX10_odds 111 = .ok (.iload 4, 2) := by decide +kernel
theorem dX10_odds_113 : decode cX10_odds 113 = .ok (.invokestatic 306, 3) := by decide +kernel
theorem dX10_odds_116 : decode cX10_odds 116 = .ok (.invokevirtual 309, 3) := by decide +kernel
theorem dX10_odds_119 : decode cX10_odds 119 = .ok (.iconst 0, 1) := by decide +kernel
theorem dX10_odds_120 : decode cX10_odds 120 = .ok (.ireturn, 1) := by decide +kernel
def fX10_odds_L55 (k106 : AH → Nat → Int32 → Int64 → Option (Int32 × AH)) : Nat → AH → Nat → Int32 → Int32 → Int32 → Int64 → Int32 → Option (Int32 × AH)
  | 0, _, _, _, _, _, _, _ => none
  | n + 1, h, v0, v2, v3, v4, v5, v7 =>
    if v3 < v7 then (
      k106 h v0 v4 v5
    ) else (
      if v4 < v7 then (
        k106 h v0 v4 v5
      ) else (
        (fX10_choices h v4 v7).bind fun q1 =>
        (fX10_power h v2 v7).bind fun q2 =>
        (fX10_power h (10 - v2) (v4 - v7)).bind fun q3 =>
        letF (v5 + ((q1 * q2) * q3) : Int64) fun x4 =>
        letF (v7 + 1 : Int32) fun x5 =>
        fX10_odds_L55 k106 n h v0 v2 v3 v4 x4 x5
      )
    )
def fX10_odds_J106 (h : AH) (v0 : Nat) (v4 : Int32) (v5 : Int64) : Option (Int32 × AH) :=
    (fX10_power h 10 v4).bind fun q6 =>
    (fX10_tellFraction h v0 v5 q6).bind fun q7 =>
    some ((0, q7))
def fX10_odds (h : AH) (a0 : Nat) (a1 : Int32) (a2 : Int32) (a3 : Int32) : Option (Int32 × AH) :=
  if hasC h 10 a0 = true then (
    (gR h 10 a0 2).bind fun x8 =>
    (fX9_hasSpace h x8 a1).bind fun q9 =>
    if q9 = true then (
      if a2 < 0 then (
        some (((-1), h))
      ) else (
        if 10 < a2 then (
          some (((-1), h))
        ) else (
          if a3 < 0 then (
            some (((-1), h))
          ) else (
            if a3 ≤ 8 then (
              (gR h 10 a0 2).bind fun x10 =>
              (fX9_ownPages h x10 a1).bind fun q11 =>
              (fJ6_bitCount_0f7a4 h q11).bind fun q12 =>
              letF (8 - q12 : Int32) fun x13 =>
              fX10_odds_L55
                (fun h17 x14 x15 x16 =>
                  fX10_odds_J106 h17 x14 x15 x16)
                FU h a0 a2 a3 x13 0 0
            ) else (
              some (((-1), h))
            )
          )
        )
      )
    ) else (
      some (((-1), h))
    )
  ) else none
set_option maxHeartbeats 4000000 in
theorem gX10_odds_L55 {Y : YT} {X : XT} (C : CT Y X RX10 cX10_odds 8) (O : RO X 5 0 0) {r : Int32 × AH} (E : RX Y X (some .int) (some (.int r.1)) r.2 0 0) {k106 : AH → Nat → Int32 → Int64 → Option (Int32 × AH)} (hk106 : ∀ (h : AH) (v0 : Nat) (v4 : Int32) (v5 : Int64), GO Y X 8 r h 0 0 106 [(0, .ref v0), (4, .int v4), (5, .long v5)] [] (k106 h v0 v4 v5)) : ∀ (n : Nat) (h : AH) (v0 : Nat) (v2 : Int32) (v3 : Int32) (v4 : Int32) (v5 : Int64) (v7 : Int32), GO Y X 8 r h 0 0 55 [(0, .ref v0), (2, .int v2), (3, .int v3), (4, .int v4), (5, .long v5), (7, .int v7)] [] (fX10_odds_L55 k106 n h v0 v2 v3 v4 v5 v7) := by
  intro n
  induction n with
  | zero => intros; exact go_none _ _ _
  | succ n ih =>
    intro h v0 v2 v3 v4 v5 v7
    rw [fX10_odds_L55]
    refine go_iload (pc := 55) C 5 dX10_odds_55 rfl ?_
    refine go_iload_n (pc := 57) C 2 dX10_odds_57 rfl ?_
    refine go_icmp_gt (pc := 58) C 106 dX10_odds_58 (by decide) (fun _ => ?_) (fun _ => ?_)
    · refine go_sub (ls' := [(0, .ref v0), (4, .int v4), (5, .long v5)]) [0, 3, 4] rfl ?_
      exact hk106 h v0 v4 v5
    · refine go_iload (pc := 61) C 5 dX10_odds_61 rfl ?_
      refine go_iload (pc := 63) C 3 dX10_odds_63 rfl ?_
      refine go_icmp_gt (pc := 65) C 106 dX10_odds_65 (by decide) (fun _ => ?_) (fun _ => ?_)
      · refine go_sub (ls' := [(0, .ref v0), (4, .int v4), (5, .long v5)]) [0, 3, 4] rfl ?_
        exact hk106 h v0 v4 v5
      · refine go_lload (pc := 68) C 4 dX10_odds_68 rfl ?_
        refine go_iload (pc := 70) C 3 dX10_odds_70 rfl ?_
        refine go_iload (pc := 72) C 5 dX10_odds_72 rfl ?_
        refine go_bind (fun q1 hq1 => ?_)
        refine go_callS (rest := [.long v5]) (st' := [.long q1, .long v5]) (c' := 0) (s' := 0) (pc := 74) C O miX10_302 w_978 [.int v4, .int v7] rfl (mX10_choices hq1) dX10_odds_74 ⟨by decide, by decide, by decide, by decide⟩ rfl (Nat.le_of_ble_eq_true rfl) rfl ⟨rfl, rfl⟩ ?_
        refine go_iload_n (pc := 77) C 1 dX10_odds_77 rfl ?_
        refine go_iload (pc := 78) C 5 dX10_odds_78 rfl ?_
        refine go_bind (fun q2 hq2 => ?_)
        refine go_callS (rest := [.long q1, .long v5]) (st' := [.long q2, .long q1, .long v5]) (c' := 0) (s' := 0) (pc := 80) C O miX10_306 w_981 [.int v2, .int v7] rfl (mX10_power hq2) dX10_odds_80 ⟨by decide, by decide, by decide, by decide⟩ rfl (Nat.le_of_ble_eq_true rfl) rfl ⟨rfl, rfl⟩ ?_
        refine go_lmul (pc := 83) C dX10_odds_83 ?_
        refine go_bipush (pc := 84) C dX10_odds_84 kb_10 ?_
        refine go_iload_n (pc := 86) C 1 dX10_odds_86 rfl ?_
        refine go_isub (pc := 87) C dX10_odds_87 ?_
        refine go_iload (pc := 88) C 3 dX10_odds_88 rfl ?_
        refine go_iload (pc := 90) C 5 dX10_odds_90 rfl ?_
        refine go_isub (pc := 92) C dX10_odds_92 ?_
        refine go_bind (fun q3 hq3 => ?_)
        refine go_callS (rest := [.long (q1 * q2), .long v5]) (st' := [.long q3, .long (q1 * q2), .long v5]) (c' := 0) (s' := 0) (pc := 93) C O miX10_306 w_981 [.int (10 - v2), .int (v4 - v7)] rfl (mX10_power hq3) dX10_odds_93 ⟨by decide, by decide, by decide, by decide⟩ rfl (Nat.le_of_ble_eq_true rfl) rfl ⟨rfl, rfl⟩ ?_
        refine go_lmul (pc := 96) C dX10_odds_96 ?_
        refine go_ladd (pc := 97) C dX10_odds_97 ?_
        refine go_lstoreL (pc := 98) C dX10_odds_98 (by decide) (fun x4 => [(5, .long x4), (0, .ref v0), (2, .int v2), (3, .int v3), (4, .int v4), (7, .int v7)]) (fun _ => rfl) (fun x4 => ?_)
        refine go_iincL (pc := 100) C 5 dX10_odds_100 rfl ki_1 (by decide) (fun x5 => [(7, .int x5), (5, .long x4), (0, .ref v0), (2, .int v2), (3, .int v3), (4, .int v4)]) (fun _ => rfl) (fun x5 => ?_)
        refine go_goto (pc := 103) C 55 dX10_odds_103 (by decide) ?_
        refine go_sub (ls' := [(0, .ref v0), (2, .int v2), (3, .int v3), (4, .int v4), (5, .long x4), (7, .int x5)]) [2, 3, 4, 5, 1, 0] rfl ?_
        exact ih h v0 v2 v3 v4 x4 x5
set_option maxHeartbeats 4000000 in
theorem gX10_odds_J106 {Y : YT} {X : XT} (C : CT Y X RX10 cX10_odds 8) (O : RO X 5 0 0) {r : Int32 × AH} (E : RX Y X (some .int) (some (.int r.1)) r.2 0 0) : ∀ (h : AH) (v0 : Nat) (v4 : Int32) (v5 : Int64), GO Y X 8 r h 0 0 106 [(0, .ref v0), (4, .int v4), (5, .long v5)] [] (fX10_odds_J106 h v0 v4 v5) := by
  intro h v0 v4 v5
  unfold fX10_odds_J106
  refine go_aload_n (pc := 106) C 0 dX10_odds_106 rfl ?_
  refine go_lload (pc := 107) C 2 dX10_odds_107 rfl ?_
  refine go_bipush (pc := 109) C dX10_odds_109 kb_10 ?_
  refine go_iload (pc := 111) C 1 dX10_odds_111 rfl ?_
  refine go_bind (fun q6 hq6 => ?_)
  refine go_callS (rest := [.long v5, .ref v0]) (st' := [.long q6, .long v5, .ref v0]) (c' := 0) (s' := 0) (pc := 113) C O miX10_306 w_981 [.int 10, .int v4] rfl (mX10_power hq6) dX10_odds_113 ⟨by decide, by decide, by decide, by decide⟩ rfl (Nat.le_of_ble_eq_true rfl) rfl ⟨rfl, rfl⟩ ?_
  refine go_bind (fun q7 hq7 => ?_)
  refine go_callV (rest := []) (st' := []) (c' := 0) (s' := 0) (pc := 116) C O miX10_309 mvX10_tellFraction [.long v5, .long q6] rfl (mX10_tellFraction hq7).1 (mX10_tellFraction hq7).2 dX10_odds_116 ⟨by decide, by decide, by decide, by decide⟩ rfl (Nat.le_of_ble_eq_true rfl) rfl ⟨rfl, rfl⟩ ?_
  refine go_iconst (pc := 119) C dX10_odds_119 ki_0 ?_
  exact go_iret (w := wIh) (pc := 120) C E ((0, q7)) 0 dX10_odds_120 rfl
set_option maxHeartbeats 4000000 in
theorem mX10_odds {h : AH} {a0 : Nat} {a1 : Int32} {a2 : Int32} {a3 : Int32} {r : Int32 × AH} (hr : fX10_odds h a0 a1 a2 a3 = some r) : hasC h 10 a0 = true ∧ MC yX10_odds cX10_odds 8 (some .int) 5 0 0 [.ref a0, .int a1, .int a2, .int a3] h (some (.int r.1)) r.2 := by
  unfold fX10_odds at hr
  obtain ⟨hc, hr⟩ := if_some hr
  refine ⟨hc, mc_of (l0 := [(0, .ref a0), (1, .int a1), (2, .int a2), (3, .int a3)]) rfl pn_X10 (Nat.le_of_ble_eq_true rfl) (fun Y X C E O hnm => go_run hr ?_)⟩
  have C : CT Y X RX10 cX10_odds 8 := C
  refine go_aload_n (pc := 0) C 0 dX10_odds_0 rfl ?_
  refine go_gR (pc := 1) C fdX10_16 dX10_odds_1 (fun x8 => ?_)
  refine go_iload_n (pc := 4) C 1 dX10_odds_4 rfl ?_
  refine go_bind (fun q9 hq9 => ?_)
  refine go_callV (rest := []) (st' := [.int (b2i q9)]) (c' := 0) (s' := 0) (pc := 5) C O miX10_138 mvX9_hasSpace [.int a1] rfl (mX9_hasSpace hq9).1 (mX9_hasSpace hq9).2 dX10_odds_5 ⟨by decide, by decide, by decide, by decide⟩ rfl (Nat.le_of_ble_eq_true rfl) rfl ⟨rfl, rfl⟩ ?_
  refine go_ifZ_eq (pc := 8) C 31 dX10_odds_8 (by decide) (fun _ => ?_) (fun _ => ?_)
  · refine go_iload_n (pc := 11) C 2 dX10_odds_11 rfl ?_
    refine go_if_lt (pc := 12) C 31 dX10_odds_12 (by decide) (fun _ => ?_) (fun _ => ?_)
    · refine go_iconst (pc := 31) C dX10_odds_31 ki_m1 ?_
      exact go_iret (w := wIh) (pc := 32) C E (((-1), h)) ((-1)) dX10_odds_32 rfl
    · refine go_iload_n (pc := 15) C 2 dX10_odds_15 rfl ?_
      refine go_bipush (pc := 16) C dX10_odds_16 kb_10 ?_
      refine go_icmp_gt (pc := 18) C 31 dX10_odds_18 (by decide) (fun _ => ?_) (fun _ => ?_)
      · refine go_iconst (pc := 31) C dX10_odds_31 ki_m1 ?_
        exact go_iret (w := wIh) (pc := 32) C E (((-1), h)) ((-1)) dX10_odds_32 rfl
      · refine go_iload_n (pc := 21) C 3 dX10_odds_21 rfl ?_
        refine go_if_lt (pc := 22) C 31 dX10_odds_22 (by decide) (fun _ => ?_) (fun _ => ?_)
        · refine go_iconst (pc := 31) C dX10_odds_31 ki_m1 ?_
          exact go_iret (w := wIh) (pc := 32) C E (((-1), h)) ((-1)) dX10_odds_32 rfl
        · refine go_iload_n (pc := 25) C 3 dX10_odds_25 rfl ?_
          refine go_bipush (pc := 26) C dX10_odds_26 kb_8 ?_
          refine go_icmp_le (pc := 28) C 33 dX10_odds_28 (by decide) (fun _ => ?_) (fun _ => ?_)
          · refine go_bipush (pc := 33) C dX10_odds_33 kb_8 ?_
            refine go_aload_n (pc := 35) C 0 dX10_odds_35 rfl ?_
            refine go_gR (pc := 36) C fdX10_16 dX10_odds_36 (fun x10 => ?_)
            refine go_iload_n (pc := 39) C 1 dX10_odds_39 rfl ?_
            refine go_bind (fun q11 hq11 => ?_)
            refine go_callV (rest := [.int 8]) (st' := [.int q11, .int 8]) (c' := 0) (s' := 0) (pc := 40) C O miX10_299 mvX9_ownPages [.int a1] rfl (mX9_ownPages hq11).1 (mX9_ownPages hq11).2 dX10_odds_40 ⟨by decide, by decide, by decide, by decide⟩ rfl (Nat.le_of_ble_eq_true rfl) rfl ⟨rfl, rfl⟩ ?_
            refine go_bind (fun q12 hq12 => ?_)
            refine go_callS (rest := [.int 8]) (st' := [.int q12, .int 8]) (c' := 0) (s' := 0) (pc := 43) C O miX10_291 w_397 [.int q11] rfl (mJ6_bitCount_0f7a4 hq12) dX10_odds_43 ⟨by decide, by decide, by decide, by decide⟩ rfl (Nat.le_of_ble_eq_true rfl) rfl ⟨rfl, rfl⟩ ?_
            refine go_isub (pc := 46) C dX10_odds_46 ?_
            refine go_istoreL (pc := 47) C dX10_odds_47 (by decide) (fun x13 => [(4, .int x13), (0, .ref a0), (1, .int a1), (2, .int a2), (3, .int a3)]) (fun _ => rfl) (fun x13 => ?_)
            refine go_lconst (v := 0) (pc := 49) C dX10_odds_49 (by decide) ?_
            refine go_lstore (ls' := [(5, .long 0), (4, .int x13), (0, .ref a0), (1, .int a1), (2, .int a2), (3, .int a3)]) (pc := 50) C dX10_odds_50 (by decide) rfl ?_
            refine go_iconst (pc := 52) C dX10_odds_52 ki_0 ?_
            refine go_istore (ls' := [(7, .int 0), (5, .long 0), (4, .int x13), (0, .ref a0), (1, .int a1), (2, .int a2), (3, .int a3)]) (pc := 53) C dX10_odds_53 (by decide) rfl ?_
            refine go_sub (ls' := [(0, .ref a0), (2, .int a2), (3, .int a3), (4, .int x13), (5, .long 0), (7, .int 0)]) [3, 5, 6, 2, 1, 0] rfl ?_
            refine gX10_odds_L55 C O E (fun h17 x14 x15 x16 => ?_) FU h a0 a2 a3 x13 0 0
            · refine go_sub (ls' := [(0, .ref x14), (4, .int x15), (5, .long x16)]) [0, 1, 2] rfl ?_
              refine gX10_odds_J106 C O E h17 x14 x15 x16
          · refine go_iconst (pc := 31) C dX10_odds_31 ki_m1 ?_
            exact go_iret (w := wIh) (pc := 32) C E (((-1), h)) ((-1)) dX10_odds_32 rfl
  · refine go_iconst (pc := 31) C dX10_odds_31 ki_m1 ?_
    exact go_iret (w := wIh) (pc := 32) C E (((-1), h)) ((-1)) dX10_odds_32 rfl
theorem dX10_heard_0 : decode cX10_heard 0 = .ok (.aload_n 0, 1) := by decide +kernel
theorem dX10_heard_1 : decode cX10_heard 1 = .ok (.getfield 57, 3) := by decide +kernel
theorem dX10_heard_4 : decode cX10_heard 4 = .ok (.iload_n 1, 1) := by decide +kernel
theorem dX10_heard_5 : decode cX10_heard 5 = .ok (.iload_n 2, 1) := by decide +kernel
theorem dX10_heard_6 : decode cX10_heard 6 = .ok (.invokevirtual 313, 3) := by decide +kernel
theorem dX10_heard_9 : decode cX10_heard 9 = .ok (.ireturn, 1) := by decide +kernel
def fX10_heard (h : AH) (a0 : Nat) (a1 : Int32) (a2 : Int32) : Option (Int32 × AH) :=
  if hasC h 10 a0 = true then (
    (gR h 10 a0 9).bind fun x1 =>
    (fX1_hear h x1 a1 a2).bind fun q2 =>
    some ((q2.1, q2.2))
  ) else none
set_option maxHeartbeats 4000000 in
theorem mX10_heard {h : AH} {a0 : Nat} {a1 : Int32} {a2 : Int32} {r : Int32 × AH} (hr : fX10_heard h a0 a1 a2 = some r) : hasC h 10 a0 = true ∧ MC yX10_heard cX10_heard 3 (some .int) 3 0 0 [.ref a0, .int a1, .int a2] h (some (.int r.1)) r.2 := by
  unfold fX10_heard at hr
  obtain ⟨hc, hr⟩ := if_some hr
  refine ⟨hc, mc_of (l0 := [(0, .ref a0), (1, .int a1), (2, .int a2)]) rfl pn_X10 (Nat.le_of_ble_eq_true rfl) (fun Y X C E O hnm => go_run hr ?_)⟩
  have C : CT Y X RX10 cX10_heard 3 := C
  refine go_aload_n (pc := 0) C 0 dX10_heard_0 rfl ?_
  refine go_gR (pc := 1) C fdX10_57 dX10_heard_1 (fun x1 => ?_)
  refine go_iload_n (pc := 4) C 1 dX10_heard_4 rfl ?_
  refine go_iload_n (pc := 5) C 2 dX10_heard_5 rfl ?_
  refine go_bind (fun q2 hq2 => ?_)
  refine go_callV (rest := []) (st' := [.int q2.1]) (c' := 0) (s' := 0) (pc := 6) C O miX10_313 mvX1_hear [.int a1, .int a2] rfl (mX1_hear hq2).1 (mX1_hear hq2).2 dX10_heard_6 ⟨by decide, by decide, by decide, by decide⟩ rfl (Nat.le_of_ble_eq_true rfl) rfl ⟨rfl, rfl⟩ ?_
  exact go_iret (w := wIh) (pc := 9) C E ((q2.1, q2.2)) q2.1 dX10_heard_9 rfl
theorem dX10_forget_0 : decode cX10_forget 0 = .ok (.aload_n 0, 1) := by decide +kernel
theorem dX10_forget_1 : decode cX10_forget 1 = .ok (.getfield 57, 3) := by decide +kernel
theorem dX10_forget_4 : decode cX10_forget 4 = .ok (.invokevirtual 316, 3) := by decide +kernel
theorem dX10_forget_7 : decode cX10_forget 7 = .ok (.ireturn, 1) := by decide +kernel
def fX10_forget (h : AH) (a0 : Nat) : Option (Int32 × AH) :=
  if hasC h 10 a0 = true then (
    (gR h 10 a0 9).bind fun x1 =>
    (fX1_empty h x1).bind fun q2 =>
    some ((q2.1, q2.2))
  ) else none
set_option maxHeartbeats 4000000 in
theorem mX10_forget {h : AH} {a0 : Nat} {r : Int32 × AH} (hr : fX10_forget h a0 = some r) : hasC h 10 a0 = true ∧ MC yX10_forget cX10_forget 1 (some .int) 2 0 0 [.ref a0] h (some (.int r.1)) r.2 := by
  unfold fX10_forget at hr
  obtain ⟨hc, hr⟩ := if_some hr
  refine ⟨hc, mc_of (l0 := [(0, .ref a0)]) rfl pn_X10 (Nat.le_of_ble_eq_true rfl) (fun Y X C E O hnm => go_run hr ?_)⟩
  have C : CT Y X RX10 cX10_forget 1 := C
  refine go_aload_n (pc := 0) C 0 dX10_forget_0 rfl ?_
  refine go_gR (pc := 1) C fdX10_57 dX10_forget_1 (fun x1 => ?_)
  refine go_bind (fun q2 hq2 => ?_)
  refine go_callV (rest := []) (st' := [.int q2.1]) (c' := 0) (s' := 0) (pc := 4) C O miX10_316 mvX1_empty [] rfl (mX1_empty hq2).1 (mX1_empty hq2).2 dX10_forget_4 ⟨by decide, by decide, by decide, by decide⟩ rfl (Nat.le_of_ble_eq_true rfl) rfl ⟨rfl, rfl⟩ ?_
  exact go_iret (w := wIh) (pc := 7) C E ((q2.1, q2.2)) q2.1 dX10_forget_7 rfl
theorem dX10_fits_0 : decode cX10_fits 0 = .ok (.aload_n 0, 1) := by decide +kernel
theorem dX10_fits_1 : decode cX10_fits 1 = .ok (.getfield 57, 3) := by decide +kernel
theorem dX10_fits_4 : decode cX10_fits 4 = .ok (.aload_n 0, 1) := by decide +kernel
theorem dX10_fits_5 : decode cX10_fits 5 = .ok (.getfield 16, 3) := by decide +kernel
theorem dX10_fits_8 : decode cX10_fits 8 = .ok (.invokevirtual 319, 3) := by decide +kernel
theorem dX10_fits_11 : decode cX10_fits 11 = .ok (.istore_n 1, 1) := by decide +kernel
theorem dX10_fits_12 : decode cX10_fits 12 = .ok (.aload_n 0, 1) := by decide +kernel
theorem dX10_fits_13 : decode cX10_fits 13 = .ok (.getfield 50, 3) := by decide +kernel
theorem dX10_fits_16 : decode cX10_fits 16 = .ok (.invokevirtual 209, 3) := by decide +kernel
theorem dX10_fits_19 : decode cX10_fits 19 = .ok (.iload_n 1, 1) := by decide +kernel
theorem dX10_fits_20 : decode cX10_fits 20 = .ok (.ifCond .le 35, 3) := by decide +kernel
theorem dX10_fits_23 : decode cX10_fits 23 = .ok (.aload_n 0, 1) := by decide +kernel
theorem dX10_fits_24 : decode cX10_fits 24 = .ok (.getfield 50, 3) := by decide +kernel
theorem dX10_fits_27 : decode cX10_fits 27 = .ok (.aload_n 0, 1) := by decide +kernel
theorem dX10_fits_28 : decode cX10_fits 28 = .ok (.getfield 57, 3) := by decide +kernel
theorem dX10_fits_31 : decode cX10_fits 31 = .ok (.iconst 0, 1) := by decide +kernel
theorem dX10_fits_32 : decode cX10_fits 32 = .ok (.invokevirtual 323, 3) := by decide +kernel
theorem dX10_fits_35 : decode cX10_fits 35 = .ok (.i2l, 1) := by decide +kernel
theorem dX10_fits_36 : decode cX10_fits 36 = .ok (.invokevirtual 212, 3) := by decide +kernel
theorem dX10_fits_39 : decode cX10_fits 39 = .ok (.aload_n 0, 1) := by decide +kernel
theorem dX10_fits_40 : decode cX10_fits 40 = .ok (.getfield 50, 3) := by decide +kernel
theorem dX10_fits_43 : decode cX10_fits 43 = .ok (.aload_n 0, 1) := by decide +kernel
theorem dX10_fits_44 : decode cX10_fits 44 = .ok (.getfield 57, 3) := by decide +kernel
theorem dX10_fits_47 : decode cX10_fits 47 = .ok (.iconst 0, 1) := by decide +kernel
theorem dX10_fits_48 : decode cX10_fits 48 = .ok (.invokevirtual 326, 3) := by decide +kernel
theorem dX10_fits_51 : decode cX10_fits 51 = .ok (.i2l, 1) := by decide +kernel
theorem dX10_fits_52 : decode cX10_fits 52 = .ok (.invokevirtual 212, 3) := by decide +kernel
theorem dX10_fits_55 : decode cX10_fits 55 = .ok (.iload_n 1, 1) := by decide +kernel
theorem dX10_fits_56 : decode cX10_fits 56 = .ok (.ireturn, 1) := by decide +kernel
def fX10_fits (h : AH) (a0 : Nat) : Option (Int32 × AH) :=
  if hasC h 10 a0 = true then (
    (gR h 10 a0 9).bind fun x1 =>
    (gR h 10 a0 2).bind fun x2 =>
    (fX1_gather h x1 x2).bind fun q3 =>
    (gR q3.2 10 a0 8).bind fun x4 =>
    (fX5_clear q3.2 x4).bind fun q5 =>
    if q3.1 ≤ 0 then (
      some ((q3.1, q5))
    ) else (
      (gR q5 10 a0 8).bind fun x6 =>
      (gR q5 10 a0 9).bind fun x7 =>
      (fX1_gatheredObject q5 x7 0).bind fun q8 =>
      (fX5_add q5 x6 (Int32.toInt64 q8)).bind fun q9 =>
      (gR q9 10 a0 8).bind fun x10 =>
      (gR q9 10 a0 9).bind fun x11 =>
      (fX1_gatheredPage q9 x11 0).bind fun q12 =>
      (fX5_add q9 x10 (Int32.toInt64 q12)).bind fun q13 =>
      some ((q3.1, q13))
    )
  ) else none
set_option maxHeartbeats 4000000 in
theorem mX10_fits {h : AH} {a0 : Nat} {r : Int32 × AH} (hr : fX10_fits h a0 = some r) : hasC h 10 a0 = true ∧ MC yX10_fits cX10_fits 2 (some .int) 7 0 0 [.ref a0] h (some (.int r.1)) r.2 := by
  unfold fX10_fits at hr
  obtain ⟨hc, hr⟩ := if_some hr
  refine ⟨hc, mc_of (l0 := [(0, .ref a0)]) rfl pn_X10 (Nat.le_of_ble_eq_true rfl) (fun Y X C E O hnm => go_run hr ?_)⟩
  have C : CT Y X RX10 cX10_fits 2 := C
  refine go_aload_n (pc := 0) C 0 dX10_fits_0 rfl ?_
  refine go_gR (pc := 1) C fdX10_57 dX10_fits_1 (fun x1 => ?_)
  refine go_aload_n (pc := 4) C 0 dX10_fits_4 rfl ?_
  refine go_gR (pc := 5) C fdX10_16 dX10_fits_5 (fun x2 => ?_)
  refine go_bind (fun q3 hq3 => ?_)
  refine go_callV (rest := []) (st' := [.int q3.1]) (c' := 0) (s' := 0) (pc := 8) C O miX10_319 mvX1_gather [.ref x2] rfl (mX1_gather hq3).1 (mX1_gather hq3).2 dX10_fits_8 ⟨by decide, by decide, by decide, by decide⟩ rfl (Nat.le_of_ble_eq_true rfl) rfl ⟨rfl, rfl⟩ ?_
  refine go_istore_n (ls' := [(1, .int q3.1), (0, .ref a0)]) (pc := 11) C dX10_fits_11 (by decide) rfl ?_
  refine go_aload_n (pc := 12) C 1 dX10_fits_12 rfl ?_
  refine go_gR (pc := 13) C fdX10_50 dX10_fits_13 (fun x4 => ?_)
  refine go_bind (fun q5 hq5 => ?_)
  refine go_callV (rest := []) (st' := []) (c' := 0) (s' := 0) (pc := 16) C O miX10_209 mvX5_clear [] rfl (mX5_clear hq5).1 (mX5_clear hq5).2 dX10_fits_16 ⟨by decide, by decide, by decide, by decide⟩ rfl (Nat.le_of_ble_eq_true rfl) rfl ⟨rfl, rfl⟩ ?_
  refine go_iload_n (pc := 19) C 0 dX10_fits_19 rfl ?_
  refine go_if_le (pc := 20) C 55 dX10_fits_20 (by decide) (fun _ => ?_) (fun _ => ?_)
  · refine go_iload_n (pc := 55) C 0 dX10_fits_55 rfl ?_
    exact go_iret (w := wIh) (pc := 56) C E ((q3.1, q5)) q3.1 dX10_fits_56 rfl
  · refine go_aload_n (pc := 23) C 1 dX10_fits_23 rfl ?_
    refine go_gR (pc := 24) C fdX10_50 dX10_fits_24 (fun x6 => ?_)
    refine go_aload_n (pc := 27) C 1 dX10_fits_27 rfl ?_
    refine go_gR (pc := 28) C fdX10_57 dX10_fits_28 (fun x7 => ?_)
    refine go_iconst (pc := 31) C dX10_fits_31 ki_0 ?_
    refine go_bind (fun q8 hq8 => ?_)
    refine go_callV (rest := [.ref x6]) (st' := [.int q8, .ref x6]) (c' := 0) (s' := 0) (pc := 32) C O miX10_323 mvX1_gatheredObject [.int 0] rfl (mX1_gatheredObject hq8).1 (mX1_gatheredObject hq8).2 dX10_fits_32 ⟨by decide, by decide, by decide, by decide⟩ rfl (Nat.le_of_ble_eq_true rfl) rfl ⟨rfl, rfl⟩ ?_
    refine go_i2l (pc := 35) C dX10_fits_35 ?_
    refine go_bind (fun q9 hq9 => ?_)
    refine go_callV (rest := []) (st' := []) (c' := 0) (s' := 0) (pc := 36) C O miX10_212 mvX5_add [.long (Int32.toInt64 q8)] rfl (mX5_add hq9).1 (mX5_add hq9).2 dX10_fits_36 ⟨by decide, by decide, by decide, by decide⟩ rfl (Nat.le_of_ble_eq_true rfl) rfl ⟨rfl, rfl⟩ ?_
    refine go_aload_n (pc := 39) C 1 dX10_fits_39 rfl ?_
    refine go_gR (pc := 40) C fdX10_50 dX10_fits_40 (fun x10 => ?_)
    refine go_aload_n (pc := 43) C 1 dX10_fits_43 rfl ?_
    refine go_gR (pc := 44) C fdX10_57 dX10_fits_44 (fun x11 => ?_)
    refine go_iconst (pc := 47) C dX10_fits_47 ki_0 ?_
    refine go_bind (fun q12 hq12 => ?_)
    refine go_callV (rest := [.ref x10]) (st' := [.int q12, .ref x10]) (c' := 0) (s' := 0) (pc := 48) C O miX10_326 mvX1_gatheredPage [.int 0] rfl (mX1_gatheredPage hq12).1 (mX1_gatheredPage hq12).2 dX10_fits_48 ⟨by decide, by decide, by decide, by decide⟩ rfl (Nat.le_of_ble_eq_true rfl) rfl ⟨rfl, rfl⟩ ?_
    refine go_i2l (pc := 51) C dX10_fits_51 ?_
    refine go_bind (fun q13 hq13 => ?_)
    refine go_callV (rest := []) (st' := []) (c' := 0) (s' := 0) (pc := 52) C O miX10_212 mvX5_add [.long (Int32.toInt64 q12)] rfl (mX5_add hq13).1 (mX5_add hq13).2 dX10_fits_52 ⟨by decide, by decide, by decide, by decide⟩ rfl (Nat.le_of_ble_eq_true rfl) rfl ⟨rfl, rfl⟩ ?_
    refine go_iload_n (pc := 55) C 0 dX10_fits_55 rfl ?_
    exact go_iret (w := wIh) (pc := 56) C E ((q3.1, q13)) q3.1 dX10_fits_56 rfl
theorem dX10_asks_0 : decode cX10_asks 0 = .ok (.aload_n 0, 1) := by decide +kernel
theorem dX10_asks_1 : decode cX10_asks 1 = .ok (.getfield 57, 3) := by decide +kernel
theorem dX10_asks_4 : decode cX10_asks 4 = .ok (.aload_n 0, 1) := by decide +kernel
theorem dX10_asks_5 : decode cX10_asks 5 = .ok (.getfield 16, 3) := by decide +kernel
theorem dX10_asks_8 : decode cX10_asks 8 = .ok (.invokevirtual 319, 3) := by decide +kernel
theorem dX10_asks_11 : decode cX10_asks 11 = .ok (.istore_n 1, 1) := by decide +kernel
theorem dX10_asks_12 : decode cX10_asks 12 = .ok (.iload_n 1, 1) := by decide +kernel
theorem dX10_asks_13 : decode cX10_asks 13 = .ok (.ifCond .ne 6, 3) := by decide +kernel
theorem dX10_asks_16 : decode cX10_asks 16 = .ok (.bipush (-2), 2) := by decide +kernel
theorem dX10_asks_18 : decode cX10_asks 18 = .ok (.ireturn, 1) := by decide +kernel
theorem dX10_asks_19 : decode cX10_asks 19 = .ok (.iconst 0, 1) := by decide +kernel
theorem dX10_asks_20 : decode cX10_asks 20 = .ok (.istore_n 2, 1) := by decide +kernel
theorem dX10_asks_21 : decode cX10_asks 21 = .ok (.iload_n 1, 1) := by decide +kernel
theorem dX10_asks_22 : decode cX10_asks 22 = .ok (.iconst 1, 1) := by decide +kernel
theorem dX10_asks_23 : decode cX10_asks 23 = .ok (.iadd, 1) := by decide +kernel
theorem dX10_asks_24 : decode cX10_asks 24 = .ok (.istore_n 3, 1) := by decide +kernel
theorem dX10_asks_25 : decode cX10_asks 25 = .ok (.iconst 0, 1) := by decide +kernel
theorem dX10_asks_26 : decode cX10_asks 26 = .ok (.istore 4, 2) := by decide +kernel
theorem dX10_asks_28 : decode cX10_asks 28 = .ok (.iload 4, 2) := by decide +kernel
theorem dX10_asks_30 : decode cX10_asks 30 = .ok (.iconst 4, 1) := by decide +kernel
theorem dX10_asks_31 : decode cX10_asks 31 = .ok (.if_icmp .ge 74, 3) := by decide +kernel
theorem dX10_asks_34 : decode cX10_asks 34 = .ok (.iconst 0, 1) := by decide +kernel
theorem dX10_asks_35 : decode cX10_asks 35 = .ok (.istore 5, 2) := by decide +kernel
theorem dX10_asks_37 : decode cX10_asks 37 = .ok (.iload 5, 2) := by decide +kernel
theorem dX10_asks_39 : decode cX10_asks 39 = .ok (.iload 4, 2) := by decide +kernel
theorem dX10_asks_41 : decode cX10_asks 41 = .ok (.invokestatic 329, 3) := by decide +kernel
theorem dX10_asks_44 : decode cX10_asks 44 = .ok (.if_icmp .ge 55, 3) := by decide +kernel
theorem dX10_asks_47 : decode cX10_asks 47 = .ok (.aload_n 0, 1) := by decide +kernel
theorem dX10_asks_48 : decode cX10_asks 48 = .ok (.getfield 57, 3) := by decide +kernel
theorem dX10_asks_51 : decode cX10_asks 51 = .ok (.aload_n 0, 1) := by decide +kernel
theorem dX10_asks_52 : decode cX10_asks 52 = .ok (.getfield 16, 3) := by decide +kernel
theorem dX10_asks_55 : decode cX10_asks 55 = .ok (.iload 4, 2) := by decide +kernel
theorem dX10_asks_57 : decode cX10_asks 57 = .ok (.iload 5, 2) := by decide +kernel
theorem dX10_asks_59 : decode cX10_asks 59 = .ok (.invokevirtual 332, 3) := by decide +kernel
theorem dX10_asks_62 : decode cX10_asks 62 = .ok (.istore 6, 2) := by decide +kernel
theorem dX10_asks_64 : decode cX10_asks 64 = .ok (.iload 6, 2) := by decide +kernel
theorem dX10_asks_66 : decode cX10_asks 66 = .ok (.iload_n 1, 1) := by decide +kernel
theorem dX10_asks_67 : decode cX10_asks 67 = .ok (.iload 6, 2) := by decide +kernel
theorem dX10_asks_69 : decode cX10_asks 69 = .ok (.isub, 1) := by decide +kernel
theorem dX10_asks_70 : decode cX10_asks 70 = .ok (.invokestatic 335, 3) := by decide +kernel
theorem dX10_asks_73 : decode cX10_asks 73 = .ok (.istore 7, 2) := by decide +kernel
theorem dX10_asks_75 : decode cX10_asks 75 = .ok (.iload 7, 2) := by decide +kernel
theorem dX10_asks_77 : decode cX10_asks 77 = .ok (.iload_n 3, 1) := by decide +kernel
theorem dX10_asks_78 : decode cX10_asks 78 = .ok (.if_icmp .ge 15, 3) := by decide +kernel
theorem dX10_asks_81 : decode cX10_asks 81 = .ok (.iload 7, 2) := by decide +kernel
theorem dX10_asks_83 : decode cX10_asks 83 = .ok (.istore_n 3, 1) := by decide +kernel
theorem dX10_asks_84 : decode cX10_asks 84 = .ok (.bipush 100, 2) := by decide +kernel
theorem dX10_asks_86 : decode cX10_asks 86 = .ok (.iload 4, 2) := by decide +kernel
theorem dX10_asks_88 : decode cX10_asks 88 = .ok (.imul, 1) := by decide +kernel
theorem dX10_asks_89 : decode cX10_asks 89 = .ok (.iload 5, 2) := by decide +kernel
theorem dX10_asks_91 : decode cX10_asks 91 = .ok (.iadd, 1) := by decide +kernel
theorem dX10_asks_92 : decode cX10_asks 92 = .ok (.istore_n 2, 1) := by decide +kernel
theorem dX10_asks_93 : decode cX10_asks 93 = .ok (.iinc 5 1, 3) := by decide +kernel
theorem dX10_asks_96 : decode cX10_asks 96 = .ok (.goto (-59), 3) := by decide +kernel
theorem dX10_asks_99 : decode cX10_asks 99 = .ok (.iinc 4 1, 3) := by decide +kernel
theorem dX10_asks_102 : decode cX10_asks 102 = .ok (.goto (-74), 3) := by decide +kernel
theorem dX10_asks_105 : decode cX10_asks 105 = .ok (.aload_n 0, 1) := by decide +kernel
theorem dX10_asks_106 : decode cX10_asks 106 = .ok (.getfield 50, 3) := by decide +kernel
theorem dX10_asks_109 : decode cX10_asks 109 = .ok (.invokevirtual 209, 3) := by decide +kernel
theorem dX10_asks_112 : decode cX10_asks 112 = .ok (.aload_n 0, 1) := by decide +kernel
theorem dX10_asks_113 : decode cX10_asks 113 = .ok (.getfield 50, 3) := by decide +kernel
theorem dX10_asks_116 : decode cX10_asks 116 = .ok (.iload_n 3, 1) := by decide +kernel
theorem dX10_asks_117 : decode cX10_asks 117 = .ok (.i2l, 1) := by decide +kernel
theorem dX10_asks_118 : decode cX10_asks 118 = .ok (.invokevirtual 212, 3) := by decide +kernel
theorem dX10_asks_121 : decode cX10_asks 121 = .ok (.iload_n 2, 1) := by decide +kernel
theorem dX10_asks_122 : decode cX10_asks 122 = .ok (.ireturn, 1) := by decide +kernel
def fX10_asks_L37 (k99 : AH → Nat → Int32 → Int32 → Int32 → Int32 → Option (Int32 × AH)) : Nat → AH → Nat → Int32 → Int32 → Int32 → Int32 → Int32 → Option (Int32 × AH)
  | 0, _, _, _, _, _, _, _ => none
  | n + 1, h, v0, v1, v2, v3, v4, v5 =>
    (fX1_numbersOf h v4).bind fun q1 =>
    if q1 ≤ v5 then (
      k99 h v0 v1 v2 v3 v4
    ) else (
      (gR h 10 v0 9).bind fun x2 =>
      (gR h 10 v0 2).bind fun x3 =>
      (fX1_agreeing h x2 x3 v4 v5).bind fun q4 =>
      letF (jmax q4 (v1 - q4) : Int32) fun x5 =>
      if v3 ≤ x5 then (
        letF (v5 + 1 : Int32) fun x6 =>
        fX10_asks_L37 k99 n h v0 v1 v2 v3 v4 x6
      ) else (
        letF ((100 * v4) + v5 : Int32) fun x7 =>
        letF (v5 + 1 : Int32) fun x8 =>
        fX10_asks_L37 k99 n h v0 v1 x7 x5 v4 x8
      )
    )
def fX10_asks_L28 (k105 : AH → Nat → Int32 → Int32 → Option (Int32 × AH)) : Nat → AH → Nat → Int32 → Int32 → Int32 → Int32 → Option (Int32 × AH)
  | 0, _, _, _, _, _, _ => none
  | n + 1, h, v0, v1, v2, v3, v4 =>
    if 4 ≤ v4 then (
      k105 h v0 v2 v3
    ) else (
      fX10_asks_L37
        (fun h14 x9 x10 x11 x12 x13 =>
          letF (x13 + 1 : Int32) fun x15 =>
          fX10_asks_L28 k105 n h14 x9 x10 x11 x12 x15)
        FU h v0 v1 v2 v3 v4 0
    )
def fX10_asks (h : AH) (a0 : Nat) : Option (Int32 × AH) :=
  if hasC h 10 a0 = true then (
    (gR h 10 a0 9).bind fun x16 =>
    (gR h 10 a0 2).bind fun x17 =>
    (fX1_gather h x16 x17).bind fun q18 =>
    if q18.1 = 0 then (
      some (((-2), q18.2))
    ) else (
      letF (q18.1 + 1 : Int32) fun x19 =>
      fX10_asks_L28
        (fun h23 x20 x21 x22 =>
          (gR h23 10 x20 8).bind fun x24 =>
          (fX5_clear h23 x24).bind fun q25 =>
          (gR q25 10 x20 8).bind fun x26 =>
          (fX5_add q25 x26 (Int32.toInt64 x22)).bind fun q27 =>
          some ((x21, q27)))
        FU q18.2 a0 q18.1 0 x19 0
    )
  ) else none
set_option maxHeartbeats 4000000 in
theorem gX10_asks_L37 {Y : YT} {X : XT} (C : CT Y X RX10 cX10_asks 8) (O : RO X 7 0 0) {r : Int32 × AH} (E : RX Y X (some .int) (some (.int r.1)) r.2 0 0) {k99 : AH → Nat → Int32 → Int32 → Int32 → Int32 → Option (Int32 × AH)} (hk99 : ∀ (h : AH) (v0 : Nat) (v1 : Int32) (v2 : Int32) (v3 : Int32) (v4 : Int32), GO Y X 8 r h 0 0 99 [(0, .ref v0), (1, .int v1), (2, .int v2), (3, .int v3), (4, .int v4)] [] (k99 h v0 v1 v2 v3 v4)) : ∀ (n : Nat) (h : AH) (v0 : Nat) (v1 : Int32) (v2 : Int32) (v3 : Int32) (v4 : Int32) (v5 : Int32), GO Y X 8 r h 0 0 37 [(0, .ref v0), (1, .int v1), (2, .int v2), (3, .int v3), (4, .int v4), (5, .int v5)] [] (fX10_asks_L37 k99 n h v0 v1 v2 v3 v4 v5) := by
  intro n
  induction n with
  | zero => intros; exact go_none _ _ _
  | succ n ih =>
    intro h v0 v1 v2 v3 v4 v5
    rw [fX10_asks_L37]
    refine go_iload (pc := 37) C 5 dX10_asks_37 rfl ?_
    refine go_iload (pc := 39) C 4 dX10_asks_39 rfl ?_
    refine go_bind (fun q1 hq1 => ?_)
    refine go_callS (rest := [.int v5]) (st' := [.int q1, .int v5]) (c' := 0) (s' := 0) (pc := 41) C O miX10_329 w_999 [.int v4] rfl (mX1_numbersOf hq1) dX10_asks_41 ⟨by decide, by decide, by decide, by decide⟩ rfl (Nat.le_of_ble_eq_true rfl) rfl ⟨rfl, rfl⟩ ?_
    refine go_icmp_ge (pc := 44) C 99 dX10_asks_44 (by decide) (fun _ => ?_) (fun _ => ?_)
    · refine go_sub (ls' := [(0, .ref v0), (1, .int v1), (2, .int v2), (3, .int v3), (4, .int v4)]) [0, 1, 2, 3, 4] rfl ?_
      exact hk99 h v0 v1 v2 v3 v4
    · refine go_aload_n (pc := 47) C 0 dX10_asks_47 rfl ?_
      refine go_gR (pc := 48) C fdX10_57 dX10_asks_48 (fun x2 => ?_)
      refine go_aload_n (pc := 51) C 0 dX10_asks_51 rfl ?_
      refine go_gR (pc := 52) C fdX10_16 dX10_asks_52 (fun x3 => ?_)
      refine go_iload (pc := 55) C 4 dX10_asks_55 rfl ?_
      refine go_iload (pc := 57) C 5 dX10_asks_57 rfl ?_
      refine go_bind (fun q4 hq4 => ?_)
      refine go_callV (rest := []) (st' := [.int q4]) (c' := 0) (s' := 0) (pc := 59) C O miX10_332 mvX1_agreeing [.ref x3, .int v4, .int v5] rfl (mX1_agreeing hq4).1 (mX1_agreeing hq4).2 dX10_asks_59 ⟨by decide, by decide, by decide, by decide⟩ rfl (Nat.le_of_ble_eq_true rfl) rfl ⟨rfl, rfl⟩ ?_
      refine go_istore (ls' := [(6, .int q4), (0, .ref v0), (1, .int v1), (2, .int v2), (3, .int v3), (4, .int v4), (5, .int v5)]) (pc := 62) C dX10_asks_62 (by decide) rfl ?_
      refine go_iload (pc := 64) C 0 dX10_asks_64 rfl ?_
      refine go_iload_n (pc := 66) C 2 dX10_asks_66 rfl ?_
      refine go_iload (pc := 67) C 0 dX10_asks_67 rfl ?_
      refine go_isub (pc := 69) C dX10_asks_69 ?_
      refine go_mmax (pc := 70) C O w_550 w_524 w_102 w_525 ⟨by decide, by decide, by decide⟩ (Nat.le_of_ble_eq_true rfl) dX10_asks_70 ?_
      refine go_istoreL (pc := 73) C dX10_asks_73 (by decide) (fun x5 => [(7, .int x5), (6, .int q4), (0, .ref v0), (1, .int v1), (2, .int v2), (3, .int v3), (4, .int v4), (5, .int v5)]) (fun _ => rfl) (fun x5 => ?_)
      refine go_iload (pc := 75) C 0 dX10_asks_75 rfl ?_
      refine go_iload_n (pc := 77) C 5 dX10_asks_77 rfl ?_
      refine go_icmp_ge (pc := 78) C 93 dX10_asks_78 (by decide) (fun _ => ?_) (fun _ => ?_)
      · refine go_iincL (pc := 93) C 7 dX10_asks_93 rfl ki_1 (by decide) (fun x6 => [(5, .int x6), (7, .int x5), (6, .int q4), (0, .ref v0), (1, .int v1), (2, .int v2), (3, .int v3), (4, .int v4)]) (fun _ => rfl) (fun x6 => ?_)
        refine go_goto (pc := 96) C 37 dX10_asks_96 (by decide) ?_
        refine go_sub (ls' := [(0, .ref v0), (1, .int v1), (2, .int v2), (3, .int v3), (4, .int v4), (5, .int x6)]) [3, 4, 5, 6, 7, 0] rfl ?_
        exact ih h v0 v1 v2 v3 v4 x6
      · refine go_iload (pc := 81) C 0 dX10_asks_81 rfl ?_
        refine go_istore_n (ls' := [(3, .int x5), (7, .int x5), (6, .int q4), (0, .ref v0), (1, .int v1), (2, .int v2), (4, .int v4), (5, .int v5)]) (pc := 83) C dX10_asks_83 (by decide) rfl ?_
        refine go_bipush (pc := 84) C dX10_asks_84 kb_100 ?_
        refine go_iload (pc := 86) C 6 dX10_asks_86 rfl ?_
        refine go_imul (pc := 88) C dX10_asks_88 ?_
        refine go_iload (pc := 89) C 7 dX10_asks_89 rfl ?_
        refine go_iadd (pc := 91) C dX10_asks_91 ?_
        refine go_istore_nL (pc := 92) C dX10_asks_92 (by decide) (fun x7 => [(2, .int x7), (3, .int x5), (7, .int x5), (6, .int q4), (0, .ref v0), (1, .int v1), (4, .int v4), (5, .int v5)]) (fun _ => rfl) (fun x7 => ?_)
        refine go_iincL (pc := 93) C 7 dX10_asks_93 rfl ki_1 (by decide) (fun x8 => [(5, .int x8), (2, .int x7), (3, .int x5), (7, .int x5), (6, .int q4), (0, .ref v0), (1, .int v1), (4, .int v4)]) (fun _ => rfl) (fun x8 => ?_)
        refine go_goto (pc := 96) C 37 dX10_asks_96 (by decide) ?_
        refine go_sub (ls' := [(0, .ref v0), (1, .int v1), (2, .int x7), (3, .int x5), (4, .int v4), (5, .int x8)]) [5, 6, 1, 2, 7, 0] rfl ?_
        exact ih h v0 v1 x7 x5 v4 x8
set_option maxHeartbeats 4000000 in
theorem gX10_asks_L28 {Y : YT} {X : XT} (C : CT Y X RX10 cX10_asks 8) (O : RO X 7 0 0) {r : Int32 × AH} (E : RX Y X (some .int) (some (.int r.1)) r.2 0 0) {k105 : AH → Nat → Int32 → Int32 → Option (Int32 × AH)} (hk105 : ∀ (h : AH) (v0 : Nat) (v2 : Int32) (v3 : Int32), GO Y X 8 r h 0 0 105 [(0, .ref v0), (2, .int v2), (3, .int v3)] [] (k105 h v0 v2 v3)) : ∀ (n : Nat) (h : AH) (v0 : Nat) (v1 : Int32) (v2 : Int32) (v3 : Int32) (v4 : Int32), GO Y X 8 r h 0 0 28 [(0, .ref v0), (1, .int v1), (2, .int v2), (3, .int v3), (4, .int v4)] [] (fX10_asks_L28 k105 n h v0 v1 v2 v3 v4) := by
  intro n
  induction n with
  | zero => intros; exact go_none _ _ _
  | succ n ih =>
    intro h v0 v1 v2 v3 v4
    rw [fX10_asks_L28]
    refine go_iload (pc := 28) C 4 dX10_asks_28 rfl ?_
    refine go_iconst (pc := 30) C dX10_asks_30 ki_4 ?_
    refine go_icmp_ge (pc := 31) C 105 dX10_asks_31 (by decide) (fun _ => ?_) (fun _ => ?_)
    · refine go_sub (ls' := [(0, .ref v0), (2, .int v2), (3, .int v3)]) [0, 2, 3] rfl ?_
      exact hk105 h v0 v2 v3
    · refine go_iconst (pc := 34) C dX10_asks_34 ki_0 ?_
      refine go_istore (ls' := [(5, .int 0), (0, .ref v0), (1, .int v1), (2, .int v2), (3, .int v3), (4, .int v4)]) (pc := 35) C dX10_asks_35 (by decide) rfl ?_
      refine go_sub (ls' := [(0, .ref v0), (1, .int v1), (2, .int v2), (3, .int v3), (4, .int v4), (5, .int 0)]) [1, 2, 3, 4, 5, 0] rfl ?_
      refine gX10_asks_L37 C O E (fun h14 x9 x10 x11 x12 x13 => ?_) FU h v0 v1 v2 v3 v4 0
      · refine go_iincL (pc := 99) C 4 dX10_asks_99 rfl ki_1 (by decide) (fun x15 => [(4, .int x15), (0, .ref x9), (1, .int x10), (2, .int x11), (3, .int x12)]) (fun _ => rfl) (fun x15 => ?_)
        refine go_goto (pc := 102) C 28 dX10_asks_102 (by decide) ?_
        refine go_sub (ls' := [(0, .ref x9), (1, .int x10), (2, .int x11), (3, .int x12), (4, .int x15)]) [1, 2, 3, 4, 0] rfl ?_
        exact ih h14 x9 x10 x11 x12 x15
set_option maxHeartbeats 4000000 in
theorem mX10_asks {h : AH} {a0 : Nat} {r : Int32 × AH} (hr : fX10_asks h a0 = some r) : hasC h 10 a0 = true ∧ MC yX10_asks cX10_asks 8 (some .int) 7 0 0 [.ref a0] h (some (.int r.1)) r.2 := by
  unfold fX10_asks at hr
  obtain ⟨hc, hr⟩ := if_some hr
  refine ⟨hc, mc_of (l0 := [(0, .ref a0)]) rfl pn_X10 (Nat.le_of_ble_eq_true rfl) (fun Y X C E O hnm => go_run hr ?_)⟩
  have C : CT Y X RX10 cX10_asks 8 := C
  refine go_aload_n (pc := 0) C 0 dX10_asks_0 rfl ?_
  refine go_gR (pc := 1) C fdX10_57 dX10_asks_1 (fun x16 => ?_)
  refine go_aload_n (pc := 4) C 0 dX10_asks_4 rfl ?_
  refine go_gR (pc := 5) C fdX10_16 dX10_asks_5 (fun x17 => ?_)
  refine go_bind (fun q18 hq18 => ?_)
  refine go_callV (rest := []) (st' := [.int q18.1]) (c' := 0) (s' := 0) (pc := 8) C O miX10_319 mvX1_gather [.ref x17] rfl (mX1_gather hq18).1 (mX1_gather hq18).2 dX10_asks_8 ⟨by decide, by decide, by decide, by decide⟩ rfl (Nat.le_of_ble_eq_true rfl) rfl ⟨rfl, rfl⟩ ?_
  refine go_istore_n (ls' := [(1, .int q18.1), (0, .ref a0)]) (pc := 11) C dX10_asks_11 (by decide) rfl ?_
  refine go_iload_n (pc := 12) C 0 dX10_asks_12 rfl ?_
  refine go_if_ne (pc := 13) C 19 dX10_asks_13 (by decide) (fun _ => ?_) (fun _ => ?_)
  · refine go_bipush (pc := 16) C dX10_asks_16 kb_m2 ?_
    exact go_iret (w := wIh) (pc := 18) C E (((-2), q18.2)) ((-2)) dX10_asks_18 rfl
  · refine go_iconst (pc := 19) C dX10_asks_19 ki_0 ?_
    refine go_istore_n (ls' := [(2, .int 0), (1, .int q18.1), (0, .ref a0)]) (pc := 20) C dX10_asks_20 (by decide) rfl ?_
    refine go_iload_n (pc := 21) C 1 dX10_asks_21 rfl ?_
    refine go_iconst (pc := 22) C dX10_asks_22 ki_1 ?_
    refine go_iadd (pc := 23) C dX10_asks_23 ?_
    refine go_istore_nL (pc := 24) C dX10_asks_24 (by decide) (fun x19 => [(3, .int x19), (2, .int 0), (1, .int q18.1), (0, .ref a0)]) (fun _ => rfl) (fun x19 => ?_)
    refine go_iconst (pc := 25) C dX10_asks_25 ki_0 ?_
    refine go_istore (ls' := [(4, .int 0), (3, .int x19), (2, .int 0), (1, .int q18.1), (0, .ref a0)]) (pc := 26) C dX10_asks_26 (by decide) rfl ?_
    refine go_sub (ls' := [(0, .ref a0), (1, .int q18.1), (2, .int 0), (3, .int x19), (4, .int 0)]) [4, 3, 2, 1, 0] rfl ?_
    refine gX10_asks_L28 C O E (fun h23 x20 x21 x22 => ?_) FU q18.2 a0 q18.1 0 x19 0
    · refine go_aload_n (pc := 105) C 0 dX10_asks_105 rfl ?_
      refine go_gR (pc := 106) C fdX10_50 dX10_asks_106 (fun x24 => ?_)
      refine go_bind (fun q25 hq25 => ?_)
      refine go_callV (rest := []) (st' := []) (c' := 0) (s' := 0) (pc := 109) C O miX10_209 mvX5_clear [] rfl (mX5_clear hq25).1 (mX5_clear hq25).2 dX10_asks_109 ⟨by decide, by decide, by decide, by decide⟩ rfl (Nat.le_of_ble_eq_true rfl) rfl ⟨rfl, rfl⟩ ?_
      refine go_aload_n (pc := 112) C 0 dX10_asks_112 rfl ?_
      refine go_gR (pc := 113) C fdX10_50 dX10_asks_113 (fun x26 => ?_)
      refine go_iload_n (pc := 116) C 2 dX10_asks_116 rfl ?_
      refine go_i2l (pc := 117) C dX10_asks_117 ?_
      refine go_bind (fun q27 hq27 => ?_)
      refine go_callV (rest := []) (st' := []) (c' := 0) (s' := 0) (pc := 118) C O miX10_212 mvX5_add [.long (Int32.toInt64 x22)] rfl (mX5_add hq27).1 (mX5_add hq27).2 dX10_asks_118 ⟨by decide, by decide, by decide, by decide⟩ rfl (Nat.le_of_ble_eq_true rfl) rfl ⟨rfl, rfl⟩ ?_
      refine go_iload_n (pc := 121) C 1 dX10_asks_121 rfl ?_
      exact go_iret (w := wIh) (pc := 122) C E ((x21, q27)) x21 dX10_asks_122 rfl
theorem dX10_saw_0 : decode cX10_saw 0 = .ok (.aload_n 0, 1) := by decide +kernel
theorem dX10_saw_1 : decode cX10_saw 1 = .ok (.getfield 64, 3) := by decide +kernel
theorem dX10_saw_4 : decode cX10_saw 4 = .ok (.iload_n 1, 1) := by decide +kernel
theorem dX10_saw_5 : decode cX10_saw 5 = .ok (.iload_n 2, 1) := by decide +kernel
theorem dX10_saw_6 : decode cX10_saw 6 = .ok (.iload_n 3, 1) := by decide +kernel
theorem dX10_saw_7 : decode cX10_saw 7 = .ok (.invokevirtual 340, 3) := by decide +kernel
theorem dX10_saw_10 : decode cX10_saw 10 = .ok (.ireturn, 1) := by decide +kernel
def fX10_saw (h : AH) (a0 : Nat) (a1 : Int32) (a2 : Int32) (a3 : Int32) : Option (Int32 × AH) :=
  if hasC h 10 a0 = true then (
    (gR h 10 a0 10).bind fun x1 =>
    (fX8_see h x1 a1 a2 a3).bind fun q2 =>
    some ((q2.1, q2.2))
  ) else none
set_option maxHeartbeats 4000000 in
theorem mX10_saw {h : AH} {a0 : Nat} {a1 : Int32} {a2 : Int32} {a3 : Int32} {r : Int32 × AH} (hr : fX10_saw h a0 a1 a2 a3 = some r) : hasC h 10 a0 = true ∧ MC yX10_saw cX10_saw 4 (some .int) 2 0 0 [.ref a0, .int a1, .int a2, .int a3] h (some (.int r.1)) r.2 := by
  unfold fX10_saw at hr
  obtain ⟨hc, hr⟩ := if_some hr
  refine ⟨hc, mc_of (l0 := [(0, .ref a0), (1, .int a1), (2, .int a2), (3, .int a3)]) rfl pn_X10 (Nat.le_of_ble_eq_true rfl) (fun Y X C E O hnm => go_run hr ?_)⟩
  have C : CT Y X RX10 cX10_saw 4 := C
  refine go_aload_n (pc := 0) C 0 dX10_saw_0 rfl ?_
  refine go_gR (pc := 1) C fdX10_64 dX10_saw_1 (fun x1 => ?_)
  refine go_iload_n (pc := 4) C 1 dX10_saw_4 rfl ?_
  refine go_iload_n (pc := 5) C 2 dX10_saw_5 rfl ?_
  refine go_iload_n (pc := 6) C 3 dX10_saw_6 rfl ?_
  refine go_bind (fun q2 hq2 => ?_)
  refine go_callV (rest := []) (st' := [.int q2.1]) (c' := 0) (s' := 0) (pc := 7) C O miX10_340 mvX8_see [.int a1, .int a2, .int a3] rfl (mX8_see hq2).1 (mX8_see hq2).2 dX10_saw_7 ⟨by decide, by decide, by decide, by decide⟩ rfl (Nat.le_of_ble_eq_true rfl) rfl ⟨rfl, rfl⟩ ?_
  exact go_iret (w := wIh) (pc := 10) C E ((q2.1, q2.2)) q2.1 dX10_saw_10 rfl
theorem dX10_denies_0 : decode cX10_denies 0 = .ok (.aload_n 0, 1) := by decide +kernel
theorem dX10_denies_1 : decode cX10_denies 1 = .ok (.getfield 64, 3) := by decide +kernel
theorem dX10_denies_4 : decode cX10_denies 4 = .ok (.invokevirtual 343, 3) := by decide +kernel
theorem dX10_denies_7 : decode cX10_denies 7 = .ok (.ireturn, 1) := by decide +kernel
def fX10_denies (h : AH) (a0 : Nat) : Option (Int32 × AH) :=
  if hasC h 10 a0 = true then (
    (gR h 10 a0 10).bind fun x1 =>
    (fX8_empty h x1).bind fun q2 =>
    some ((q2.1, q2.2))
  ) else none
set_option maxHeartbeats 4000000 in
theorem mX10_denies {h : AH} {a0 : Nat} {r : Int32 × AH} (hr : fX10_denies h a0 = some r) : hasC h 10 a0 = true ∧ MC yX10_denies cX10_denies 1 (some .int) 2 0 0 [.ref a0] h (some (.int r.1)) r.2 := by
  unfold fX10_denies at hr
  obtain ⟨hc, hr⟩ := if_some hr
  refine ⟨hc, mc_of (l0 := [(0, .ref a0)]) rfl pn_X10 (Nat.le_of_ble_eq_true rfl) (fun Y X C E O hnm => go_run hr ?_)⟩
  have C : CT Y X RX10 cX10_denies 1 := C
  refine go_aload_n (pc := 0) C 0 dX10_denies_0 rfl ?_
  refine go_gR (pc := 1) C fdX10_64 dX10_denies_1 (fun x1 => ?_)
  refine go_bind (fun q2 hq2 => ?_)
  refine go_callV (rest := []) (st' := [.int q2.1]) (c' := 0) (s' := 0) (pc := 4) C O miX10_343 mvX8_empty [] rfl (mX8_empty hq2).1 (mX8_empty hq2).2 dX10_denies_4 ⟨by decide, by decide, by decide, by decide⟩ rfl (Nat.le_of_ble_eq_true rfl) rfl ⟨rfl, rfl⟩ ?_
  exact go_iret (w := wIh) (pc := 7) C E ((q2.1, q2.2)) q2.1 dX10_denies_7 rfl
theorem dX10_laws_0 : decode cX10_laws 0 = .ok (.iconst 0, 1) := by decide +kernel
theorem dX10_laws_1 : decode cX10_laws 1 = .ok (.istore_n 1, 1) := by decide +kernel
theorem dX10_laws_2 : decode cX10_laws 2 = .ok (.aload_n 0, 1) := by decide +kernel
theorem dX10_laws_3 : decode cX10_laws 3 = .ok (.getfield 50, 3) := by decide +kernel
theorem dX10_laws_6 : decode cX10_laws 6 = .ok (.invokevirtual 209, 3) := by decide +kernel
theorem dX10_laws_9 : decode cX10_laws 9 = .ok (.iconst 0, 1) := by decide +kernel
theorem dX10_laws_10 : decode cX10_laws 10 = .ok (.istore_n 2, 1) := by decide +kernel
theorem dX10_laws_11 : decode cX10_laws 11 = .ok (.iload_n 2, 1) := by decide +kernel
theorem dX10_laws_12 : decode cX10_laws 12 = .ok (.bipush 7, 2) := by decide +kernel
theorem dX10_laws_14 : decode cX10_laws 14 = .ok (.if_icmp .ge 45, 3) := by decide +kernel
theorem dX10_laws_17 : decode cX10_laws 17 = .ok (.iconst 0, 1) := by decide +kernel
theorem dX10_laws_18 : decode cX10_laws 18 = .ok (.istore_n 3, 1) := by decide +kernel
theorem dX10_laws_19 : decode cX10_laws 19 = .ok (.iload_n 3, 1) := by decide +kernel
theorem dX10_laws_20 : decode cX10_laws 20 = .ok (.bipush 7, 2) := by decide +kernel
theorem dX10_laws_22 : decode cX10_laws 22 = .ok (.if_icmp .ge 31, 3) := by decide +kernel
theorem dX10_laws_25 : decode cX10_laws 25 = .ok (.aload_n 0, 1) := by decide +kernel
theorem dX10_laws_26 : decode cX10_laws 26 = .ok (.getfield 64, 3) := by decide +kernel
theorem dX10_laws_29 : decode cX10_laws 29 = .ok (.iload_n 2, 1) := by decide +kernel
theorem dX10_laws_30 : decode cX10_laws 30 = .ok (.iload_n 3, 1) := by decide +kernel
theorem dX10_laws_31 : decode cX10_laws 31 = .ok (.invokevirtual 344, 3) := by decide +kernel
theorem dX10_laws_34 : decode cX10_laws 34 = .ok (.ifCond .eq 13, 3) := by decide +kernel
theorem dX10_laws_37 : decode cX10_laws 37 = .ok (.aload_n 0, 1) := by decide +kernel
theorem dX10_laws_38 : decode cX10_laws 38 = .ok (.iload_n 1, 1) := by decide +kernel
theorem dX10_laws_39 : decode cX10_laws 39 = .ok (.iload_n 2, 1) := by decide +kernel
theorem dX10_laws_40 : decode cX10_laws 40 = .ok (.iload_n 3, 1) := by decide +kernel
theorem dX10_laws_41 : decode cX10_laws 41 = .ok (.invokevirtual 280, 3) := by decide +kernel
theorem dX10_laws_44 : decode cX10_laws 44 = .ok (.iinc 1 1, 3) := by decide +kernel
theorem dX10_laws_47 : decode cX10_laws 47 = .ok (.iinc 3 1, 3) := by decide +kernel
theorem dX10_laws_50 : decode cX10_laws 50 = .ok (.goto (-31), 3) := by decide +kernel
theorem dX10_laws_53 : decode cX10_laws 53 = .ok (.iinc 2 1, 3) := by decide +kernel
theorem dX10_laws_56 : decode cX10_laws 56 = .ok (.goto (-45), 3) := by decide +kernel
theorem dX10_laws_59 : decode cX10_laws 59 = .ok (.iload_n 1, 1) := by decide +kernel
theorem dX10_laws_60 : decode cX10_laws 60 = .ok (.ireturn, 1) := by decide +kernel
def fX10_laws_L19 (k53 : AH → Nat → Int32 → Int32 → Option (Int32 × AH)) : Nat → AH → Nat → Int32 → Int32 → Int32 → Option (Int32 × AH)
  | 0, _, _, _, _, _ => none
  | n + 1, h, v0, v1, v2, v3 =>
    if 7 ≤ v3 then (
      k53 h v0 v1 v2
    ) else (
      (gR h 10 v0 10).bind fun x1 =>
      (fX8_agreeWith h x1 v2 v3).bind fun q2 =>
      if q2 = true then (
        (fX10_tellFirst h v0 v1 v2 v3).bind fun q3 =>
        letF (v1 + 1 : Int32) fun x4 =>
        letF (v3 + 1 : Int32) fun x5 =>
        fX10_laws_L19 k53 n q3 v0 x4 v2 x5
      ) else (
        letF (v3 + 1 : Int32) fun x6 =>
        fX10_laws_L19 k53 n h v0 v1 v2 x6
      )
    )
def fX10_laws_L11 : Nat → AH → Nat → Int32 → Int32 → Option (Int32 × AH)
  | 0, _, _, _, _ => none
  | n + 1, h, v0, v1, v2 =>
    if 7 ≤ v2 then (
      some ((v1, h))
    ) else (
      fX10_laws_L19
        (fun h10 x7 x8 x9 =>
          letF (x9 + 1 : Int32) fun x11 =>
          fX10_laws_L11 n h10 x7 x8 x11)
        FU h v0 v1 v2 0
    )
def fX10_laws (h : AH) (a0 : Nat) : Option (Int32 × AH) :=
  if hasC h 10 a0 = true then (
    (gR h 10 a0 8).bind fun x12 =>
    (fX5_clear h x12).bind fun q13 =>
    fX10_laws_L11 FU q13 a0 0 0
  ) else none
set_option maxHeartbeats 4000000 in
theorem gX10_laws_L19 {Y : YT} {X : XT} (C : CT Y X RX10 cX10_laws 4) (O : RO X 3 0 0) {r : Int32 × AH} (E : RX Y X (some .int) (some (.int r.1)) r.2 0 0) {k53 : AH → Nat → Int32 → Int32 → Option (Int32 × AH)} (hk53 : ∀ (h : AH) (v0 : Nat) (v1 : Int32) (v2 : Int32), GO Y X 4 r h 0 0 53 [(0, .ref v0), (1, .int v1), (2, .int v2)] [] (k53 h v0 v1 v2)) : ∀ (n : Nat) (h : AH) (v0 : Nat) (v1 : Int32) (v2 : Int32) (v3 : Int32), GO Y X 4 r h 0 0 19 [(0, .ref v0), (1, .int v1), (2, .int v2), (3, .int v3)] [] (fX10_laws_L19 k53 n h v0 v1 v2 v3) := by
  intro n
  induction n with
  | zero => intros; exact go_none _ _ _
  | succ n ih =>
    intro h v0 v1 v2 v3
    rw [fX10_laws_L19]
    refine go_iload_n (pc := 19) C 3 dX10_laws_19 rfl ?_
    refine go_bipush (pc := 20) C dX10_laws_20 kb_7 ?_
    refine go_icmp_ge (pc := 22) C 53 dX10_laws_22 (by decide) (fun _ => ?_) (fun _ => ?_)
    · refine go_sub (ls' := [(0, .ref v0), (1, .int v1), (2, .int v2)]) [0, 1, 2] rfl ?_
      exact hk53 h v0 v1 v2
    · refine go_aload_n (pc := 25) C 0 dX10_laws_25 rfl ?_
      refine go_gR (pc := 26) C fdX10_64 dX10_laws_26 (fun x1 => ?_)
      refine go_iload_n (pc := 29) C 2 dX10_laws_29 rfl ?_
      refine go_iload_n (pc := 30) C 3 dX10_laws_30 rfl ?_
      refine go_bind (fun q2 hq2 => ?_)
      refine go_callV (rest := []) (st' := [.int (b2i q2)]) (c' := 0) (s' := 0) (pc := 31) C O miX10_344 mvX8_agreeWith [.int v2, .int v3] rfl (mX8_agreeWith hq2).1 (mX8_agreeWith hq2).2 dX10_laws_31 ⟨by decide, by decide, by decide, by decide⟩ rfl (Nat.le_of_ble_eq_true rfl) rfl ⟨rfl, rfl⟩ ?_
      refine go_ifZ_eq (pc := 34) C 47 dX10_laws_34 (by decide) (fun _ => ?_) (fun _ => ?_)
      · refine go_aload_n (pc := 37) C 0 dX10_laws_37 rfl ?_
        refine go_iload_n (pc := 38) C 1 dX10_laws_38 rfl ?_
        refine go_iload_n (pc := 39) C 2 dX10_laws_39 rfl ?_
        refine go_iload_n (pc := 40) C 3 dX10_laws_40 rfl ?_
        refine go_bind (fun q3 hq3 => ?_)
        refine go_callV (rest := []) (st' := []) (c' := 0) (s' := 0) (pc := 41) C O miX10_280 mvX10_tellFirst [.int v1, .int v2, .int v3] rfl (mX10_tellFirst hq3).1 (mX10_tellFirst hq3).2 dX10_laws_41 ⟨by decide, by decide, by decide, by decide⟩ rfl (Nat.le_of_ble_eq_true rfl) rfl ⟨rfl, rfl⟩ ?_
        refine go_iincL (pc := 44) C 1 dX10_laws_44 rfl ki_1 (by decide) (fun x4 => [(1, .int x4), (0, .ref v0), (2, .int v2), (3, .int v3)]) (fun _ => rfl) (fun x4 => ?_)
        refine go_iincL (pc := 47) C 3 dX10_laws_47 rfl ki_1 (by decide) (fun x5 => [(3, .int x5), (1, .int x4), (0, .ref v0), (2, .int v2)]) (fun _ => rfl) (fun x5 => ?_)
        refine go_goto (pc := 50) C 19 dX10_laws_50 (by decide) ?_
        refine go_sub (ls' := [(0, .ref v0), (1, .int x4), (2, .int v2), (3, .int x5)]) [2, 1, 3, 0] rfl ?_
        exact ih q3 v0 x4 v2 x5
      · refine go_iincL (pc := 47) C 3 dX10_laws_47 rfl ki_1 (by decide) (fun x6 => [(3, .int x6), (0, .ref v0), (1, .int v1), (2, .int v2)]) (fun _ => rfl) (fun x6 => ?_)
        refine go_goto (pc := 50) C 19 dX10_laws_50 (by decide) ?_
        refine go_sub (ls' := [(0, .ref v0), (1, .int v1), (2, .int v2), (3, .int x6)]) [1, 2, 3, 0] rfl ?_
        exact ih h v0 v1 v2 x6
set_option maxHeartbeats 4000000 in
theorem gX10_laws_L11 {Y : YT} {X : XT} (C : CT Y X RX10 cX10_laws 4) (O : RO X 3 0 0) {r : Int32 × AH} (E : RX Y X (some .int) (some (.int r.1)) r.2 0 0) : ∀ (n : Nat) (h : AH) (v0 : Nat) (v1 : Int32) (v2 : Int32), GO Y X 4 r h 0 0 11 [(0, .ref v0), (1, .int v1), (2, .int v2)] [] (fX10_laws_L11 n h v0 v1 v2) := by
  intro n
  induction n with
  | zero => intros; exact go_none _ _ _
  | succ n ih =>
    intro h v0 v1 v2
    rw [fX10_laws_L11]
    refine go_iload_n (pc := 11) C 2 dX10_laws_11 rfl ?_
    refine go_bipush (pc := 12) C dX10_laws_12 kb_7 ?_
    refine go_icmp_ge (pc := 14) C 59 dX10_laws_14 (by decide) (fun _ => ?_) (fun _ => ?_)
    · refine go_iload_n (pc := 59) C 1 dX10_laws_59 rfl ?_
      exact go_iret (w := wIh) (pc := 60) C E ((v1, h)) v1 dX10_laws_60 rfl
    · refine go_iconst (pc := 17) C dX10_laws_17 ki_0 ?_
      refine go_istore_n (ls' := [(3, .int 0), (0, .ref v0), (1, .int v1), (2, .int v2)]) (pc := 18) C dX10_laws_18 (by decide) rfl ?_
      refine go_sub (ls' := [(0, .ref v0), (1, .int v1), (2, .int v2), (3, .int 0)]) [1, 2, 3, 0] rfl ?_
      refine gX10_laws_L19 C O E (fun h10 x7 x8 x9 => ?_) FU h v0 v1 v2 0
      · refine go_iincL (pc := 53) C 2 dX10_laws_53 rfl ki_1 (by decide) (fun x11 => [(2, .int x11), (0, .ref x7), (1, .int x8)]) (fun _ => rfl) (fun x11 => ?_)
        refine go_goto (pc := 56) C 11 dX10_laws_56 (by decide) ?_
        refine go_sub (ls' := [(0, .ref x7), (1, .int x8), (2, .int x11)]) [1, 2, 0] rfl ?_
        exact ih h10 x7 x8 x11
set_option maxHeartbeats 4000000 in
theorem mX10_laws {h : AH} {a0 : Nat} {r : Int32 × AH} (hr : fX10_laws h a0 = some r) : hasC h 10 a0 = true ∧ MC yX10_laws cX10_laws 4 (some .int) 3 0 0 [.ref a0] h (some (.int r.1)) r.2 := by
  unfold fX10_laws at hr
  obtain ⟨hc, hr⟩ := if_some hr
  refine ⟨hc, mc_of (l0 := [(0, .ref a0)]) rfl pn_X10 (Nat.le_of_ble_eq_true rfl) (fun Y X C E O hnm => go_run hr ?_)⟩
  have C : CT Y X RX10 cX10_laws 4 := C
  refine go_iconst (pc := 0) C dX10_laws_0 ki_0 ?_
  refine go_istore_n (ls' := [(1, .int 0), (0, .ref a0)]) (pc := 1) C dX10_laws_1 (by decide) rfl ?_
  refine go_aload_n (pc := 2) C 1 dX10_laws_2 rfl ?_
  refine go_gR (pc := 3) C fdX10_50 dX10_laws_3 (fun x12 => ?_)
  refine go_bind (fun q13 hq13 => ?_)
  refine go_callV (rest := []) (st' := []) (c' := 0) (s' := 0) (pc := 6) C O miX10_209 mvX5_clear [] rfl (mX5_clear hq13).1 (mX5_clear hq13).2 dX10_laws_6 ⟨by decide, by decide, by decide, by decide⟩ rfl (Nat.le_of_ble_eq_true rfl) rfl ⟨rfl, rfl⟩ ?_
  refine go_iconst (pc := 9) C dX10_laws_9 ki_0 ?_
  refine go_istore_n (ls' := [(2, .int 0), (1, .int 0), (0, .ref a0)]) (pc := 10) C dX10_laws_10 (by decide) rfl ?_
  refine go_sub (ls' := [(0, .ref a0), (1, .int 0), (2, .int 0)]) [2, 1, 0] rfl ?_
  refine gX10_laws_L11 C O E FU q13 a0 0 0
theorem dX10_looks_0 : decode cX10_looks 0 = .ok (.aload_n 0, 1) := by decide +kernel
theorem dX10_looks_1 : decode cX10_looks 1 = .ok (.getfield 64, 3) := by decide +kernel
theorem dX10_looks_4 : decode cX10_looks 4 = .ok (.invokevirtual 347, 3) := by decide +kernel
theorem dX10_looks_7 : decode cX10_looks 7 = .ok (.istore_n 1, 1) := by decide +kernel
theorem dX10_looks_8 : decode cX10_looks 8 = .ok (.iload_n 1, 1) := by decide +kernel
theorem dX10_looks_9 : decode cX10_looks 9 = .ok (.ifCond .ne 6, 3) := by decide +kernel
theorem dX10_looks_12 : decode cX10_looks 12 = .ok (.bipush (-2), 2) := by decide +kernel
theorem dX10_looks_14 : decode cX10_looks 14 = .ok (.ireturn, 1) := by decide +kernel
theorem dX10_looks_15 : decode cX10_looks 15 = .ok (.iconst 0, 1) := by decide +kernel
theorem dX10_looks_16 : decode cX10_looks 16 = .ok (.istore_n 2, 1) := by decide +kernel
theorem dX10_looks_17 : decode cX10_looks 17 = .ok (.iload_n 1, 1) := by decide +kernel
theorem dX10_looks_18 : decode cX10_looks 18 = .ok (.iconst 1, 1) := by decide +kernel
theorem dX10_looks_19 : decode cX10_looks 19 = .ok (.iadd, 1) := by decide +kernel
theorem dX10_looks_20 : decode cX10_looks 20 = .ok (.istore_n 3, 1) := by decide +kernel
theorem dX10_looks_21 : decode cX10_looks 21 = .ok (.iconst 0, 1) := by decide +kernel
theorem dX10_looks_22 : decode cX10_looks 22 = .ok (.istore 4, 2) := by decide +kernel
theorem dX10_looks_24 : decode cX10_looks 24 = .ok (.iload 4, 2) := by decide +kernel
theorem dX10_looks_26 : decode cX10_looks 26 = .ok (.bipush 9, 2) := by decide +kernel
theorem dX10_looks_28 : decode cX10_looks 28 = .ok (.if_icmp .gt 67, 3) := by decide +kernel
theorem dX10_looks_31 : decode cX10_looks 31 = .ok (.iconst 0, 1) := by decide +kernel
theorem dX10_looks_32 : decode cX10_looks 32 = .ok (.istore 5, 2) := by decide +kernel
theorem dX10_looks_34 : decode cX10_looks 34 = .ok (.iload 5, 2) := by decide +kernel
theorem dX10_looks_36 : decode cX10_looks 36 = .ok (.bipush 8, 2) := by decide +kernel
theorem dX10_looks_38 : decode cX10_looks 38 = .ok (.if_icmp .gt 51, 3) := by decide +kernel
theorem dX10_looks_41 : decode cX10_looks 41 = .ok (.aload_n 0, 1) := by decide +kernel
theorem dX10_looks_42 : decode cX10_looks 42 = .ok (.getfield 64, 3) := by decide +kernel
theorem dX10_looks_45 : decode cX10_looks 45 = .ok (.iload 4, 2) := by decide +kernel
theorem dX10_looks_47 : decode cX10_looks 47 = .ok (.iload 5, 2) := by decide +kernel
theorem dX10_looks_49 : decode cX10_looks 49 = .ok (.invokevirtual 349, 3) := by decide +kernel
theorem dX10_looks_52 : decode cX10_looks 52 = .ok (.istore 6, 2) := by decide +kernel
theorem dX10_looks_54 : decode cX10_looks 54 = .ok (.iload 6, 2) := by decide +kernel
theorem dX10_looks_56 : decode cX10_looks 56 = .ok (.iload_n 1, 1) := by decide +kernel
theorem dX10_looks_57 : decode cX10_looks 57 = .ok (.iload 6, 2) := by decide +kernel
theorem dX10_looks_59 : decode cX10_looks 59 = .ok (.isub, 1) := by decide +kernel
theorem dX10_looks_60 : decode cX10_looks 60 = .ok (.invokestatic 335, 3) := by decide +kernel
theorem dX10_looks_63 : decode cX10_looks 63 = .ok (.istore 7, 2) := by decide +kernel
theorem dX10_looks_65 : decode cX10_looks 65 = .ok (.iload 7, 2) := by decide +kernel
theorem dX10_looks_67 : decode cX10_looks 67 = .ok (.iload_n 3, 1) := by decide +kernel
theorem dX10_looks_68 : decode cX10_looks 68 = .ok (.if_icmp .ge 15, 3) := by decide +kernel
theorem dX10_looks_71 : decode cX10_looks 71 = .ok (.iload 7, 2) := by decide +kernel
theorem dX10_looks_73 : decode cX10_looks 73 = .ok (.istore_n 3, 1) := by decide +kernel
theorem dX10_looks_74 : decode cX10_looks 74 = .ok (.bipush 10, 2) := by decide +kernel
theorem dX10_looks_76 : decode cX10_looks 76 = .ok (.iload 4, 2) := by decide +kernel
theorem dX10_looks_78 : decode cX10_looks 78 = .ok (.imul, 1) := by decide +kernel
theorem dX10_looks_79 : decode cX10_looks 79 = .ok (.iload 5, 2) := by decide +kernel
theorem dX10_looks_81 : decode cX10_looks 81 = .ok (.iadd, 1) := by decide +kernel
theorem dX10_looks_82 : decode cX10_looks 82 = .ok (.istore_n 2, 1) := by decide +kernel
theorem dX10_looks_83 : decode cX10_looks 83 = .ok (.iinc 5 1, 3) := by decide +kernel
theorem dX10_looks_86 : decode cX10_looks 86 = .ok (.goto (-52), 3) := by decide +kernel
theorem dX10_looks_89 : decode cX10_looks 89 = .ok (.iinc 4 1, 3) := by decide +kernel
theorem dX10_looks_92 : decode cX10_looks 92 = .ok (.goto (-68), 3) := by decide +kernel
theorem dX10_looks_95 : decode cX10_looks 95 = .ok (.aload_n 0, 1) := by decide +kernel
theorem dX10_looks_96 : decode cX10_looks 96 = .ok (.getfield 50, 3) := by decide +kernel
theorem dX10_looks_99 : decode cX10_looks 99 = .ok (.invokevirtual 209, 3) := by decide +kernel
theorem dX10_looks_102 : decode cX10_looks 102 = .ok (.aload_n 0, 1) := by decide +kernel
theorem dX10_looks_103 : decode cX10_looks 103 = .ok (.getfield 50, 3) := by decide +kernel
theorem dX10_looks_106 : decode cX10_looks 106 = .ok (.iload_n 3, 1) := by decide +kernel
theorem dX10_looks_107 : decode cX10_looks 107 = .ok (.i2l, 1) := by decide +kernel
theorem dX10_looks_108 : decode cX10_looks 108 = .ok (.invokevirtual 212, 3) := by decide +kernel
theorem dX10_looks_111 : decode cX10_looks 111 = .ok (.iload_n 2, 1) := by decide +kernel
theorem dX10_looks_112 : decode cX10_looks 112 = .ok (.ireturn, 1) := by decide +kernel
def fX10_looks_L34 (k89 : AH → Nat → Int32 → Int32 → Int32 → Int32 → Option (Int32 × AH)) : Nat → AH → Nat → Int32 → Int32 → Int32 → Int32 → Int32 → Option (Int32 × AH)
  | 0, _, _, _, _, _, _, _ => none
  | n + 1, h, v0, v1, v2, v3, v4, v5 =>
    if 8 < v5 then (
      k89 h v0 v1 v2 v3 v4
    ) else (
      (gR h 10 v0 10).bind fun x1 =>
      (fX8_tidying h x1 v4 v5).bind fun q2 =>
      letF (jmax q2 (v1 - q2) : Int32) fun x3 =>
      if v3 ≤ x3 then (
        letF (v5 + 1 : Int32) fun x4 =>
        fX10_looks_L34 k89 n h v0 v1 v2 v3 v4 x4
      ) else (
        letF ((10 * v4) + v5 : Int32) fun x5 =>
        letF (v5 + 1 : Int32) fun x6 =>
        fX10_looks_L34 k89 n h v0 v1 x5 x3 v4 x6
      )
    )
def fX10_looks_L24 (k95 : AH → Nat → Int32 → Int32 → Option (Int32 × AH)) : Nat → AH → Nat → Int32 → Int32 → Int32 → Int32 → Option (Int32 × AH)
  | 0, _, _, _, _, _, _ => none
  | n + 1, h, v0, v1, v2, v3, v4 =>
    if 9 < v4 then (
      k95 h v0 v2 v3
    ) else (
      fX10_looks_L34
        (fun h12 x7 x8 x9 x10 x11 =>
          letF (x11 + 1 : Int32) fun x13 =>
          fX10_looks_L24 k95 n h12 x7 x8 x9 x10 x13)
        FU h v0 v1 v2 v3 v4 0
    )
def fX10_looks (h : AH) (a0 : Nat) : Option (Int32 × AH) :=
  if hasC h 10 a0 = true then (
    (gR h 10 a0 10).bind fun x14 =>
    (fX8_gather h x14).bind fun q15 =>
    if q15.1 = 0 then (
      some (((-2), q15.2))
    ) else (
      letF (q15.1 + 1 : Int32) fun x16 =>
      fX10_looks_L24
        (fun h20 x17 x18 x19 =>
          (gR h20 10 x17 8).bind fun x21 =>
          (fX5_clear h20 x21).bind fun q22 =>
          (gR q22 10 x17 8).bind fun x23 =>
          (fX5_add q22 x23 (Int32.toInt64 x19)).bind fun q24 =>
          some ((x18, q24)))
        FU q15.2 a0 q15.1 0 x16 0
    )
  ) else none
set_option maxHeartbeats 4000000 in
theorem gX10_looks_L34 {Y : YT} {X : XT} (C : CT Y X RX10 cX10_looks 8) (O : RO X 4 0 0) {r : Int32 × AH} (E : RX Y X (some .int) (some (.int r.1)) r.2 0 0) {k89 : AH → Nat → Int32 → Int32 → Int32 → Int32 → Option (Int32 × AH)} (hk89 : ∀ (h : AH) (v0 : Nat) (v1 : Int32) (v2 : Int32) (v3 : Int32) (v4 : Int32), GO Y X 8 r h 0 0 89 [(0, .ref v0), (1, .int v1), (2, .int v2), (3, .int v3), (4, .int v4)] [] (k89 h v0 v1 v2 v3 v4)) : ∀ (n : Nat) (h : AH) (v0 : Nat) (v1 : Int32) (v2 : Int32) (v3 : Int32) (v4 : Int32) (v5 : Int32), GO Y X 8 r h 0 0 34 [(0, .ref v0), (1, .int v1), (2, .int v2), (3, .int v3), (4, .int v4), (5, .int v5)] [] (fX10_looks_L34 k89 n h v0 v1 v2 v3 v4 v5) := by
  intro n
  induction n with
  | zero => intros; exact go_none _ _ _
  | succ n ih =>
    intro h v0 v1 v2 v3 v4 v5
    rw [fX10_looks_L34]
    refine go_iload (pc := 34) C 5 dX10_looks_34 rfl ?_
    refine go_bipush (pc := 36) C dX10_looks_36 kb_8 ?_
    refine go_icmp_gt (pc := 38) C 89 dX10_looks_38 (by decide) (fun _ => ?_) (fun _ => ?_)
    · refine go_sub (ls' := [(0, .ref v0), (1, .int v1), (2, .int v2), (3, .int v3), (4, .int v4)]) [0, 1, 2, 3, 4] rfl ?_
      exact hk89 h v0 v1 v2 v3 v4
    · refine go_aload_n (pc := 41) C 0 dX10_looks_41 rfl ?_
      refine go_gR (pc := 42) C fdX10_64 dX10_looks_42 (fun x1 => ?_)
      refine go_iload (pc := 45) C 4 dX10_looks_45 rfl ?_
      refine go_iload (pc := 47) C 5 dX10_looks_47 rfl ?_
      refine go_bind (fun q2 hq2 => ?_)
      refine go_callV (rest := []) (st' := [.int q2]) (c' := 0) (s' := 0) (pc := 49) C O miX10_349 mvX8_tidying [.int v4, .int v5] rfl (mX8_tidying hq2).1 (mX8_tidying hq2).2 dX10_looks_49 ⟨by decide, by decide, by decide, by decide⟩ rfl (Nat.le_of_ble_eq_true rfl) rfl ⟨rfl, rfl⟩ ?_
      refine go_istore (ls' := [(6, .int q2), (0, .ref v0), (1, .int v1), (2, .int v2), (3, .int v3), (4, .int v4), (5, .int v5)]) (pc := 52) C dX10_looks_52 (by decide) rfl ?_
      refine go_iload (pc := 54) C 0 dX10_looks_54 rfl ?_
      refine go_iload_n (pc := 56) C 2 dX10_looks_56 rfl ?_
      refine go_iload (pc := 57) C 0 dX10_looks_57 rfl ?_
      refine go_isub (pc := 59) C dX10_looks_59 ?_
      refine go_mmax (pc := 60) C O w_550 w_524 w_102 w_525 ⟨by decide, by decide, by decide⟩ (Nat.le_of_ble_eq_true rfl) dX10_looks_60 ?_
      refine go_istoreL (pc := 63) C dX10_looks_63 (by decide) (fun x3 => [(7, .int x3), (6, .int q2), (0, .ref v0), (1, .int v1), (2, .int v2), (3, .int v3), (4, .int v4), (5, .int v5)]) (fun _ => rfl) (fun x3 => ?_)
      refine go_iload (pc := 65) C 0 dX10_looks_65 rfl ?_
      refine go_iload_n (pc := 67) C 5 dX10_looks_67 rfl ?_
      refine go_icmp_ge (pc := 68) C 83 dX10_looks_68 (by decide) (fun _ => ?_) (fun _ => ?_)
      · refine go_iincL (pc := 83) C 7 dX10_looks_83 rfl ki_1 (by decide) (fun x4 => [(5, .int x4), (7, .int x3), (6, .int q2), (0, .ref v0), (1, .int v1), (2, .int v2), (3, .int v3), (4, .int v4)]) (fun _ => rfl) (fun x4 => ?_)
        refine go_goto (pc := 86) C 34 dX10_looks_86 (by decide) ?_
        refine go_sub (ls' := [(0, .ref v0), (1, .int v1), (2, .int v2), (3, .int v3), (4, .int v4), (5, .int x4)]) [3, 4, 5, 6, 7, 0] rfl ?_
        exact ih h v0 v1 v2 v3 v4 x4
      · refine go_iload (pc := 71) C 0 dX10_looks_71 rfl ?_
        refine go_istore_n (ls' := [(3, .int x3), (7, .int x3), (6, .int q2), (0, .ref v0), (1, .int v1), (2, .int v2), (4, .int v4), (5, .int v5)]) (pc := 73) C dX10_looks_73 (by decide) rfl ?_
        refine go_bipush (pc := 74) C dX10_looks_74 kb_10 ?_
        refine go_iload (pc := 76) C 6 dX10_looks_76 rfl ?_
        refine go_imul (pc := 78) C dX10_looks_78 ?_
        refine go_iload (pc := 79) C 7 dX10_looks_79 rfl ?_
        refine go_iadd (pc := 81) C dX10_looks_81 ?_
        refine go_istore_nL (pc := 82) C dX10_looks_82 (by decide) (fun x5 => [(2, .int x5), (3, .int x3), (7, .int x3), (6, .int q2), (0, .ref v0), (1, .int v1), (4, .int v4), (5, .int v5)]) (fun _ => rfl) (fun x5 => ?_)
        refine go_iincL (pc := 83) C 7 dX10_looks_83 rfl ki_1 (by decide) (fun x6 => [(5, .int x6), (2, .int x5), (3, .int x3), (7, .int x3), (6, .int q2), (0, .ref v0), (1, .int v1), (4, .int v4)]) (fun _ => rfl) (fun x6 => ?_)
        refine go_goto (pc := 86) C 34 dX10_looks_86 (by decide) ?_
        refine go_sub (ls' := [(0, .ref v0), (1, .int v1), (2, .int x5), (3, .int x3), (4, .int v4), (5, .int x6)]) [5, 6, 1, 2, 7, 0] rfl ?_
        exact ih h v0 v1 x5 x3 v4 x6
set_option maxHeartbeats 4000000 in
theorem gX10_looks_L24 {Y : YT} {X : XT} (C : CT Y X RX10 cX10_looks 8) (O : RO X 4 0 0) {r : Int32 × AH} (E : RX Y X (some .int) (some (.int r.1)) r.2 0 0) {k95 : AH → Nat → Int32 → Int32 → Option (Int32 × AH)} (hk95 : ∀ (h : AH) (v0 : Nat) (v2 : Int32) (v3 : Int32), GO Y X 8 r h 0 0 95 [(0, .ref v0), (2, .int v2), (3, .int v3)] [] (k95 h v0 v2 v3)) : ∀ (n : Nat) (h : AH) (v0 : Nat) (v1 : Int32) (v2 : Int32) (v3 : Int32) (v4 : Int32), GO Y X 8 r h 0 0 24 [(0, .ref v0), (1, .int v1), (2, .int v2), (3, .int v3), (4, .int v4)] [] (fX10_looks_L24 k95 n h v0 v1 v2 v3 v4) := by
  intro n
  induction n with
  | zero => intros; exact go_none _ _ _
  | succ n ih =>
    intro h v0 v1 v2 v3 v4
    rw [fX10_looks_L24]
    refine go_iload (pc := 24) C 4 dX10_looks_24 rfl ?_
    refine go_bipush (pc := 26) C dX10_looks_26 kb_9 ?_
    refine go_icmp_gt (pc := 28) C 95 dX10_looks_28 (by decide) (fun _ => ?_) (fun _ => ?_)
    · refine go_sub (ls' := [(0, .ref v0), (2, .int v2), (3, .int v3)]) [0, 2, 3] rfl ?_
      exact hk95 h v0 v2 v3
    · refine go_iconst (pc := 31) C dX10_looks_31 ki_0 ?_
      refine go_istore (ls' := [(5, .int 0), (0, .ref v0), (1, .int v1), (2, .int v2), (3, .int v3), (4, .int v4)]) (pc := 32) C dX10_looks_32 (by decide) rfl ?_
      refine go_sub (ls' := [(0, .ref v0), (1, .int v1), (2, .int v2), (3, .int v3), (4, .int v4), (5, .int 0)]) [1, 2, 3, 4, 5, 0] rfl ?_
      refine gX10_looks_L34 C O E (fun h12 x7 x8 x9 x10 x11 => ?_) FU h v0 v1 v2 v3 v4 0
      · refine go_iincL (pc := 89) C 4 dX10_looks_89 rfl ki_1 (by decide) (fun x13 => [(4, .int x13), (0, .ref x7), (1, .int x8), (2, .int x9), (3, .int x10)]) (fun _ => rfl) (fun x13 => ?_)
        refine go_goto (pc := 92) C 24 dX10_looks_92 (by decide) ?_
        refine go_sub (ls' := [(0, .ref x7), (1, .int x8), (2, .int x9), (3, .int x10), (4, .int x13)]) [1, 2, 3, 4, 0] rfl ?_
        exact ih h12 x7 x8 x9 x10 x13
set_option maxHeartbeats 4000000 in
theorem mX10_looks {h : AH} {a0 : Nat} {r : Int32 × AH} (hr : fX10_looks h a0 = some r) : hasC h 10 a0 = true ∧ MC yX10_looks cX10_looks 8 (some .int) 4 0 0 [.ref a0] h (some (.int r.1)) r.2 := by
  unfold fX10_looks at hr
  obtain ⟨hc, hr⟩ := if_some hr
  refine ⟨hc, mc_of (l0 := [(0, .ref a0)]) rfl pn_X10 (Nat.le_of_ble_eq_true rfl) (fun Y X C E O hnm => go_run hr ?_)⟩
  have C : CT Y X RX10 cX10_looks 8 := C
  refine go_aload_n (pc := 0) C 0 dX10_looks_0 rfl ?_
  refine go_gR (pc := 1) C fdX10_64 dX10_looks_1 (fun x14 => ?_)
  refine go_bind (fun q15 hq15 => ?_)
  refine go_callV (rest := []) (st' := [.int q15.1]) (c' := 0) (s' := 0) (pc := 4) C O miX10_347 mvX8_gather [] rfl (mX8_gather hq15).1 (mX8_gather hq15).2 dX10_looks_4 ⟨by decide, by decide, by decide, by decide⟩ rfl (Nat.le_of_ble_eq_true rfl) rfl ⟨rfl, rfl⟩ ?_
  refine go_istore_n (ls' := [(1, .int q15.1), (0, .ref a0)]) (pc := 7) C dX10_looks_7 (by decide) rfl ?_
  refine go_iload_n (pc := 8) C 0 dX10_looks_8 rfl ?_
  refine go_if_ne (pc := 9) C 15 dX10_looks_9 (by decide) (fun _ => ?_) (fun _ => ?_)
  · refine go_bipush (pc := 12) C dX10_looks_12 kb_m2 ?_
    exact go_iret (w := wIh) (pc := 14) C E (((-2), q15.2)) ((-2)) dX10_looks_14 rfl
  · refine go_iconst (pc := 15) C dX10_looks_15 ki_0 ?_
    refine go_istore_n (ls' := [(2, .int 0), (1, .int q15.1), (0, .ref a0)]) (pc := 16) C dX10_looks_16 (by decide) rfl ?_
    refine go_iload_n (pc := 17) C 1 dX10_looks_17 rfl ?_
    refine go_iconst (pc := 18) C dX10_looks_18 ki_1 ?_
    refine go_iadd (pc := 19) C dX10_looks_19 ?_
    refine go_istore_nL (pc := 20) C dX10_looks_20 (by decide) (fun x16 => [(3, .int x16), (2, .int 0), (1, .int q15.1), (0, .ref a0)]) (fun _ => rfl) (fun x16 => ?_)
    refine go_iconst (pc := 21) C dX10_looks_21 ki_0 ?_
    refine go_istore (ls' := [(4, .int 0), (3, .int x16), (2, .int 0), (1, .int q15.1), (0, .ref a0)]) (pc := 22) C dX10_looks_22 (by decide) rfl ?_
    refine go_sub (ls' := [(0, .ref a0), (1, .int q15.1), (2, .int 0), (3, .int x16), (4, .int 0)]) [4, 3, 2, 1, 0] rfl ?_
    refine gX10_looks_L24 C O E (fun h20 x17 x18 x19 => ?_) FU q15.2 a0 q15.1 0 x16 0
    · refine go_aload_n (pc := 95) C 0 dX10_looks_95 rfl ?_
      refine go_gR (pc := 96) C fdX10_50 dX10_looks_96 (fun x21 => ?_)
      refine go_bind (fun q22 hq22 => ?_)
      refine go_callV (rest := []) (st' := []) (c' := 0) (s' := 0) (pc := 99) C O miX10_209 mvX5_clear [] rfl (mX5_clear hq22).1 (mX5_clear hq22).2 dX10_looks_99 ⟨by decide, by decide, by decide, by decide⟩ rfl (Nat.le_of_ble_eq_true rfl) rfl ⟨rfl, rfl⟩ ?_
      refine go_aload_n (pc := 102) C 0 dX10_looks_102 rfl ?_
      refine go_gR (pc := 103) C fdX10_50 dX10_looks_103 (fun x23 => ?_)
      refine go_iload_n (pc := 106) C 2 dX10_looks_106 rfl ?_
      refine go_i2l (pc := 107) C dX10_looks_107 ?_
      refine go_bind (fun q24 hq24 => ?_)
      refine go_callV (rest := []) (st' := []) (c' := 0) (s' := 0) (pc := 108) C O miX10_212 mvX5_add [.long (Int32.toInt64 x19)] rfl (mX5_add hq24).1 (mX5_add hq24).2 dX10_looks_108 ⟨by decide, by decide, by decide, by decide⟩ rfl (Nat.le_of_ble_eq_true rfl) rfl ⟨rfl, rfl⟩ ?_
      refine go_iload_n (pc := 111) C 1 dX10_looks_111 rfl ?_
      exact go_iret (w := wIh) (pc := 112) C E ((x18, q24)) x18 dX10_looks_112 rfl
theorem dX10_pages_0 : decode cX10_pages 0 = .ok (.iload_n 1, 1) := by decide +kernel
theorem dX10_pages_1 : decode cX10_pages 1 = .ok (.ifCond .lt 9, 3) := by decide +kernel
theorem dX10_pages_4 : decode cX10_pages 4 = .ok (.iload_n 1, 1) := by decide +kernel
theorem dX10_pages_5 : decode cX10_pages 5 = .ok (.bipush 60, 2) := by decide +kernel
theorem dX10_pages_7 : decode cX10_pages 7 = .ok (.if_icmp .le 5, 3) := by decide +kernel
theorem dX10_pages_10 : decode cX10_pages 10 = .ok (.iconst (-1), 1) := by decide +kernel
theorem dX10_pages_11 : decode cX10_pages 11 = .ok (.ireturn, 1) := by decide +kernel
theorem dX10_pages_12 : decode cX10_pages 12 = .ok (.aload_n 0, 1) := by decide +kernel
theorem dX10_pages_13 : decode cX10_pages 13 = .ok (.getfield 50, 3) := by decide +kernel
theorem dX10_pages_16 : decode cX10_pages 16 = .ok (.invokevirtual 209, 3) := by decide +kernel
theorem dX10_pages_19 : decode cX10_pages 19 = .ok (.aload_n 0, 1) := by decide +kernel
theorem dX10_pages_20 : decode cX10_pages 20 = .ok (.getfield 71, 3) := by decide +kernel
theorem dX10_pages_23 : decode cX10_pages 23 = .ok (.iload_n 1, 1) := by decide +kernel
theorem dX10_pages_24 : decode cX10_pages 24 = .ok (.invokevirtual 352, 3) := by decide +kernel
theorem dX10_pages_27 : decode cX10_pages 27 = .ok (.iconst 1, 1) := by decide +kernel
theorem dX10_pages_28 : decode cX10_pages 28 = .ok (.istore_n 2, 1) := by decide +kernel
theorem dX10_pages_29 : decode cX10_pages 29 = .ok (.iload_n 2, 1) := by decide +kernel
theorem dX10_pages_30 : decode cX10_pages 30 = .ok (.iconst 3, 1) := by decide +kernel
theorem dX10_pages_31 : decode cX10_pages 31 = .ok (.if_icmp .gt 65, 3) := by decide +kernel
theorem dX10_pages_34 : decode cX10_pages 34 = .ok (.iload_n 2, 1) := by decide +kernel
theorem dX10_pages_35 : decode cX10_pages 35 = .ok (.iload_n 1, 1) := by decide +kernel
theorem dX10_pages_36 : decode cX10_pages 36 = .ok (.if_icmp .gt 60, 3) := by decide +kernel
theorem dX10_pages_39 : decode cX10_pages 39 = .ok (.iconst 0, 1) := by decide +kernel
theorem dX10_pages_40 : decode cX10_pages 40 = .ok (.istore_n 3, 1) := by decide +kernel
theorem dX10_pages_41 : decode cX10_pages 41 = .ok (.iload_n 3, 1) := by decide +kernel
theorem dX10_pages_42 : decode cX10_pages 42 = .ok (.iload_n 1, 1) := by decide +kernel
theorem dX10_pages_43 : decode cX10_pages 43 = .ok (.iload_n 2, 1) := by decide +kernel
theorem dX10_pages_44 : decode cX10_pages 44 = .ok (.isub, 1) := by decide +kernel
theorem dX10_pages_45 : decode cX10_pages 45 = .ok (.if_icmp .gt 45, 3) := by decide +kernel
theorem dX10_pages_48 : decode cX10_pages 48 = .ok (.aload_n 0, 1) := by decide +kernel
theorem dX10_pages_49 : decode cX10_pages 49 = .ok (.getfield 71, 3) := by decide +kernel
theorem dX10_pages_52 : decode cX10_pages 52 = .ok (.iload_n 3, 1) := by decide +kernel
theorem dX10_pages_53 : decode cX10_pages 53 = .ok (.iload_n 1, 1) := by decide +kernel
theorem dX10_pages_54 : decode cX10_pages 54 = .ok (.iload_n 2, 1) := by decide +kernel
theorem dX10_pages_55 : decode cX10_pages 55 = .ok (.isub, 1) := by decide +kernel
theorem dX10_pages_56 : decode cX10_pages 56 = .ok (.iload_n 3, 1) := by decide +kernel
theorem dX10_pages_57 : decode cX10_pages 57 = .ok (.isub, 1) := by decide +kernel
theorem dX10_pages_58 : decode cX10_pages 58 = .ok (.invokevirtual 356, 3) := by decide +kernel
theorem dX10_pages_61 : decode cX10_pages 61 = .ok (.ifCond .eq 23, 3) := by decide +kernel
theorem dX10_pages_64 : decode cX10_pages 64 = .ok (.aload_n 0, 1) := by decide +kernel
theorem dX10_pages_65 : decode cX10_pages 65 = .ok (.getfield 50, 3) := by decide +kernel
theorem dX10_pages_68 : decode cX10_pages 68 = .ok (.iload_n 2, 1) := by decide +kernel
theorem dX10_pages_69 : decode cX10_pages 69 = .ok (.i2l, 1) := by decide +kernel
theorem dX10_pages_70 : decode cX10_pages 70 = .ok (.invokevirtual 212, 3) := by decide +kernel
theorem dX10_pages_73 : decode cX10_pages 73 = .ok (.aload_n 0, 1) := by decide +kernel
theorem dX10_pages_74 : decode cX10_pages 74 = .ok (.getfield 50, 3) := by decide +kernel
theorem dX10_pages_77 : decode cX10_pages 77 = .ok (.iload_n 3, 1) := by decide +kernel
theorem dX10_pages_78 : decode cX10_pages 78 = .ok (.i2l, 1) := by decide +kernel
theorem dX10_pages_79 : decode cX10_pages 79 = .ok (.invokevirtual 212, 3) := by decide +kernel
theorem dX10_pages_82 : decode cX10_pages 82 = .ok (.iconst 1, 1) := by decide +kernel
theorem dX10_pages_83 : decode cX10_pages 83 = .ok (.ireturn, 1) := by decide +kernel
theorem dX10_pages_84 : decode cX10_pages 84 = .ok (.iinc 3 1, 3) := by decide +kernel
theorem dX10_pages_87 : decode cX10_pages 87 = .ok (.goto (-46), 3) := by decide +kernel
theorem dX10_pages_90 : decode cX10_pages 90 = .ok (.iinc 2 1, 3) := by decide +kernel
theorem dX10_pages_93 : decode cX10_pages 93 = .ok (.goto (-64), 3) := by decide +kernel
theorem dX10_pages_96 : decode cX10_pages 96 = .ok (.iconst 0, 1) := by decide +kernel
theorem dX10_pages_97 : decode cX10_pages 97 = .ok (.ireturn, 1) := by decide +kernel
def fX10_pages_L41 (k64 : AH → Nat → Int32 → Int32 → Option (Int32 × AH)) (k90 : AH → Nat → Int32 → Int32 → Option (Int32 × AH)) : Nat → AH → Nat → Int32 → Int32 → Int32 → Option (Int32 × AH)
  | 0, _, _, _, _, _ => none
  | n + 1, h, v0, v1, v2, v3 =>
    if (v1 - v2) < v3 then (
      k90 h v0 v1 v2
    ) else (
      (gR h 10 v0 11).bind fun x1 =>
      (fX3_isLost h x1 v3 ((v1 - v2) - v3)).bind fun q2 =>
      if q2 = true then (
        k64 h v0 v2 v3
      ) else (
        letF (v3 + 1 : Int32) fun x3 =>
        fX10_pages_L41 k64 k90 n h v0 v1 v2 x3
      )
    )
def fX10_pages_L29 (k64 : AH → Nat → Int32 → Int32 → Option (Int32 × AH)) : Nat → AH → Nat → Int32 → Int32 → Option (Int32 × AH)
  | 0, _, _, _, _ => none
  | n + 1, h, v0, v1, v2 =>
    if 3 < v2 then (
      some ((0, h))
    ) else (
      if v1 < v2 then (
        some ((0, h))
      ) else (
        fX10_pages_L41 k64
          (fun h7 x4 x5 x6 =>
            letF (x6 + 1 : Int32) fun x8 =>
            fX10_pages_L29 k64 n h7 x4 x5 x8)
          FU h v0 v1 v2 0
      )
    )
def fX10_pages (h : AH) (a0 : Nat) (a1 : Int32) : Option (Int32 × AH) :=
  if hasC h 10 a0 = true then (
    if a1 < 0 then (
      some (((-1), h))
    ) else (
      if a1 ≤ 60 then (
        (gR h 10 a0 8).bind fun x9 =>
        (fX5_clear h x9).bind fun q10 =>
        (gR q10 10 a0 11).bind fun x11 =>
        (fX3_weigh q10 x11 a1).bind fun q12 =>
        fX10_pages_L29
          (fun h16 x13 x14 x15 =>
            (gR h16 10 x13 8).bind fun x17 =>
            (fX5_add h16 x17 (Int32.toInt64 x14)).bind fun q18 =>
            (gR q18 10 x13 8).bind fun x19 =>
            (fX5_add q18 x19 (Int32.toInt64 x15)).bind fun q20 =>
            some ((1, q20)))
          FU q12 a0 a1 1
      ) else (
        some (((-1), h))
      )
    )
  ) else none
set_option maxHeartbeats 4000000 in
theorem gX10_pages_L41 {Y : YT} {X : XT} (C : CT Y X RX10 cX10_pages 4) (O : RO X 5 0 0) {r : Int32 × AH} (E : RX Y X (some .int) (some (.int r.1)) r.2 0 0) {k64 : AH → Nat → Int32 → Int32 → Option (Int32 × AH)} (hk64 : ∀ (h : AH) (v0 : Nat) (v2 : Int32) (v3 : Int32), GO Y X 4 r h 0 0 64 [(0, .ref v0), (2, .int v2), (3, .int v3)] [] (k64 h v0 v2 v3)) {k90 : AH → Nat → Int32 → Int32 → Option (Int32 × AH)} (hk90 : ∀ (h : AH) (v0 : Nat) (v1 : Int32) (v2 : Int32), GO Y X 4 r h 0 0 90 [(0, .ref v0), (1, .int v1), (2, .int v2)] [] (k90 h v0 v1 v2)) : ∀ (n : Nat) (h : AH) (v0 : Nat) (v1 : Int32) (v2 : Int32) (v3 : Int32), GO Y X 4 r h 0 0 41 [(0, .ref v0), (1, .int v1), (2, .int v2), (3, .int v3)] [] (fX10_pages_L41 k64 k90 n h v0 v1 v2 v3) := by
  intro n
  induction n with
  | zero => intros; exact go_none _ _ _
  | succ n ih =>
    intro h v0 v1 v2 v3
    rw [fX10_pages_L41]
    refine go_iload_n (pc := 41) C 3 dX10_pages_41 rfl ?_
    refine go_iload_n (pc := 42) C 1 dX10_pages_42 rfl ?_
    refine go_iload_n (pc := 43) C 2 dX10_pages_43 rfl ?_
    refine go_isub (pc := 44) C dX10_pages_44 ?_
    refine go_icmp_gt (pc := 45) C 90 dX10_pages_45 (by decide) (fun _ => ?_) (fun _ => ?_)
    · refine go_sub (ls' := [(0, .ref v0), (1, .int v1), (2, .int v2)]) [0, 1, 2] rfl ?_
      exact hk90 h v0 v1 v2
    · refine go_aload_n (pc := 48) C 0 dX10_pages_48 rfl ?_
      refine go_gR (pc := 49) C fdX10_71 dX10_pages_49 (fun x1 => ?_)
      refine go_iload_n (pc := 52) C 3 dX10_pages_52 rfl ?_
      refine go_iload_n (pc := 53) C 1 dX10_pages_53 rfl ?_
      refine go_iload_n (pc := 54) C 2 dX10_pages_54 rfl ?_
      refine go_isub (pc := 55) C dX10_pages_55 ?_
      refine go_iload_n (pc := 56) C 3 dX10_pages_56 rfl ?_
      refine go_isub (pc := 57) C dX10_pages_57 ?_
      refine go_bind (fun q2 hq2 => ?_)
      refine go_callV (rest := []) (st' := [.int (b2i q2)]) (c' := 0) (s' := 0) (pc := 58) C O miX10_356 mvX3_isLost [.int v3, .int ((v1 - v2) - v3)] rfl (mX3_isLost hq2).1 (mX3_isLost hq2).2 dX10_pages_58 ⟨by decide, by decide, by decide, by decide⟩ rfl (Nat.le_of_ble_eq_true rfl) rfl ⟨rfl, rfl⟩ ?_
      refine go_ifZ_eq (pc := 61) C 84 dX10_pages_61 (by decide) (fun _ => ?_) (fun _ => ?_)
      · refine go_sub (ls' := [(0, .ref v0), (2, .int v2), (3, .int v3)]) [0, 2, 3] rfl ?_
        exact hk64 h v0 v2 v3
      · refine go_iincL (pc := 84) C 3 dX10_pages_84 rfl ki_1 (by decide) (fun x3 => [(3, .int x3), (0, .ref v0), (1, .int v1), (2, .int v2)]) (fun _ => rfl) (fun x3 => ?_)
        refine go_goto (pc := 87) C 41 dX10_pages_87 (by decide) ?_
        refine go_sub (ls' := [(0, .ref v0), (1, .int v1), (2, .int v2), (3, .int x3)]) [1, 2, 3, 0] rfl ?_
        exact ih h v0 v1 v2 x3
set_option maxHeartbeats 4000000 in
theorem gX10_pages_L29 {Y : YT} {X : XT} (C : CT Y X RX10 cX10_pages 4) (O : RO X 5 0 0) {r : Int32 × AH} (E : RX Y X (some .int) (some (.int r.1)) r.2 0 0) {k64 : AH → Nat → Int32 → Int32 → Option (Int32 × AH)} (hk64 : ∀ (h : AH) (v0 : Nat) (v2 : Int32) (v3 : Int32), GO Y X 4 r h 0 0 64 [(0, .ref v0), (2, .int v2), (3, .int v3)] [] (k64 h v0 v2 v3)) : ∀ (n : Nat) (h : AH) (v0 : Nat) (v1 : Int32) (v2 : Int32), GO Y X 4 r h 0 0 29 [(0, .ref v0), (1, .int v1), (2, .int v2)] [] (fX10_pages_L29 k64 n h v0 v1 v2) := by
  intro n
  induction n with
  | zero => intros; exact go_none _ _ _
  | succ n ih =>
    intro h v0 v1 v2
    rw [fX10_pages_L29]
    refine go_iload_n (pc := 29) C 2 dX10_pages_29 rfl ?_
    refine go_iconst (pc := 30) C dX10_pages_30 ki_3 ?_
    refine go_icmp_gt (pc := 31) C 96 dX10_pages_31 (by decide) (fun _ => ?_) (fun _ => ?_)
    · refine go_iconst (pc := 96) C dX10_pages_96 ki_0 ?_
      exact go_iret (w := wIh) (pc := 97) C E ((0, h)) 0 dX10_pages_97 rfl
    · refine go_iload_n (pc := 34) C 2 dX10_pages_34 rfl ?_
      refine go_iload_n (pc := 35) C 1 dX10_pages_35 rfl ?_
      refine go_icmp_gt (pc := 36) C 96 dX10_pages_36 (by decide) (fun _ => ?_) (fun _ => ?_)
      · refine go_iconst (pc := 96) C dX10_pages_96 ki_0 ?_
        exact go_iret (w := wIh) (pc := 97) C E ((0, h)) 0 dX10_pages_97 rfl
      · refine go_iconst (pc := 39) C dX10_pages_39 ki_0 ?_
        refine go_istore_n (ls' := [(3, .int 0), (0, .ref v0), (1, .int v1), (2, .int v2)]) (pc := 40) C dX10_pages_40 (by decide) rfl ?_
        refine go_sub (ls' := [(0, .ref v0), (1, .int v1), (2, .int v2), (3, .int 0)]) [1, 2, 3, 0] rfl ?_
        refine gX10_pages_L41 C O E (hk64) (fun h7 x4 x5 x6 => ?_) FU h v0 v1 v2 0
        · refine go_iincL (pc := 90) C 2 dX10_pages_90 rfl ki_1 (by decide) (fun x8 => [(2, .int x8), (0, .ref x4), (1, .int x5)]) (fun _ => rfl) (fun x8 => ?_)
          refine go_goto (pc := 93) C 29 dX10_pages_93 (by decide) ?_
          refine go_sub (ls' := [(0, .ref x4), (1, .int x5), (2, .int x8)]) [1, 2, 0] rfl ?_
          exact ih h7 x4 x5 x8
set_option maxHeartbeats 4000000 in
theorem mX10_pages {h : AH} {a0 : Nat} {a1 : Int32} {r : Int32 × AH} (hr : fX10_pages h a0 a1 = some r) : hasC h 10 a0 = true ∧ MC yX10_pages cX10_pages 4 (some .int) 5 0 0 [.ref a0, .int a1] h (some (.int r.1)) r.2 := by
  unfold fX10_pages at hr
  obtain ⟨hc, hr⟩ := if_some hr
  refine ⟨hc, mc_of (l0 := [(0, .ref a0), (1, .int a1)]) rfl pn_X10 (Nat.le_of_ble_eq_true rfl) (fun Y X C E O hnm => go_run hr ?_)⟩
  have C : CT Y X RX10 cX10_pages 4 := C
  refine go_iload_n (pc := 0) C 1 dX10_pages_0 rfl ?_
  refine go_if_lt (pc := 1) C 10 dX10_pages_1 (by decide) (fun _ => ?_) (fun _ => ?_)
  · refine go_iconst (pc := 10) C dX10_pages_10 ki_m1 ?_
    exact go_iret (w := wIh) (pc := 11) C E (((-1), h)) ((-1)) dX10_pages_11 rfl
  · refine go_iload_n (pc := 4) C 1 dX10_pages_4 rfl ?_
    refine go_bipush (pc := 5) C dX10_pages_5 kb_60 ?_
    refine go_icmp_le (pc := 7) C 12 dX10_pages_7 (by decide) (fun _ => ?_) (fun _ => ?_)
    · refine go_aload_n (pc := 12) C 0 dX10_pages_12 rfl ?_
      refine go_gR (pc := 13) C fdX10_50 dX10_pages_13 (fun x9 => ?_)
      refine go_bind (fun q10 hq10 => ?_)
      refine go_callV (rest := []) (st' := []) (c' := 0) (s' := 0) (pc := 16) C O miX10_209 mvX5_clear [] rfl (mX5_clear hq10).1 (mX5_clear hq10).2 dX10_pages_16 ⟨by decide, by decide, by decide, by decide⟩ rfl (Nat.le_of_ble_eq_true rfl) rfl ⟨rfl, rfl⟩ ?_
      refine go_aload_n (pc := 19) C 0 dX10_pages_19 rfl ?_
      refine go_gR (pc := 20) C fdX10_71 dX10_pages_20 (fun x11 => ?_)
      refine go_iload_n (pc := 23) C 1 dX10_pages_23 rfl ?_
      refine go_bind (fun q12 hq12 => ?_)
      refine go_callV (rest := []) (st' := []) (c' := 0) (s' := 0) (pc := 24) C O miX10_352 mvX3_weigh [.int a1] rfl (mX3_weigh hq12).1 (mX3_weigh hq12).2 dX10_pages_24 ⟨by decide, by decide, by decide, by decide⟩ rfl (Nat.le_of_ble_eq_true rfl) rfl ⟨rfl, rfl⟩ ?_
      refine go_iconst (pc := 27) C dX10_pages_27 ki_1 ?_
      refine go_istore_n (ls' := [(2, .int 1), (0, .ref a0), (1, .int a1)]) (pc := 28) C dX10_pages_28 (by decide) rfl ?_
      refine go_sub (ls' := [(0, .ref a0), (1, .int a1), (2, .int 1)]) [1, 2, 0] rfl ?_
      refine gX10_pages_L29 C O E (fun h16 x13 x14 x15 => ?_) FU q12 a0 a1 1
      · refine go_aload_n (pc := 64) C 0 dX10_pages_64 rfl ?_
        refine go_gR (pc := 65) C fdX10_50 dX10_pages_65 (fun x17 => ?_)
        refine go_iload_n (pc := 68) C 1 dX10_pages_68 rfl ?_
        refine go_i2l (pc := 69) C dX10_pages_69 ?_
        refine go_bind (fun q18 hq18 => ?_)
        refine go_callV (rest := []) (st' := []) (c' := 0) (s' := 0) (pc := 70) C O miX10_212 mvX5_add [.long (Int32.toInt64 x14)] rfl (mX5_add hq18).1 (mX5_add hq18).2 dX10_pages_70 ⟨by decide, by decide, by decide, by decide⟩ rfl (Nat.le_of_ble_eq_true rfl) rfl ⟨rfl, rfl⟩ ?_
        refine go_aload_n (pc := 73) C 0 dX10_pages_73 rfl ?_
        refine go_gR (pc := 74) C fdX10_50 dX10_pages_74 (fun x19 => ?_)
        refine go_iload_n (pc := 77) C 2 dX10_pages_77 rfl ?_
        refine go_i2l (pc := 78) C dX10_pages_78 ?_
        refine go_bind (fun q20 hq20 => ?_)
        refine go_callV (rest := []) (st' := []) (c' := 0) (s' := 0) (pc := 79) C O miX10_212 mvX5_add [.long (Int32.toInt64 x15)] rfl (mX5_add hq20).1 (mX5_add hq20).2 dX10_pages_79 ⟨by decide, by decide, by decide, by decide⟩ rfl (Nat.le_of_ble_eq_true rfl) rfl ⟨rfl, rfl⟩ ?_
        refine go_iconst (pc := 82) C dX10_pages_82 ki_1 ?_
        exact go_iret (w := wIh) (pc := 83) C E ((1, q20)) 1 dX10_pages_83 rfl
    · refine go_iconst (pc := 10) C dX10_pages_10 ki_m1 ?_
      exact go_iret (w := wIh) (pc := 11) C E (((-1), h)) ((-1)) dX10_pages_11 rfl
theorem dX10_rests_0 : decode cX10_rests 0 = .ok (.iload_n 1, 1) := by decide +kernel
theorem dX10_rests_1 : decode cX10_rests 1 = .ok (.ifCond .lt 9, 3) := by decide +kernel
theorem dX10_rests_4 : decode cX10_rests 4 = .ok (.iload_n 1, 1) := by decide +kernel
theorem dX10_rests_5 : decode cX10_rests 5 = .ok (.bipush 20, 2) := by decide +kernel
theorem dX10_rests_7 : decode cX10_rests 7 = .ok (.if_icmp .le 5, 3) := by decide +kernel
theorem dX10_rests_10 : decode cX10_rests 10 = .ok (.iconst (-1), 1) := by decide +kernel
theorem dX10_rests_11 : decode cX10_rests 11 = .ok (.ireturn, 1) := by decide +kernel
theorem dX10_rests_12 : decode cX10_rests 12 = .ok (.iconst 0, 1) := by decide +kernel
theorem dX10_rests_13 : decode cX10_rests 13 = .ok (.istore_n 2, 1) := by decide +kernel
theorem dX10_rests_14 : decode cX10_rests 14 = .ok (.aload_n 0, 1) := by decide +kernel
theorem dX10_rests_15 : decode cX10_rests 15 = .ok (.getfield 50, 3) := by decide +kernel
theorem dX10_rests_18 : decode cX10_rests 18 = .ok (.invokevirtual 209, 3) := by decide +kernel
theorem dX10_rests_21 : decode cX10_rests 21 = .ok (.iconst 0, 1) := by decide +kernel
theorem dX10_rests_22 : decode cX10_rests 22 = .ok (.istore_n 3, 1) := by decide +kernel
theorem dX10_rests_23 : decode cX10_rests 23 = .ok (.iload_n 3, 1) := by decide +kernel
theorem dX10_rests_24 : decode cX10_rests 24 = .ok (.bipush 9, 2) := by decide +kernel
theorem dX10_rests_26 : decode cX10_rests 26 = .ok (.if_icmp .gt 56, 3) := by decide +kernel
theorem dX10_rests_29 : decode cX10_rests 29 = .ok (.iconst 0, 1) := by decide +kernel
theorem dX10_rests_30 : decode cX10_rests 30 = .ok (.istore 4, 2) := by decide +kernel
theorem dX10_rests_32 : decode cX10_rests 32 = .ok (.iload 4, 2) := by decide +kernel
theorem dX10_rests_34 : decode cX10_rests 34 = .ok (.bipush 9, 2) := by decide +kernel
theorem dX10_rests_36 : decode cX10_rests 36 = .ok (.if_icmp .gt 40, 3) := by decide +kernel
theorem dX10_rests_39 : decode cX10_rests 39 = .ok (.iload_n 1, 1) := by decide +kernel
theorem dX10_rests_40 : decode cX10_rests 40 = .ok (.iload_n 3, 1) := by decide +kernel
theorem dX10_rests_41 : decode cX10_rests 41 = .ok (.iload 4, 2) := by decide +kernel
theorem dX10_rests_43 : decode cX10_rests 43 = .ok (.invokestatic 361, 3) := by decide +kernel
theorem dX10_rests_46 : decode cX10_rests 46 = .ok (.ifCond .eq 24, 3) := by decide +kernel
theorem dX10_rests_49 : decode cX10_rests 49 = .ok (.iload_n 1, 1) := by decide +kernel
theorem dX10_rests_50 : decode cX10_rests 50 = .ok (.iload 4, 2) := by decide +kernel
theorem dX10_rests_52 : decode cX10_rests 52 = .ok (.iload_n 3, 1) := by decide +kernel
theorem dX10_rests_53 : decode cX10_rests 53 = .ok (.invokestatic 361, 3) := by decide +kernel
theorem dX10_rests_56 : decode cX10_rests 56 = .ok (.ifCond .eq 14, 3) := by decide +kernel
theorem dX10_rests_59 : decode cX10_rests 59 = .ok (.aload_n 0, 1) := by decide +kernel
theorem dX10_rests_60 : decode cX10_rests 60 = .ok (.iload_n 2, 1) := by decide +kernel
theorem dX10_rests_61 : decode cX10_rests 61 = .ok (.iload_n 3, 1) := by decide +kernel
theorem dX10_rests_62 : decode cX10_rests 62 = .ok (.iload 4, 2) := by decide +kernel
theorem dX10_rests_64 : decode cX10_rests 64 = .ok (.invokevirtual 280, 3) := by decide +kernel
theorem dX10_rests_67 : decode cX10_rests 67 = .ok (.iinc 2 1, 3) := by decide +kernel
theorem dX10_rests_70 : decode cX10_rests 70 = .ok (.iinc 4 1, 3) := by decide +kernel
theorem dX10_rests_73 : decode cX10_rests 73 = .ok (.goto (-41), 3) := by decide +kernel
theorem dX10_rests_76 : decode cX10_rests 76 = .ok (.iinc 3 1, 3) := by decide +kernel
theorem dX10_rests_79 : decode cX10_rests 79 = .ok (.goto (-56), 3) := by decide +kernel
theorem dX10_rests_82 : decode cX10_rests 82 = .ok (.iload_n 2, 1) := by decide +kernel
theorem dX10_rests_83 : decode cX10_rests 83 = .ok (.ireturn, 1) := by decide +kernel
def fX10_rests_L32 (k76 : AH → Nat → Int32 → Int32 → Int32 → Option (Int32 × AH)) : Nat → AH → Nat → Int32 → Int32 → Int32 → Int32 → Option (Int32 × AH)
  | 0, _, _, _, _, _, _ => none
  | n + 1, h, v0, v1, v2, v3, v4 =>
    if 9 < v4 then (
      k76 h v0 v1 v2 v3
    ) else (
      (fX4_isBest h v1 v3 v4).bind fun q1 =>
      if q1 = true then (
        (fX4_isBest h v1 v4 v3).bind fun q2 =>
        if q2 = true then (
          (fX10_tellFirst h v0 v2 v3 v4).bind fun q3 =>
          letF (v2 + 1 : Int32) fun x4 =>
          letF (v4 + 1 : Int32) fun x5 =>
          fX10_rests_L32 k76 n q3 v0 v1 x4 v3 x5
        ) else (
          letF (v4 + 1 : Int32) fun x6 =>
          fX10_rests_L32 k76 n h v0 v1 v2 v3 x6
        )
      ) else (
        letF (v4 + 1 : Int32) fun x7 =>
        fX10_rests_L32 k76 n h v0 v1 v2 v3 x7
      )
    )
def fX10_rests_L23 : Nat → AH → Nat → Int32 → Int32 → Int32 → Option (Int32 × AH)
  | 0, _, _, _, _, _ => none
  | n + 1, h, v0, v1, v2, v3 =>
    if 9 < v3 then (
      some ((v2, h))
    ) else (
      fX10_rests_L32
        (fun h12 x8 x9 x10 x11 =>
          letF (x11 + 1 : Int32) fun x13 =>
          fX10_rests_L23 n h12 x8 x9 x10 x13)
        FU h v0 v1 v2 v3 0
    )
def fX10_rests (h : AH) (a0 : Nat) (a1 : Int32) : Option (Int32 × AH) :=
  if hasC h 10 a0 = true then (
    if a1 < 0 then (
      some (((-1), h))
    ) else (
      if a1 ≤ 20 then (
        (gR h 10 a0 8).bind fun x14 =>
        (fX5_clear h x14).bind fun q15 =>
        fX10_rests_L23 FU q15 a0 a1 0 0
      ) else (
        some (((-1), h))
      )
    )
  ) else none
set_option maxHeartbeats 4000000 in
theorem gX10_rests_L32 {Y : YT} {X : XT} (C : CT Y X RX10 cX10_rests 5) (O : RO X 3 0 0) {r : Int32 × AH} (E : RX Y X (some .int) (some (.int r.1)) r.2 0 0) {k76 : AH → Nat → Int32 → Int32 → Int32 → Option (Int32 × AH)} (hk76 : ∀ (h : AH) (v0 : Nat) (v1 : Int32) (v2 : Int32) (v3 : Int32), GO Y X 5 r h 0 0 76 [(0, .ref v0), (1, .int v1), (2, .int v2), (3, .int v3)] [] (k76 h v0 v1 v2 v3)) : ∀ (n : Nat) (h : AH) (v0 : Nat) (v1 : Int32) (v2 : Int32) (v3 : Int32) (v4 : Int32), GO Y X 5 r h 0 0 32 [(0, .ref v0), (1, .int v1), (2, .int v2), (3, .int v3), (4, .int v4)] [] (fX10_rests_L32 k76 n h v0 v1 v2 v3 v4) := by
  intro n
  induction n with
  | zero => intros; exact go_none _ _ _
  | succ n ih =>
    intro h v0 v1 v2 v3 v4
    rw [fX10_rests_L32]
    refine go_iload (pc := 32) C 4 dX10_rests_32 rfl ?_
    refine go_bipush (pc := 34) C dX10_rests_34 kb_9 ?_
    refine go_icmp_gt (pc := 36) C 76 dX10_rests_36 (by decide) (fun _ => ?_) (fun _ => ?_)
    · refine go_sub (ls' := [(0, .ref v0), (1, .int v1), (2, .int v2), (3, .int v3)]) [0, 1, 2, 3] rfl ?_
      exact hk76 h v0 v1 v2 v3
    · refine go_iload_n (pc := 39) C 1 dX10_rests_39 rfl ?_
      refine go_iload_n (pc := 40) C 3 dX10_rests_40 rfl ?_
      refine go_iload (pc := 41) C 4 dX10_rests_41 rfl ?_
      refine go_bind (fun q1 hq1 => ?_)
      refine go_callS (rest := []) (st' := [.int (b2i q1)]) (c' := 0) (s' := 0) (pc := 43) C O miX10_361 w_1114 [.int v1, .int v3, .int v4] rfl (mX4_isBest hq1) dX10_rests_43 ⟨by decide, by decide, by decide, by decide⟩ rfl (Nat.le_of_ble_eq_true rfl) rfl ⟨rfl, rfl⟩ ?_
      refine go_ifZ_eq (pc := 46) C 70 dX10_rests_46 (by decide) (fun _ => ?_) (fun _ => ?_)
      · refine go_iload_n (pc := 49) C 1 dX10_rests_49 rfl ?_
        refine go_iload (pc := 50) C 4 dX10_rests_50 rfl ?_
        refine go_iload_n (pc := 52) C 3 dX10_rests_52 rfl ?_
        refine go_bind (fun q2 hq2 => ?_)
        refine go_callS (rest := []) (st' := [.int (b2i q2)]) (c' := 0) (s' := 0) (pc := 53) C O miX10_361 w_1114 [.int v1, .int v4, .int v3] rfl (mX4_isBest hq2) dX10_rests_53 ⟨by decide, by decide, by decide, by decide⟩ rfl (Nat.le_of_ble_eq_true rfl) rfl ⟨rfl, rfl⟩ ?_
        refine go_ifZ_eq (pc := 56) C 70 dX10_rests_56 (by decide) (fun _ => ?_) (fun _ => ?_)
        · refine go_aload_n (pc := 59) C 0 dX10_rests_59 rfl ?_
          refine go_iload_n (pc := 60) C 2 dX10_rests_60 rfl ?_
          refine go_iload_n (pc := 61) C 3 dX10_rests_61 rfl ?_
          refine go_iload (pc := 62) C 4 dX10_rests_62 rfl ?_
          refine go_bind (fun q3 hq3 => ?_)
          refine go_callV (rest := []) (st' := []) (c' := 0) (s' := 0) (pc := 64) C O miX10_280 mvX10_tellFirst [.int v2, .int v3, .int v4] rfl (mX10_tellFirst hq3).1 (mX10_tellFirst hq3).2 dX10_rests_64 ⟨by decide, by decide, by decide, by decide⟩ rfl (Nat.le_of_ble_eq_true rfl) rfl ⟨rfl, rfl⟩ ?_
          refine go_iincL (pc := 67) C 2 dX10_rests_67 rfl ki_1 (by decide) (fun x4 => [(2, .int x4), (0, .ref v0), (1, .int v1), (3, .int v3), (4, .int v4)]) (fun _ => rfl) (fun x4 => ?_)
          refine go_iincL (pc := 70) C 4 dX10_rests_70 rfl ki_1 (by decide) (fun x5 => [(4, .int x5), (2, .int x4), (0, .ref v0), (1, .int v1), (3, .int v3)]) (fun _ => rfl) (fun x5 => ?_)
          refine go_goto (pc := 73) C 32 dX10_rests_73 (by decide) ?_
          refine go_sub (ls' := [(0, .ref v0), (1, .int v1), (2, .int x4), (3, .int v3), (4, .int x5)]) [2, 3, 1, 4, 0] rfl ?_
          exact ih q3 v0 v1 x4 v3 x5
        · refine go_iincL (pc := 70) C 4 dX10_rests_70 rfl ki_1 (by decide) (fun x6 => [(4, .int x6), (0, .ref v0), (1, .int v1), (2, .int v2), (3, .int v3)]) (fun _ => rfl) (fun x6 => ?_)
          refine go_goto (pc := 73) C 32 dX10_rests_73 (by decide) ?_
          refine go_sub (ls' := [(0, .ref v0), (1, .int v1), (2, .int v2), (3, .int v3), (4, .int x6)]) [1, 2, 3, 4, 0] rfl ?_
          exact ih h v0 v1 v2 v3 x6
      · refine go_iincL (pc := 70) C 4 dX10_rests_70 rfl ki_1 (by decide) (fun x7 => [(4, .int x7), (0, .ref v0), (1, .int v1), (2, .int v2), (3, .int v3)]) (fun _ => rfl) (fun x7 => ?_)
        refine go_goto (pc := 73) C 32 dX10_rests_73 (by decide) ?_
        refine go_sub (ls' := [(0, .ref v0), (1, .int v1), (2, .int v2), (3, .int v3), (4, .int x7)]) [1, 2, 3, 4, 0] rfl ?_
        exact ih h v0 v1 v2 v3 x7
set_option maxHeartbeats 4000000 in
theorem gX10_rests_L23 {Y : YT} {X : XT} (C : CT Y X RX10 cX10_rests 5) (O : RO X 3 0 0) {r : Int32 × AH} (E : RX Y X (some .int) (some (.int r.1)) r.2 0 0) : ∀ (n : Nat) (h : AH) (v0 : Nat) (v1 : Int32) (v2 : Int32) (v3 : Int32), GO Y X 5 r h 0 0 23 [(0, .ref v0), (1, .int v1), (2, .int v2), (3, .int v3)] [] (fX10_rests_L23 n h v0 v1 v2 v3) := by
  intro n
  induction n with
  | zero => intros; exact go_none _ _ _
  | succ n ih =>
    intro h v0 v1 v2 v3
    rw [fX10_rests_L23]
    refine go_iload_n (pc := 23) C 3 dX10_rests_23 rfl ?_
    refine go_bipush (pc := 24) C dX10_rests_24 kb_9 ?_
    refine go_icmp_gt (pc := 26) C 82 dX10_rests_26 (by decide) (fun _ => ?_) (fun _ => ?_)
    · refine go_iload_n (pc := 82) C 2 dX10_rests_82 rfl ?_
      exact go_iret (w := wIh) (pc := 83) C E ((v2, h)) v2 dX10_rests_83 rfl
    · refine go_iconst (pc := 29) C dX10_rests_29 ki_0 ?_
      refine go_istore (ls' := [(4, .int 0), (0, .ref v0), (1, .int v1), (2, .int v2), (3, .int v3)]) (pc := 30) C dX10_rests_30 (by decide) rfl ?_
      refine go_sub (ls' := [(0, .ref v0), (1, .int v1), (2, .int v2), (3, .int v3), (4, .int 0)]) [1, 2, 3, 4, 0] rfl ?_
      refine gX10_rests_L32 C O E (fun h12 x8 x9 x10 x11 => ?_) FU h v0 v1 v2 v3 0
      · refine go_iincL (pc := 76) C 3 dX10_rests_76 rfl ki_1 (by decide) (fun x13 => [(3, .int x13), (0, .ref x8), (1, .int x9), (2, .int x10)]) (fun _ => rfl) (fun x13 => ?_)
        refine go_goto (pc := 79) C 23 dX10_rests_79 (by decide) ?_
        refine go_sub (ls' := [(0, .ref x8), (1, .int x9), (2, .int x10), (3, .int x13)]) [1, 2, 3, 0] rfl ?_
        exact ih h12 x8 x9 x10 x13
set_option maxHeartbeats 4000000 in
theorem mX10_rests {h : AH} {a0 : Nat} {a1 : Int32} {r : Int32 × AH} (hr : fX10_rests h a0 a1 = some r) : hasC h 10 a0 = true ∧ MC yX10_rests cX10_rests 5 (some .int) 3 0 0 [.ref a0, .int a1] h (some (.int r.1)) r.2 := by
  unfold fX10_rests at hr
  obtain ⟨hc, hr⟩ := if_some hr
  refine ⟨hc, mc_of (l0 := [(0, .ref a0), (1, .int a1)]) rfl pn_X10 (Nat.le_of_ble_eq_true rfl) (fun Y X C E O hnm => go_run hr ?_)⟩
  have C : CT Y X RX10 cX10_rests 5 := C
  refine go_iload_n (pc := 0) C 1 dX10_rests_0 rfl ?_
  refine go_if_lt (pc := 1) C 10 dX10_rests_1 (by decide) (fun _ => ?_) (fun _ => ?_)
  · refine go_iconst (pc := 10) C dX10_rests_10 ki_m1 ?_
    exact go_iret (w := wIh) (pc := 11) C E (((-1), h)) ((-1)) dX10_rests_11 rfl
  · refine go_iload_n (pc := 4) C 1 dX10_rests_4 rfl ?_
    refine go_bipush (pc := 5) C dX10_rests_5 kb_20 ?_
    refine go_icmp_le (pc := 7) C 12 dX10_rests_7 (by decide) (fun _ => ?_) (fun _ => ?_)
    · refine go_iconst (pc := 12) C dX10_rests_12 ki_0 ?_
      refine go_istore_n (ls' := [(2, .int 0), (0, .ref a0), (1, .int a1)]) (pc := 13) C dX10_rests_13 (by decide) rfl ?_
      refine go_aload_n (pc := 14) C 1 dX10_rests_14 rfl ?_
      refine go_gR (pc := 15) C fdX10_50 dX10_rests_15 (fun x14 => ?_)
      refine go_bind (fun q15 hq15 => ?_)
      refine go_callV (rest := []) (st' := []) (c' := 0) (s' := 0) (pc := 18) C O miX10_209 mvX5_clear [] rfl (mX5_clear hq15).1 (mX5_clear hq15).2 dX10_rests_18 ⟨by decide, by decide, by decide, by decide⟩ rfl (Nat.le_of_ble_eq_true rfl) rfl ⟨rfl, rfl⟩ ?_
      refine go_iconst (pc := 21) C dX10_rests_21 ki_0 ?_
      refine go_istore_n (ls' := [(3, .int 0), (2, .int 0), (0, .ref a0), (1, .int a1)]) (pc := 22) C dX10_rests_22 (by decide) rfl ?_
      refine go_sub (ls' := [(0, .ref a0), (1, .int a1), (2, .int 0), (3, .int 0)]) [2, 3, 1, 0] rfl ?_
      refine gX10_rests_L23 C O E FU q15 a0 a1 0 0
    · refine go_iconst (pc := 10) C dX10_rests_10 ki_m1 ?_
      exact go_iret (w := wIh) (pc := 11) C E (((-1), h)) ((-1)) dX10_rests_11 rfl
theorem dX10_tryRule_0 : decode cX10_tryRule 0 = .ok (.aload_n 0, 1) := by decide +kernel
theorem dX10_tryRule_1 : decode cX10_tryRule 1 = .ok (.getfield 20, 3) := by decide +kernel
theorem dX10_tryRule_4 : decode cX10_tryRule 4 = .ok (.aload_n 0, 1) := by decide +kernel
theorem dX10_tryRule_5 : decode cX10_tryRule 5 = .ok (.getfield 16, 3) := by decide +kernel
theorem dX10_tryRule_8 : decode cX10_tryRule 8 = .ok (.invokevirtual 286, 3) := by decide +kernel
theorem dX10_tryRule_11 : decode cX10_tryRule 11 = .ok (.iconst 0, 1) := by decide +kernel
theorem dX10_tryRule_12 : decode cX10_tryRule 12 = .ok (.istore_n 2, 1) := by decide +kernel
theorem dX10_tryRule_13 : decode cX10_tryRule 13 = .ok (.iload_n 2, 1) := by decide +kernel
theorem dX10_tryRule_14 : decode cX10_tryRule 14 = .ok (.bipush 6, 2) := by decide +kernel
theorem dX10_tryRule_16 : decode cX10_tryRule 16 = .ok (.if_icmp .ge 35, 3) := by decide +kernel
theorem dX10_tryRule_19 : decode cX10_tryRule 19 = .ok (.aload_n 0, 1) := by decide +kernel
theorem dX10_tryRule_20 : decode cX10_tryRule 20 = .ok (.getfield 20, 3) := by decide +kernel
theorem dX10_tryRule_23 : decode cX10_tryRule 23 = .ok (.iload_n 2, 1) := by decide +kernel
theorem dX10_tryRule_24 : decode cX10_tryRule 24 = .ok (.iconst 0, 1) := by decide +kernel
theorem dX10_tryRule_25 : decode cX10_tryRule 25 = .ok (.bipush 7, 2) := by decide +kernel
theorem dX10_tryRule_27 : decode cX10_tryRule 27 = .ok (.aload_n 1, 1) := by decide +kernel
theorem dX10_tryRule_28 : decode cX10_tryRule 28 = .ok (.invokevirtual 220, 3) := by decide +kernel
theorem dX10_tryRule_31 : decode cX10_tryRule 31 = .ok (.pop, 1) := by decide +kernel
theorem dX10_tryRule_32 : decode cX10_tryRule 32 = .ok (.aload_n 0, 1) := by decide +kernel
theorem dX10_tryRule_33 : decode cX10_tryRule 33 = .ok (.getfield 20, 3) := by decide +kernel
theorem dX10_tryRule_36 : decode cX10_tryRule 36 = .ok (.iload_n 2, 1) := by decide +kernel
theorem dX10_tryRule_37 : decode cX10_tryRule 37 = .ok (.iconst 1, 1) := by decide +kernel
theorem dX10_tryRule_38 : decode cX10_tryRule 38 = .ok (.bipush 7, 2) := by decide +kernel
theorem dX10_tryRule_40 : decode cX10_tryRule 40 = .ok (.aload_n 1, 1) := by decide +kernel
theorem dX10_tryRule_41 : decode cX10_tryRule 41 = .ok (.invokevirtual 220, 3) := by decide +kernel
theorem dX10_tryRule_44 : decode cX10_tryRule 44 = .ok (.pop, 1) := by decide +kernel
theorem dX10_tryRule_45 : decode cX10_tryRule 45 = .ok (.iinc 2 1, 3) := by decide +kernel
theorem dX10_tryRule_48 : decode cX10_tryRule 48 = .ok (.goto (-35), 3) := by decide +kernel
theorem dX10_tryRule_51 : decode cX10_tryRule 51 = .ok (.return_, 1) := by decide +kernel
def fX10_tryRule_L13 : Nat → AH → Nat → Nat → Int32 → Option (AH)
  | 0, _, _, _, _ => none
  | n + 1, h, v0, v1, v2 =>
    if 6 ≤ v2 then (
      some h
    ) else (
      (gR h 10 v0 3).bind fun x1 =>
      (fX9_writePage h x1 v2 0 7 v1).bind fun q2 =>
      (gR q2.2 10 v0 3).bind fun x3 =>
      (fX9_writePage q2.2 x3 v2 1 7 v1).bind fun q4 =>
      letF (v2 + 1 : Int32) fun x5 =>
      fX10_tryRule_L13 n q4.2 v0 v1 x5
    )
def fX10_tryRule (h : AH) (a0 : Nat) (a1 : Nat) : Option (AH) :=
  if hasC h 10 a0 = true then (
    (gR h 10 a0 3).bind fun x6 =>
    (gR h 10 a0 2).bind fun x7 =>
    (fX9_copyFrom h x6 x7).bind fun q8 =>
    fX10_tryRule_L13 FU q8 a0 a1 0
  ) else none
set_option maxHeartbeats 4000000 in
theorem gX10_tryRule_L13 {Y : YT} {X : XT} (C : CT Y X RX10 cX10_tryRule 3) (O : RO X 7 0 0) {r : AH} (E : RX Y X none none r 0 0) : ∀ (n : Nat) (h : AH) (v0 : Nat) (v1 : Nat) (v2 : Int32), GO Y X 3 r h 0 0 13 [(0, .ref v0), (1, .ref v1), (2, .int v2)] [] (fX10_tryRule_L13 n h v0 v1 v2) := by
  intro n
  induction n with
  | zero => intros; exact go_none _ _ _
  | succ n ih =>
    intro h v0 v1 v2
    rw [fX10_tryRule_L13]
    refine go_iload_n (pc := 13) C 2 dX10_tryRule_13 rfl ?_
    refine go_bipush (pc := 14) C dX10_tryRule_14 kb_6 ?_
    refine go_icmp_ge (pc := 16) C 51 dX10_tryRule_16 (by decide) (fun _ => ?_) (fun _ => ?_)
    · exact go_vret (w := wV) (pc := 51) C E h dX10_tryRule_51 rfl
    · refine go_aload_n (pc := 19) C 0 dX10_tryRule_19 rfl ?_
      refine go_gR (pc := 20) C fdX10_20 dX10_tryRule_20 (fun x1 => ?_)
      refine go_iload_n (pc := 23) C 2 dX10_tryRule_23 rfl ?_
      refine go_iconst (pc := 24) C dX10_tryRule_24 ki_0 ?_
      refine go_bipush (pc := 25) C dX10_tryRule_25 kb_7 ?_
      refine go_aload_n (pc := 27) C 1 dX10_tryRule_27 rfl ?_
      refine go_bind (fun q2 hq2 => ?_)
      refine go_callV (rest := []) (st' := [.int q2.1]) (c' := 0) (s' := 0) (pc := 28) C O miX10_220 mvX9_writePage [.int v2, .int 0, .int 7, .ref v1] rfl (mX9_writePage hq2).1 (mX9_writePage hq2).2 dX10_tryRule_28 ⟨by decide, by decide, by decide, by decide⟩ rfl (Nat.le_of_ble_eq_true rfl) rfl ⟨rfl, rfl⟩ ?_
      refine go_pop (pc := 31) C dX10_tryRule_31 rfl ?_
      refine go_aload_n (pc := 32) C 0 dX10_tryRule_32 rfl ?_
      refine go_gR (pc := 33) C fdX10_20 dX10_tryRule_33 (fun x3 => ?_)
      refine go_iload_n (pc := 36) C 2 dX10_tryRule_36 rfl ?_
      refine go_iconst (pc := 37) C dX10_tryRule_37 ki_1 ?_
      refine go_bipush (pc := 38) C dX10_tryRule_38 kb_7 ?_
      refine go_aload_n (pc := 40) C 1 dX10_tryRule_40 rfl ?_
      refine go_bind (fun q4 hq4 => ?_)
      refine go_callV (rest := []) (st' := [.int q4.1]) (c' := 0) (s' := 0) (pc := 41) C O miX10_220 mvX9_writePage [.int v2, .int 1, .int 7, .ref v1] rfl (mX9_writePage hq4).1 (mX9_writePage hq4).2 dX10_tryRule_41 ⟨by decide, by decide, by decide, by decide⟩ rfl (Nat.le_of_ble_eq_true rfl) rfl ⟨rfl, rfl⟩ ?_
      refine go_pop (pc := 44) C dX10_tryRule_44 rfl ?_
      refine go_iincL (pc := 45) C 2 dX10_tryRule_45 rfl ki_1 (by decide) (fun x5 => [(2, .int x5), (0, .ref v0), (1, .ref v1)]) (fun _ => rfl) (fun x5 => ?_)
      refine go_goto (pc := 48) C 13 dX10_tryRule_48 (by decide) ?_
      refine go_sub (ls' := [(0, .ref v0), (1, .ref v1), (2, .int x5)]) [1, 2, 0] rfl ?_
      exact ih q4.2 v0 v1 x5
set_option maxHeartbeats 4000000 in
theorem mX10_tryRule {h : AH} {a0 : Nat} {a1 : Nat} {r : AH} (hr : fX10_tryRule h a0 a1 = some r) : hasC h 10 a0 = true ∧ MC yX10_tryRule cX10_tryRule 3 none 7 0 0 [.ref a0, .ref a1] h none r := by
  unfold fX10_tryRule at hr
  obtain ⟨hc, hr⟩ := if_some hr
  refine ⟨hc, mc_of (l0 := [(0, .ref a0), (1, .ref a1)]) rfl pn_X10 (Nat.le_of_ble_eq_true rfl) (fun Y X C E O hnm => go_run hr ?_)⟩
  have C : CT Y X RX10 cX10_tryRule 3 := C
  refine go_aload_n (pc := 0) C 0 dX10_tryRule_0 rfl ?_
  refine go_gR (pc := 1) C fdX10_20 dX10_tryRule_1 (fun x6 => ?_)
  refine go_aload_n (pc := 4) C 0 dX10_tryRule_4 rfl ?_
  refine go_gR (pc := 5) C fdX10_16 dX10_tryRule_5 (fun x7 => ?_)
  refine go_bind (fun q8 hq8 => ?_)
  refine go_callV (rest := []) (st' := []) (c' := 0) (s' := 0) (pc := 8) C O miX10_286 mvX9_copyFrom [.ref x7] rfl (mX9_copyFrom hq8).1 (mX9_copyFrom hq8).2 dX10_tryRule_8 ⟨by decide, by decide, by decide, by decide⟩ rfl (Nat.le_of_ble_eq_true rfl) rfl ⟨rfl, rfl⟩ ?_
  refine go_iconst (pc := 11) C dX10_tryRule_11 ki_0 ?_
  refine go_istore_n (ls' := [(2, .int 0), (0, .ref a0), (1, .ref a1)]) (pc := 12) C dX10_tryRule_12 (by decide) rfl ?_
  refine go_sub (ls' := [(0, .ref a0), (1, .ref a1), (2, .int 0)]) [1, 2, 0] rfl ?_
  refine gX10_tryRule_L13 C O E FU q8 a0 a1 0
