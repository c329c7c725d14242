/-! walks, by program: X10_law X10_actDrawn X10_years X10_keep X10_again X10_count X10_row X11_clear X11_init X11_thrown X11_in X11_has X11_lost X11_tell X11_isThere X11_isSpace X11_isObject X11_isPage X11_holds X11_pagesOf X11_framesOf X11_objectsOf X11_spacesOf X11_freeObject X11_freeSpace X11_holdersOf X11_forgetCopy X11_goFree X11_lengthOf X11_objectAt X11_placeOf X11_lastOf X11_sign X11_end X11_begin X11_beginText -/
theorem dX10_law_0 : decode cX10_law 0 = .ok (.aload_n 0, 1) := by decide +kernel
theorem dX10_law_1 : decode cX10_law 1 = .ok (.getfield 43, 3) := by decide +kernel
theorem dX10_law_4 : decode cX10_law 4 = .ok (.aload_n 0, 1) := by decide +kernel
theorem dX10_law_5 : decode cX10_law 5 = .ok (.getfield 9, 3) := by decide +kernel
theorem dX10_law_8 : decode cX10_law 8 = .ok (.aload_n 0, 1) := by decide +kernel
theorem dX10_law_9 : decode cX10_law 9 = .ok (.invokevirtual 82, 3) := by decide +kernel
theorem dX10_law_12 : decode cX10_law 12 = .ok (.aload_n 0, 1) := by decide +kernel
theorem dX10_law_13 : decode cX10_law 13 = .ok (.getfield 37, 3) := by decide +kernel
theorem dX10_law_16 : decode cX10_law 16 = .ok (.invokevirtual 130, 3) := by decide +kernel
theorem dX10_law_19 : decode cX10_law 19 = .ok (.istore_n 1, 1) := by decide +kernel
theorem dX10_law_20 : decode cX10_law 20 = .ok (.iload_n 1, 1) := by decide +kernel
theorem dX10_law_21 : decode cX10_law 21 = .ok (.iconst (-1), 1) := by decide +kernel
theorem dX10_law_22 : decode cX10_law 22 = .ok (.if_icmp .eq 9, 3) := by decide +kernel
theorem dX10_law_25 : decode cX10_law 25 = .ok (.sipush (-10000), 3) := by decide +kernel
theorem dX10_law_28 : decode cX10_law 28 = .ok (.iload_n 1, 1) := by decide +kernel
theorem dX10_law_29 : decode cX10_law 29 = .ok (.isub, 1) := by decide +kernel
theorem dX10_law_30 : decode cX10_law 30 = .ok (.ireturn, 1) := by decide +kernel
theorem dX10_law_31 : decode cX10_law 31 = .ok (.aload_n 0, 1) := by decide +kernel
theorem dX10_law_32 : decode cX10_law 32 = .ok (.aload_n 0, 1) := by decide +kernel
theorem dX10_law_33 : decode cX10_law 33 = .ok (.getfield 37, 3) := by decide +kernel
theorem dX10_law_36 : decode cX10_law 36 = .ok (.invokevirtual 365, 3) := by decide +kernel
theorem dX10_law_39 : decode cX10_law 39 = .ok (.aload_n 0, 1) := by decide +kernel
theorem dX10_law_40 : decode cX10_law 40 = .ok (.getfield 20, 3) := by decide +kernel
theorem dX10_law_43 : decode cX10_law 43 = .ok (.invokevirtual 96, 3) := by decide +kernel
theorem dX10_law_46 : decode cX10_law 46 = .ok (.istore_n 2, 1) := by decide +kernel
theorem dX10_law_47 : decode cX10_law 47 = .ok (.aload_n 0, 1) := by decide +kernel
theorem dX10_law_48 : decode cX10_law 48 = .ok (.getfield 20, 3) := by decide +kernel
theorem dX10_law_51 : decode cX10_law 51 = .ok (.invokevirtual 93, 3) := by decide +kernel
theorem dX10_law_54 : decode cX10_law 54 = .ok (.istore_n 3, 1) := by decide +kernel
theorem dX10_law_55 : decode cX10_law 55 = .ok (.aload_n 0, 1) := by decide +kernel
theorem dX10_law_56 : decode cX10_law 56 = .ok (.aload_n 0, 1) := by decide +kernel
theorem dX10_law_57 : decode cX10_law 57 = .ok (.getfield 33, 3) := by decide +kernel
theorem dX10_law_60 : decode cX10_law 60 = .ok (.invokevirtual 365, 3) := by decide +kernel
theorem dX10_law_63 : decode cX10_law 63 = .ok (.aload_n 0, 1) := by decide +kernel
theorem dX10_law_64 : decode cX10_law 64 = .ok (.getfield 50, 3) := by decide +kernel
theorem dX10_law_67 : decode cX10_law 67 = .ok (.invokevirtual 209, 3) := by decide +kernel
theorem dX10_law_70 : decode cX10_law 70 = .ok (.aload_n 0, 1) := by decide +kernel
theorem dX10_law_71 : decode cX10_law 71 = .ok (.getfield 50, 3) := by decide +kernel
theorem dX10_law_74 : decode cX10_law 74 = .ok (.iload_n 2, 1) := by decide +kernel
theorem dX10_law_75 : decode cX10_law 75 = .ok (.i2l, 1) := by decide +kernel
theorem dX10_law_76 : decode cX10_law 76 = .ok (.invokevirtual 212, 3) := by decide +kernel
theorem dX10_law_79 : decode cX10_law 79 = .ok (.aload_n 0, 1) := by decide +kernel
theorem dX10_law_80 : decode cX10_law 80 = .ok (.getfield 50, 3) := by decide +kernel
theorem dX10_law_83 : decode cX10_law 83 = .ok (.aload_n 0, 1) := by decide +kernel
theorem dX10_law_84 : decode cX10_law 84 = .ok (.getfield 20, 3) := by decide +kernel
theorem dX10_law_87 : decode cX10_law 87 = .ok (.invokevirtual 96, 3) := by decide +kernel
theorem dX10_law_90 : decode cX10_law 90 = .ok (.i2l, 1) := by decide +kernel
theorem dX10_law_91 : decode cX10_law 91 = .ok (.invokevirtual 212, 3) := by decide +kernel
theorem dX10_law_94 : decode cX10_law 94 = .ok (.aload_n 0, 1) := by decide +kernel
theorem dX10_law_95 : decode cX10_law 95 = .ok (.getfield 50, 3) := by decide +kernel
theorem dX10_law_98 : decode cX10_law 98 = .ok (.iload_n 3, 1) := by decide +kernel
theorem dX10_law_99 : decode cX10_law 99 = .ok (.i2l, 1) := by decide +kernel
theorem dX10_law_100 : decode cX10_law 100 = .ok (.invokevirtual 212, 3) := by decide +kernel
theorem dX10_law_103 : decode cX10_law 103 = .ok (.aload_n 0, 1) := by decide +kernel
theorem dX10_law_104 : decode cX10_law 104 = .ok (.getfield 50, 3) := by decide +kernel
theorem dX10_law_107 : decode cX10_law 107 = .ok (.aload_n 0, 1) := by decide +kernel
theorem dX10_law_108 : decode cX10_law 108 = .ok (.getfield 20, 3) := by decide +kernel
theorem dX10_law_111 : decode cX10_law 111 = .ok (.invokevirtual 93, 3) := by decide +kernel
theorem dX10_law_114 : decode cX10_law 114 = .ok (.i2l, 1) := by decide +kernel
theorem dX10_law_115 : decode cX10_law 115 = .ok (.invokevirtual 212, 3) := by decide +kernel
theorem dX10_law_118 : decode cX10_law 118 = .ok (.iload_n 2, 1) := by decide +kernel
theorem dX10_law_119 : decode cX10_law 119 = .ok (.aload_n 0, 1) := by decide +kernel
theorem dX10_law_120 : decode cX10_law 120 = .ok (.getfield 20, 3) := by decide +kernel
theorem dX10_law_123 : decode cX10_law 123 = .ok (.invokevirtual 96, 3) := by decide +kernel
theorem dX10_law_126 : decode cX10_law 126 = .ok (.isub, 1) := by decide +kernel
theorem dX10_law_127 : decode cX10_law 127 = .ok (.ireturn, 1) := by decide +kernel
def fX10_law (h : AH) (a0 : Nat) : Option (Int32 × AH) :=
  if hasC h 10 a0 = true then (
    (gR h 10 a0 7).bind fun x1 =>
    (gR h 10 a0 0).bind fun x2 =>
    (fX10_takeText h a0).bind fun q3 =>
    (gR q3.2 10 a0 6).bind fun x4 =>
    (fX7_readRule q3.2 x1 x2 q3.1 x4).bind fun q5 =>
    if q5.1 = ((-1)) then (
      (gR q5.2 10 a0 6).bind fun x6 =>
      (fX10_tryRule q5.2 a0 x6).bind fun q7 =>
      (gR q7 10 a0 3).bind fun x8 =>
      (fX9_frameTotal q7 x8).bind fun q9 =>
      (gR q7 10 a0 3).bind fun x10 =>
      (fX9_objectTotal q7 x10).bind fun q11 =>
      (gR q7 10 a0 5).bind fun x12 =>
      (fX10_tryRule q7 a0 x12).bind fun q13 =>
      (gR q13 10 a0 8).bind fun x14 =>
      (fX5_clear q13 x14).bind fun q15 =>
      (gR q15 10 a0 8).bind fun x16 =>
      (fX5_add q15 x16 (Int32.toInt64 q9)).bind fun q17 =>
      (gR q17 10 a0 8).bind fun x18 =>
      (gR q17 10 a0 3).bind fun x19 =>
      (fX9_frameTotal q17 x19).bind fun q20 =>
      (fX5_add q17 x18 (Int32.toInt64 q20)).bind fun q21 =>
      (gR q21 10 a0 8).bind fun x22 =>
      (fX5_add q21 x22 (Int32.toInt64 q11)).bind fun q23 =>
      (gR q23 10 a0 8).bind fun x24 =>
      (gR q23 10 a0 3).bind fun x25 =>
      (fX9_objectTotal q23 x25).bind fun q26 =>
      (fX5_add q23 x24 (Int32.toInt64 q26)).bind fun q27 =>
      (gR q27 10 a0 3).bind fun x28 =>
      (fX9_frameTotal q27 x28).bind fun q29 =>
      some ((q9 - q29, q27))
    ) else (
      some ((((-10000)) - q5.1, q5.2))
    )
  ) else none
set_option maxHeartbeats 4000000 in
theorem mX10_law {h : AH} {a0 : Nat} {r : Int32 × AH} (hr : fX10_law h a0 = some r) : hasC h 10 a0 = true ∧ MC yX10_law cX10_law 4 (some .int) 8 0 0 [.ref a0] h (some (.int r.1)) r.2 := by
  unfold fX10_law at hr
  obtain ⟨hc, hr⟩ := if_some hr
  refine ⟨hc, mc_of (l0 := [(0, .ref a0)]) rfl pn_X10 (Nat.le_of_ble_eq_true rfl) (fun Y X C E O hnm => go_run hr ?_)⟩
  have C : CT Y X RX10 cX10_law 4 := C
  refine go_aload_n (pc := 0) C 0 dX10_law_0 rfl ?_
  refine go_gR (pc := 1) C fdX10_43 dX10_law_1 (fun x1 => ?_)
  refine go_aload_n (pc := 4) C 0 dX10_law_4 rfl ?_
  refine go_gR (pc := 5) C fdX10_9 dX10_law_5 (fun x2 => ?_)
  refine go_aload_n (pc := 8) C 0 dX10_law_8 rfl ?_
  refine go_bind (fun q3 hq3 => ?_)
  refine go_callV (rest := [.ref x2, .ref x1]) (st' := [.int q3.1, .ref x2, .ref x1]) (c' := 0) (s' := 0) (pc := 9) C O miX10_82 mvX10_takeText [] rfl (mX10_takeText hq3).1 (mX10_takeText hq3).2 dX10_law_9 ⟨by decide, by decide, by decide, by decide⟩ rfl (Nat.le_of_ble_eq_true rfl) rfl ⟨rfl, rfl⟩ ?_
  refine go_aload_n (pc := 12) C 0 dX10_law_12 rfl ?_
  refine go_gR (pc := 13) C fdX10_37 dX10_law_13 (fun x4 => ?_)
  refine go_bind (fun q5 hq5 => ?_)
  refine go_callV (rest := []) (st' := [.int q5.1]) (c' := 0) (s' := 0) (pc := 16) C O miX10_130 mvX7_readRule [.ref x2, .int q3.1, .ref x4] rfl (mX7_readRule hq5).1 (mX7_readRule hq5).2 dX10_law_16 ⟨by decide, by decide, by decide, by decide⟩ rfl (Nat.le_of_ble_eq_true rfl) rfl ⟨rfl, rfl⟩ ?_
  refine go_istore_n (ls' := [(1, .int q5.1), (0, .ref a0)]) (pc := 19) C dX10_law_19 (by decide) rfl ?_
  refine go_iload_n (pc := 20) C 0 dX10_law_20 rfl ?_
  refine go_iconst (pc := 21) C dX10_law_21 ki_m1 ?_
  refine go_icmp_eq (pc := 22) C 31 dX10_law_22 (by decide) (fun _ => ?_) (fun _ => ?_)
  · refine go_aload_n (pc := 31) C 1 dX10_law_31 rfl ?_
    refine go_aload_n (pc := 32) C 1 dX10_law_32 rfl ?_
    refine go_gR (pc := 33) C fdX10_37 dX10_law_33 (fun x6 => ?_)
    refine go_bind (fun q7 hq7 => ?_)
    refine go_callV (rest := []) (st' := []) (c' := 0) (s' := 0) (pc := 36) C O miX10_365 mvX10_tryRule [.ref x6] rfl (mX10_tryRule hq7).1 (mX10_tryRule hq7).2 dX10_law_36 ⟨by decide, by decide, by decide, by decide⟩ rfl (Nat.le_of_ble_eq_true rfl) rfl ⟨rfl, rfl⟩ ?_
    refine go_aload_n (pc := 39) C 1 dX10_law_39 rfl ?_
    refine go_gR (pc := 40) C fdX10_20 dX10_law_40 (fun x8 => ?_)
    refine go_bind (fun q9 hq9 => ?_)
    refine go_callV (rest := []) (st' := [.int q9]) (c' := 0) (s' := 0) (pc := 43) C O miX10_96 mvX9_frameTotal [] rfl (mX9_frameTotal hq9).1 (mX9_frameTotal hq9).2 dX10_law_43 ⟨by decide, by decide, by decide, by decide⟩ rfl (Nat.le_of_ble_eq_true rfl) rfl ⟨rfl, rfl⟩ ?_
    refine go_istore_n (ls' := [(2, .int q9), (1, .int q5.1), (0, .ref a0)]) (pc := 46) C dX10_law_46 (by decide) rfl ?_
    refine go_aload_n (pc := 47) C 2 dX10_law_47 rfl ?_
    refine go_gR (pc := 48) C fdX10_20 dX10_law_48 (fun x10 => ?_)
    refine go_bind (fun q11 hq11 => ?_)
    refine go_callV (rest := []) (st' := [.int q11]) (c' := 0) (s' := 0) (pc := 51) C O miX10_93 mvX9_objectTotal [] rfl (mX9_objectTotal hq11).1 (mX9_objectTotal hq11).2 dX10_law_51 ⟨by decide, by decide, by decide, by decide⟩ rfl (Nat.le_of_ble_eq_true rfl) rfl ⟨rfl, rfl⟩ ?_
    refine go_istore_n (ls' := [(3, .int q11), (2, .int q9), (1, .int q5.1), (0, .ref a0)]) (pc := 54) C dX10_law_54 (by decide) rfl ?_
    refine go_aload_n (pc := 55) C 3 dX10_law_55 rfl ?_
    refine go_aload_n (pc := 56) C 3 dX10_law_56 rfl ?_
    refine go_gR (pc := 57) C fdX10_33 dX10_law_57 (fun x12 => ?_)
    refine go_bind (fun q13 hq13 => ?_)
    refine go_callV (rest := []) (st' := []) (c' := 0) (s' := 0) (pc := 60) C O miX10_365 mvX10_tryRule [.ref x12] rfl (mX10_tryRule hq13).1 (mX10_tryRule hq13).2 dX10_law_60 ⟨by decide, by decide, by decide, by decide⟩ rfl (Nat.le_of_ble_eq_true rfl) rfl ⟨rfl, rfl⟩ ?_
    refine go_aload_n (pc := 63) C 3 dX10_law_63 rfl ?_
    refine go_gR (pc := 64) C fdX10_50 dX10_law_64 (fun x14 => ?_)
    refine go_bind (fun q15 hq15 => ?_)
    refine go_callV (rest := []) (st' := []) (c' := 0) (s' := 0) (pc := 67) C O miX10_209 mvX5_clear [] rfl (mX5_clear hq15).1 (mX5_clear hq15).2 dX10_law_67 ⟨by decide, by decide, by decide, by decide⟩ rfl (Nat.le_of_ble_eq_true rfl) rfl ⟨rfl, rfl⟩ ?_
    refine go_aload_n (pc := 70) C 3 dX10_law_70 rfl ?_
    refine go_gR (pc := 71) C fdX10_50 dX10_law_71 (fun x16 => ?_)
    refine go_iload_n (pc := 74) C 1 dX10_law_74 rfl ?_
    refine go_i2l (pc := 75) C dX10_law_75 ?_
    refine go_bind (fun q17 hq17 => ?_)
    refine go_callV (rest := []) (st' := []) (c' := 0) (s' := 0) (pc := 76) C O miX10_212 mvX5_add [.long (Int32.toInt64 q9)] rfl (mX5_add hq17).1 (mX5_add hq17).2 dX10_law_76 ⟨by decide, by decide, by decide, by decide⟩ rfl (Nat.le_of_ble_eq_true rfl) rfl ⟨rfl, rfl⟩ ?_
    refine go_aload_n (pc := 79) C 3 dX10_law_79 rfl ?_
    refine go_gR (pc := 80) C fdX10_50 dX10_law_80 (fun x18 => ?_)
    refine go_aload_n (pc := 83) C 3 dX10_law_83 rfl ?_
    refine go_gR (pc := 84) C fdX10_20 dX10_law_84 (fun x19 => ?_)
    refine go_bind (fun q20 hq20 => ?_)
    refine go_callV (rest := [.ref x18]) (st' := [.int q20, .ref x18]) (c' := 0) (s' := 0) (pc := 87) C O miX10_96 mvX9_frameTotal [] rfl (mX9_frameTotal hq20).1 (mX9_frameTotal hq20).2 dX10_law_87 ⟨by decide, by decide, by decide, by decide⟩ rfl (Nat.le_of_ble_eq_true rfl) rfl ⟨rfl, rfl⟩ ?_
    refine go_i2l (pc := 90) C dX10_law_90 ?_
    refine go_bind (fun q21 hq21 => ?_)
    refine go_callV (rest := []) (st' := []) (c' := 0) (s' := 0) (pc := 91) C O miX10_212 mvX5_add [.long (Int32.toInt64 q20)] rfl (mX5_add hq21).1 (mX5_add hq21).2 dX10_law_91 ⟨by decide, by decide, by decide, by decide⟩ rfl (Nat.le_of_ble_eq_true rfl) rfl ⟨rfl, rfl⟩ ?_
    refine go_aload_n (pc := 94) C 3 dX10_law_94 rfl ?_
    refine go_gR (pc := 95) C fdX10_50 dX10_law_95 (fun x22 => ?_)
    refine go_iload_n (pc := 98) C 0 dX10_law_98 rfl ?_
    refine go_i2l (pc := 99) C dX10_law_99 ?_
    refine go_bind (fun q23 hq23 => ?_)
    refine go_callV (rest := []) (st' := []) (c' := 0) (s' := 0) (pc := 100) C O miX10_212 mvX5_add [.long (Int32.toInt64 q11)] rfl (mX5_add hq23).1 (mX5_add hq23).2 dX10_law_100 ⟨by decide, by decide, by decide, by decide⟩ rfl (Nat.le_of_ble_eq_true rfl) rfl ⟨rfl, rfl⟩ ?_
    refine go_aload_n (pc := 103) C 3 dX10_law_103 rfl ?_
    refine go_gR (pc := 104) C fdX10_50 dX10_law_104 (fun x24 => ?_)
    refine go_aload_n (pc := 107) C 3 dX10_law_107 rfl ?_
    refine go_gR (pc := 108) C fdX10_20 dX10_law_108 (fun x25 => ?_)
    refine go_bind (fun q26 hq26 => ?_)
    refine go_callV (rest := [.ref x24]) (st' := [.int q26, .ref x24]) (c' := 0) (s' := 0) (pc := 111) C O miX10_93 mvX9_objectTotal [] rfl (mX9_objectTotal hq26).1 (mX9_objectTotal hq26).2 dX10_law_111 ⟨by decide, by decide, by decide, by decide⟩ rfl (Nat.le_of_ble_eq_true rfl) rfl ⟨rfl, rfl⟩ ?_
    refine go_i2l (pc := 114) C dX10_law_114 ?_
    refine go_bind (fun q27 hq27 => ?_)
    refine go_callV (rest := []) (st' := []) (c' := 0) (s' := 0) (pc := 115) C O miX10_212 mvX5_add [.long (Int32.toInt64 q26)] rfl (mX5_add hq27).1 (mX5_add hq27).2 dX10_law_115 ⟨by decide, by decide, by decide, by decide⟩ rfl (Nat.le_of_ble_eq_true rfl) rfl ⟨rfl, rfl⟩ ?_
    refine go_iload_n (pc := 118) C 1 dX10_law_118 rfl ?_
    refine go_aload_n (pc := 119) C 3 dX10_law_119 rfl ?_
    refine go_gR (pc := 120) C fdX10_20 dX10_law_120 (fun x28 => ?_)
    refine go_bind (fun q29 hq29 => ?_)
    refine go_callV (rest := [.int q9]) (st' := [.int q29, .int q9]) (c' := 0) (s' := 0) (pc := 123) C O miX10_96 mvX9_frameTotal [] rfl (mX9_frameTotal hq29).1 (mX9_frameTotal hq29).2 dX10_law_123 ⟨by decide, by decide, by decide, by decide⟩ rfl (Nat.le_of_ble_eq_true rfl) rfl ⟨rfl, rfl⟩ ?_
    refine go_isub (pc := 126) C dX10_law_126 ?_
    exact go_iret (w := wIh) (pc := 127) C E ((q9 - q29, q27)) (q9 - q29) dX10_law_127 rfl
  · refine go_sipush (pc := 25) C dX10_law_25 ks_m10000 ?_
    refine go_iload_n (pc := 28) C 0 dX10_law_28 rfl ?_
    refine go_isub (pc := 29) C dX10_law_29 ?_
    exact go_iret (w := wIh) (pc := 30) C E ((((-10000)) - q5.1, q5.2)) (((-10000)) - q5.1) dX10_law_30 rfl
theorem dX10_actDrawn_0 : decode cX10_actDrawn 0 = .ok (.iload_n 2, 1) := by decide +kernel
theorem dX10_actDrawn_1 : decode cX10_actDrawn 1 = .ok (.iconst 2, 1) := by decide +kernel
theorem dX10_actDrawn_2 : decode cX10_actDrawn 2 = .ok (.if_icmp .ge 35, 3) := by decide +kernel
theorem dX10_actDrawn_5 : decode cX10_actDrawn 5 = .ok (.aload_n 1, 1) := by decide +kernel
theorem dX10_actDrawn_6 : decode cX10_actDrawn 6 = .ok (.bipush 8, 2) := by decide +kernel
theorem dX10_actDrawn_8 : decode cX10_actDrawn 8 = .ok (.invokevirtual 372, 3) := by decide +kernel
theorem dX10_actDrawn_11 : decode cX10_actDrawn 11 = .ok (.istore 4, 2) := by decide +kernel
theorem dX10_actDrawn_13 : decode cX10_actDrawn 13 = .ok (.aload_n 0, 1) := by decide +kernel
theorem dX10_actDrawn_14 : decode cX10_actDrawn 14 = .ok (.getfield 20, 3) := by decide +kernel
theorem dX10_actDrawn_17 : decode cX10_actDrawn 17 = .ok (.iload_n 3, 1) := by decide +kernel
theorem dX10_actDrawn_18 : decode cX10_actDrawn 18 = .ok (.iload 4, 2) := by decide +kernel
theorem dX10_actDrawn_20 : decode cX10_actDrawn 20 = .ok (.aload_n 1, 1) := by decide +kernel
theorem dX10_actDrawn_21 : decode cX10_actDrawn 21 = .ok (.bipush 100, 2) := by decide +kernel
theorem dX10_actDrawn_23 : decode cX10_actDrawn 23 = .ok (.invokevirtual 372, 3) := by decide +kernel
theorem dX10_actDrawn_26 : decode cX10_actDrawn 26 = .ok (.aload_n 0, 1) := by decide +kernel
theorem dX10_actDrawn_27 : decode cX10_actDrawn 27 = .ok (.getfield 33, 3) := by decide +kernel
theorem dX10_actDrawn_30 : decode cX10_actDrawn 30 = .ok (.invokevirtual 220, 3) := by decide +kernel
theorem dX10_actDrawn_33 : decode cX10_actDrawn 33 = .ok (.pop, 1) := by decide +kernel
theorem dX10_actDrawn_34 : decode cX10_actDrawn 34 = .ok (.goto 49, 3) := by decide +kernel
theorem dX10_actDrawn_37 : decode cX10_actDrawn 37 = .ok (.iload_n 2, 1) := by decide +kernel
theorem dX10_actDrawn_38 : decode cX10_actDrawn 38 = .ok (.iconst 2, 1) := by decide +kernel
theorem dX10_actDrawn_39 : decode cX10_actDrawn 39 = .ok (.if_icmp .ne 15, 3) := by decide +kernel
theorem dX10_actDrawn_42 : decode cX10_actDrawn 42 = .ok (.aload_n 0, 1) := by decide +kernel
theorem dX10_actDrawn_43 : decode cX10_actDrawn 43 = .ok (.getfield 20, 3) := by decide +kernel
theorem dX10_actDrawn_46 : decode cX10_actDrawn 46 = .ok (.iload_n 3, 1) := by decide +kernel
theorem dX10_actDrawn_47 : decode cX10_actDrawn 47 = .ok (.invokevirtual 224, 3) := by decide +kernel
theorem dX10_actDrawn_50 : decode cX10_actDrawn 50 = .ok (.pop, 1) := by decide +kernel
theorem dX10_actDrawn_51 : decode cX10_actDrawn 51 = .ok (.goto 32, 3) := by decide +kernel
theorem dX10_actDrawn_54 : decode cX10_actDrawn 54 = .ok (.aload_n 1, 1) := by decide +kernel
theorem dX10_actDrawn_55 : decode cX10_actDrawn 55 = .ok (.iconst 2, 1) := by decide +kernel
theorem dX10_actDrawn_56 : decode cX10_actDrawn 56 = .ok (.invokevirtual 372, 3) := by decide +kernel
theorem dX10_actDrawn_59 : decode cX10_actDrawn 59 = .ok (.ifCond .ne 15, 3) := by decide +kernel
theorem dX10_actDrawn_62 : decode cX10_actDrawn 62 = .ok (.aload_n 0, 1) := by decide +kernel
theorem dX10_actDrawn_63 : decode cX10_actDrawn 63 = .ok (.getfield 20, 3) := by decide +kernel
theorem dX10_actDrawn_66 : decode cX10_actDrawn 66 = .ok (.iload_n 3, 1) := by decide +kernel
theorem dX10_actDrawn_67 : decode cX10_actDrawn 67 = .ok (.invokevirtual 227, 3) := by decide +kernel
theorem dX10_actDrawn_70 : decode cX10_actDrawn 70 = .ok (.pop, 1) := by decide +kernel
theorem dX10_actDrawn_71 : decode cX10_actDrawn 71 = .ok (.goto 12, 3) := by decide +kernel
theorem dX10_actDrawn_74 : decode cX10_actDrawn 74 = .ok (.aload_n 0, 1) := by decide +kernel
theorem dX10_actDrawn_75 : decode cX10_actDrawn 75 = .ok (.getfield 20, 3) := by decide +kernel
theorem dX10_actDrawn_78 : decode cX10_actDrawn 78 = .ok (.iload_n 3, 1) := by decide +kernel
theorem dX10_actDrawn_79 : decode cX10_actDrawn 79 = .ok (.invokevirtual 233, 3) := by decide +kernel
theorem dX10_actDrawn_82 : decode cX10_actDrawn 82 = .ok (.pop, 1) := by decide +kernel
theorem dX10_actDrawn_83 : decode cX10_actDrawn 83 = .ok (.return_, 1) := by decide +kernel
def fX10_actDrawn (h : AH) (a0 : Nat) (a1 : Nat) (a2 : Int32) (a3 : Int32) : Option (AH) :=
  if hasC h 10 a0 = true then (
    if 2 ≤ a2 then (
      if a2 = 2 then (
        (gR h 10 a0 3).bind fun x1 =>
        (fX9_forkSpace h x1 a3).bind fun q2 =>
        some q2.2
      ) else (
        (fX0_draw h a1 2).bind fun q3 =>
        if q3.1 = 0 then (
          (gR q3.2 10 a0 3).bind fun x4 =>
          (fX9_endSpace q3.2 x4 a3).bind fun q5 =>
          some q5.2
        ) else (
          (gR q3.2 10 a0 3).bind fun x6 =>
          (fX9_tidyChain q3.2 x6 a3).bind fun q7 =>
          some q7.2
        )
      )
    ) else (
      (fX0_draw h a1 8).bind fun q8 =>
      (gR q8.2 10 a0 3).bind fun x9 =>
      (fX0_draw q8.2 a1 100).bind fun q10 =>
      (gR q10.2 10 a0 5).bind fun x11 =>
      (fX9_writePage q10.2 x9 a3 q8.1 q10.1 x11).bind fun q12 =>
      some q12.2
    )
  ) else none
set_option maxHeartbeats 4000000 in
theorem mX10_actDrawn {h : AH} {a0 : Nat} {a1 : Nat} {a2 : Int32} {a3 : Int32} {r : AH} (hr : fX10_actDrawn h a0 a1 a2 a3 = some r) : hasC h 10 a0 = true ∧ MC yX10_actDrawn cX10_actDrawn 5 none 7 0 0 [.ref a0, .ref a1, .int a2, .int a3] h none r := by
  unfold fX10_actDrawn at hr
  obtain ⟨hc, hr⟩ := if_some hr
  refine ⟨hc, mc_of (l0 := [(0, .ref a0), (1, .ref a1), (2, .int a2), (3, .int a3)]) rfl pn_X10 (Nat.le_of_ble_eq_true rfl) (fun Y X C E O hnm => go_run hr ?_)⟩
  have C : CT Y X RX10 cX10_actDrawn 5 := C
  refine go_iload_n (pc := 0) C 2 dX10_actDrawn_0 rfl ?_
  refine go_iconst (pc := 1) C dX10_actDrawn_1 ki_2 ?_
  refine go_icmp_ge (pc := 2) C 37 dX10_actDrawn_2 (by decide) (fun _ => ?_) (fun _ => ?_)
  · refine go_iload_n (pc := 37) C 2 dX10_actDrawn_37 rfl ?_
    refine go_iconst (pc := 38) C dX10_actDrawn_38 ki_2 ?_
    refine go_icmp_ne (pc := 39) C 54 dX10_actDrawn_39 (by decide) (fun _ => ?_) (fun _ => ?_)
    · refine go_aload_n (pc := 42) C 0 dX10_actDrawn_42 rfl ?_
      refine go_gR (pc := 43) C fdX10_20 dX10_actDrawn_43 (fun x1 => ?_)
      refine go_iload_n (pc := 46) C 3 dX10_actDrawn_46 rfl ?_
      refine go_bind (fun q2 hq2 => ?_)
      refine go_callV (rest := []) (st' := [.int q2.1]) (c' := 0) (s' := 0) (pc := 47) C O miX10_224 mvX9_forkSpace [.int a3] rfl (mX9_forkSpace hq2).1 (mX9_forkSpace hq2).2 dX10_actDrawn_47 ⟨by decide, by decide, by decide, by decide⟩ rfl (Nat.le_of_ble_eq_true rfl) rfl ⟨rfl, rfl⟩ ?_
      refine go_pop (pc := 50) C dX10_actDrawn_50 rfl ?_
      refine go_goto (pc := 51) C 83 dX10_actDrawn_51 (by decide) ?_
      exact go_vret (w := wV) (pc := 83) C E q2.2 dX10_actDrawn_83 rfl
    · refine go_aload_n (pc := 54) C 1 dX10_actDrawn_54 rfl ?_
      refine go_iconst (pc := 55) C dX10_actDrawn_55 ki_2 ?_
      refine go_bind (fun q3 hq3 => ?_)
      refine go_callV (rest := []) (st' := [.int q3.1]) (c' := 0) (s' := 0) (pc := 56) C O miX10_372 mvX0_draw [.int 2] rfl (mX0_draw hq3).1 (mX0_draw hq3).2 dX10_actDrawn_56 ⟨by decide, by decide, by decide, by decide⟩ rfl (Nat.le_of_ble_eq_true rfl) rfl ⟨rfl, rfl⟩ ?_
      refine go_if_ne (pc := 59) C 74 dX10_actDrawn_59 (by decide) (fun _ => ?_) (fun _ => ?_)
      · refine go_aload_n (pc := 62) C 0 dX10_actDrawn_62 rfl ?_
        refine go_gR (pc := 63) C fdX10_20 dX10_actDrawn_63 (fun x4 => ?_)
        refine go_iload_n (pc := 66) C 3 dX10_actDrawn_66 rfl ?_
        refine go_bind (fun q5 hq5 => ?_)
        refine go_callV (rest := []) (st' := [.int q5.1]) (c' := 0) (s' := 0) (pc := 67) C O miX10_227 mvX9_endSpace [.int a3] rfl (mX9_endSpace hq5).1 (mX9_endSpace hq5).2 dX10_actDrawn_67 ⟨by decide, by decide, by decide, by decide⟩ rfl (Nat.le_of_ble_eq_true rfl) rfl ⟨rfl, rfl⟩ ?_
        refine go_pop (pc := 70) C dX10_actDrawn_70 rfl ?_
        refine go_goto (pc := 71) C 83 dX10_actDrawn_71 (by decide) ?_
        exact go_vret (w := wV) (pc := 83) C E q5.2 dX10_actDrawn_83 rfl
      · refine go_aload_n (pc := 74) C 0 dX10_actDrawn_74 rfl ?_
        refine go_gR (pc := 75) C fdX10_20 dX10_actDrawn_75 (fun x6 => ?_)
        refine go_iload_n (pc := 78) C 3 dX10_actDrawn_78 rfl ?_
        refine go_bind (fun q7 hq7 => ?_)
        refine go_callV (rest := []) (st' := [.int q7.1]) (c' := 0) (s' := 0) (pc := 79) C O miX10_233 mvX9_tidyChain [.int a3] rfl (mX9_tidyChain hq7).1 (mX9_tidyChain hq7).2 dX10_actDrawn_79 ⟨by decide, by decide, by decide, by decide⟩ rfl (Nat.le_of_ble_eq_true rfl) rfl ⟨rfl, rfl⟩ ?_
        refine go_pop (pc := 82) C dX10_actDrawn_82 rfl ?_
        exact go_vret (w := wV) (pc := 83) C E q7.2 dX10_actDrawn_83 rfl
  · refine go_aload_n (pc := 5) C 1 dX10_actDrawn_5 rfl ?_
    refine go_bipush (pc := 6) C dX10_actDrawn_6 kb_8 ?_
    refine go_bind (fun q8 hq8 => ?_)
    refine go_callV (rest := []) (st' := [.int q8.1]) (c' := 0) (s' := 0) (pc := 8) C O miX10_372 mvX0_draw [.int 8] rfl (mX0_draw hq8).1 (mX0_draw hq8).2 dX10_actDrawn_8 ⟨by decide, by decide, by decide, by decide⟩ rfl (Nat.le_of_ble_eq_true rfl) rfl ⟨rfl, rfl⟩ ?_
    refine go_istore (ls' := [(4, .int q8.1), (0, .ref a0), (1, .ref a1), (2, .int a2), (3, .int a3)]) (pc := 11) C dX10_actDrawn_11 (by decide) rfl ?_
    refine go_aload_n (pc := 13) C 1 dX10_actDrawn_13 rfl ?_
    refine go_gR (pc := 14) C fdX10_20 dX10_actDrawn_14 (fun x9 => ?_)
    refine go_iload_n (pc := 17) C 4 dX10_actDrawn_17 rfl ?_
    refine go_iload (pc := 18) C 0 dX10_actDrawn_18 rfl ?_
    refine go_aload_n (pc := 20) C 2 dX10_actDrawn_20 rfl ?_
    refine go_bipush (pc := 21) C dX10_actDrawn_21 kb_100 ?_
    refine go_bind (fun q10 hq10 => ?_)
    refine go_callV (rest := [.int q8.1, .int a3, .ref x9]) (st' := [.int q10.1, .int q8.1, .int a3, .ref x9]) (c' := 0) (s' := 0) (pc := 23) C O miX10_372 mvX0_draw [.int 100] rfl (mX0_draw hq10).1 (mX0_draw hq10).2 dX10_actDrawn_23 ⟨by decide, by decide, by decide, by decide⟩ rfl (Nat.le_of_ble_eq_true rfl) rfl ⟨rfl, rfl⟩ ?_
    refine go_aload_n (pc := 26) C 1 dX10_actDrawn_26 rfl ?_
    refine go_gR (pc := 27) C fdX10_33 dX10_actDrawn_27 (fun x11 => ?_)
    refine go_bind (fun q12 hq12 => ?_)
    refine go_callV (rest := []) (st' := [.int q12.1]) (c' := 0) (s' := 0) (pc := 30) C O miX10_220 mvX9_writePage [.int a3, .int q8.1, .int q10.1, .ref x11] rfl (mX9_writePage hq12).1 (mX9_writePage hq12).2 dX10_actDrawn_30 ⟨by decide, by decide, by decide, by decide⟩ rfl (Nat.le_of_ble_eq_true rfl) rfl ⟨rfl, rfl⟩ ?_
    refine go_pop (pc := 33) C dX10_actDrawn_33 rfl ?_
    refine go_goto (pc := 34) C 83 dX10_actDrawn_34 (by decide) ?_
    exact go_vret (w := wV) (pc := 83) C E q12.2 dX10_actDrawn_83 rfl
theorem dX10_years_0 : decode cX10_years 0 = .ok (.iload_n 2, 1) := by decide +kernel
theorem dX10_years_1 : decode cX10_years 1 = .ok (.iconst 1, 1) := by decide +kernel
theorem dX10_years_2 : decode cX10_years 2 = .ok (.if_icmp .lt 9, 3) := by decide +kernel
theorem dX10_years_5 : decode cX10_years 5 = .ok (.iload_n 2, 1) := by decide +kernel
theorem dX10_years_6 : decode cX10_years 6 = .ok (.bipush 40, 2) := by decide +kernel
theorem dX10_years_8 : decode cX10_years 8 = .ok (.if_icmp .le 5, 3) := by decide +kernel
theorem dX10_years_11 : decode cX10_years 11 = .ok (.iconst (-1), 1) := by decide +kernel
theorem dX10_years_12 : decode cX10_years 12 = .ok (.ireturn, 1) := by decide +kernel
theorem dX10_years_13 : decode cX10_years 13 = .ok (.aload_n 0, 1) := by decide +kernel
theorem dX10_years_14 : decode cX10_years 14 = .ok (.getfield 20, 3) := by decide +kernel
theorem dX10_years_17 : decode cX10_years 17 = .ok (.aload_n 0, 1) := by decide +kernel
theorem dX10_years_18 : decode cX10_years 18 = .ok (.getfield 16, 3) := by decide +kernel
theorem dX10_years_21 : decode cX10_years 21 = .ok (.invokevirtual 286, 3) := by decide +kernel
theorem dX10_years_24 : decode cX10_years 24 = .ok (.new 368, 3) := by decide +kernel
theorem dX10_years_27 : decode cX10_years 27 = .ok (.dup, 1) := by decide +kernel
theorem dX10_years_28 : decode cX10_years 28 = .ok (.iload_n 1, 1) := by decide +kernel
theorem dX10_years_29 : decode cX10_years 29 = .ok (.invokespecial 370, 3) := by decide +kernel
theorem dX10_years_32 : decode cX10_years 32 = .ok (.astore_n 3, 1) := by decide +kernel
theorem dX10_years_33 : decode cX10_years 33 = .ok (.iconst 0, 1) := by decide +kernel
theorem dX10_years_34 : decode cX10_years 34 = .ok (.istore 4, 2) := by decide +kernel
theorem dX10_years_36 : decode cX10_years 36 = .ok (.iload 4, 2) := by decide +kernel
theorem dX10_years_38 : decode cX10_years 38 = .ok (.iload_n 2, 1) := by decide +kernel
theorem dX10_years_39 : decode cX10_years 39 = .ok (.if_icmp .ge 45, 3) := by decide +kernel
theorem dX10_years_42 : decode cX10_years 42 = .ok (.aload_n 3, 1) := by decide +kernel
theorem dX10_years_43 : decode cX10_years 43 = .ok (.iconst 4, 1) := by decide +kernel
theorem dX10_years_44 : decode cX10_years 44 = .ok (.invokevirtual 372, 3) := by decide +kernel
theorem dX10_years_47 : decode cX10_years 47 = .ok (.istore 5, 2) := by decide +kernel
theorem dX10_years_49 : decode cX10_years 49 = .ok (.aload_n 3, 1) := by decide +kernel
theorem dX10_years_50 : decode cX10_years 50 = .ok (.bipush 6, 2) := by decide +kernel
theorem dX10_years_52 : decode cX10_years 52 = .ok (.invokevirtual 372, 3) := by decide +kernel
theorem dX10_years_55 : decode cX10_years 55 = .ok (.istore 6, 2) := by decide +kernel
theorem dX10_years_57 : decode cX10_years 57 = .ok (.aload_n 0, 1) := by decide +kernel
theorem dX10_years_58 : decode cX10_years 58 = .ok (.getfield 20, 3) := by decide +kernel
theorem dX10_years_61 : decode cX10_years 61 = .ok (.iload 6, 2) := by decide +kernel
theorem dX10_years_63 : decode cX10_years 63 = .ok (.invokevirtual 138, 3) := by decide +kernel
theorem dX10_years_66 : decode cX10_years 66 = .ok (.ifCond .eq 12, 3) := by decide +kernel
theorem dX10_years_69 : decode cX10_years 69 = .ok (.aload_n 0, 1) := by decide +kernel
theorem dX10_years_70 : decode cX10_years 70 = .ok (.aload_n 3, 1) := by decide +kernel
theorem dX10_years_71 : decode cX10_years 71 = .ok (.iload 5, 2) := by decide +kernel
theorem dX10_years_73 : decode cX10_years 73 = .ok (.iload 6, 2) := by decide +kernel
theorem dX10_years_75 : decode cX10_years 75 = .ok (.invokevirtual 375, 3) := by decide +kernel
theorem dX10_years_78 : decode cX10_years 78 = .ok (.iinc 4 1, 3) := by decide +kernel
theorem dX10_years_81 : decode cX10_years 81 = .ok (.goto (-45), 3) := by decide +kernel
theorem dX10_years_84 : decode cX10_years 84 = .ok (.aload_n 0, 1) := by decide +kernel
theorem dX10_years_85 : decode cX10_years 85 = .ok (.getfield 50, 3) := by decide +kernel
theorem dX10_years_88 : decode cX10_years 88 = .ok (.invokevirtual 209, 3) := by decide +kernel
theorem dX10_years_91 : decode cX10_years 91 = .ok (.aload_n 0, 1) := by decide +kernel
theorem dX10_years_92 : decode cX10_years 92 = .ok (.getfield 50, 3) := by decide +kernel
theorem dX10_years_95 : decode cX10_years 95 = .ok (.aload_n 0, 1) := by decide +kernel
theorem dX10_years_96 : decode cX10_years 96 = .ok (.getfield 20, 3) := by decide +kernel
theorem dX10_years_99 : decode cX10_years 99 = .ok (.invokevirtual 379, 3) := by decide +kernel
theorem dX10_years_102 : decode cX10_years 102 = .ok (.i2l, 1) := by decide +kernel
theorem dX10_years_103 : decode cX10_years 103 = .ok (.invokevirtual 212, 3) := by decide +kernel
theorem dX10_years_106 : decode cX10_years 106 = .ok (.aload_n 0, 1) := by decide +kernel
theorem dX10_years_107 : decode cX10_years 107 = .ok (.getfield 50, 3) := by decide +kernel
theorem dX10_years_110 : decode cX10_years 110 = .ok (.aload_n 0, 1) := by decide +kernel
theorem dX10_years_111 : decode cX10_years 111 = .ok (.getfield 20, 3) := by decide +kernel
theorem dX10_years_114 : decode cX10_years 114 = .ok (.invokevirtual 382, 3) := by decide +kernel
theorem dX10_years_117 : decode cX10_years 117 = .ok (.i2l, 1) := by decide +kernel
theorem dX10_years_118 : decode cX10_years 118 = .ok (.invokevirtual 212, 3) := by decide +kernel
theorem dX10_years_121 : decode cX10_years 121 = .ok (.aload_n 0, 1) := by decide +kernel
theorem dX10_years_122 : decode cX10_years 122 = .ok (.getfield 20, 3) := by decide +kernel
theorem dX10_years_125 : decode cX10_years 125 = .ok (.invokevirtual 96, 3) := by decide +kernel
theorem dX10_years_128 : decode cX10_years 128 = .ok (.ireturn, 1) := by decide +kernel
def fX10_years_L36 (k84 : AH → Nat → Option (Int32 × AH)) : Nat → AH → Nat → Int32 → Nat → Int32 → Option (Int32 × AH)
  | 0, _, _, _, _, _ => none
  | n + 1, h, v0, v2, v3, v4 =>
    if v2 ≤ v4 then (
      k84 h v0
    ) else (
      (fX0_draw h v3 4).bind fun q1 =>
      (fX0_draw q1.2 v3 6).bind fun q2 =>
      (gR q2.2 10 v0 3).bind fun x3 =>
      (fX9_hasSpace q2.2 x3 q2.1).bind fun q4 =>
      if q4 = true then (
        (fX10_actDrawn q2.2 v0 v3 q1.1 q2.1).bind fun q5 =>
        letF (v4 + 1 : Int32) fun x6 =>
        fX10_years_L36 k84 n q5 v0 v2 v3 x6
      ) else (
        letF (v4 + 1 : Int32) fun x7 =>
        fX10_years_L36 k84 n q2.2 v0 v2 v3 x7
      )
    )
def fX10_years (h : AH) (a0 : Nat) (a1 : Int32) (a2 : Int32) : Option (Int32 × AH) :=
  if hasC h 10 a0 = true then (
    if a2 < 1 then (
      some (((-1), h))
    ) else (
      if a2 ≤ 40 then (
        (gR h 10 a0 3).bind fun x8 =>
        (gR h 10 a0 2).bind fun x9 =>
        (fX9_copyFrom h x8 x9).bind fun q10 =>
        letF (hnew q10 (.inr (0, [.int 0]))) fun h11 =>
        (fX0_init h11 q10.2 a1).bind fun q12 =>
        fX10_years_L36
          (fun h14 x13 =>
            (gR h14 10 x13 8).bind fun x15 =>
            (fX5_clear h14 x15).bind fun q16 =>
            (gR q16 10 x13 8).bind fun x17 =>
            (gR q16 10 x13 3).bind fun x18 =>
            (fX9_objectSet q16 x18).bind fun q19 =>
            (fX5_add q16 x17 (Int32.toInt64 q19)).bind fun q20 =>
            (gR q20 10 x13 8).bind fun x21 =>
            (gR q20 10 x13 3).bind fun x22 =>
            (fX9_spaceSet q20 x22).bind fun q23 =>
            (fX5_add q20 x21 (Int32.toInt64 q23)).bind fun q24 =>
            (gR q24 10 x13 3).bind fun x25 =>
            (fX9_frameTotal q24 x25).bind fun q26 =>
            some ((q26, q24)))
          FU q12 a0 a2 q10.2 0
      ) else (
        some (((-1), h))
      )
    )
  ) else none
set_option maxHeartbeats 4000000 in
theorem gX10_years_L36 {Y : YT} {X : XT} (C : CT Y X RX10 cX10_years 7) (O : RO X 8 1 1) {r : Int32 × AH} (E : RX Y X (some .int) (some (.int r.1)) r.2 1 1) {k84 : AH → Nat → Option (Int32 × AH)} (hk84 : ∀ (h : AH) (v0 : Nat), GO Y X 7 r h 1 1 84 [(0, .ref v0)] [] (k84 h v0)) : ∀ (n : Nat) (h : AH) (v0 : Nat) (v2 : Int32) (v3 : Nat) (v4 : Int32), GO Y X 7 r h 1 1 36 [(0, .ref v0), (2, .int v2), (3, .ref v3), (4, .int v4)] [] (fX10_years_L36 k84 n h v0 v2 v3 v4) := by
  intro n
  induction n with
  | zero => intros; exact go_none _ _ _
  | succ n ih =>
    intro h v0 v2 v3 v4
    rw [fX10_years_L36]
    refine go_iload (pc := 36) C 3 dX10_years_36 rfl ?_
    refine go_iload_n (pc := 38) C 1 dX10_years_38 rfl ?_
    refine go_icmp_ge (pc := 39) C 84 dX10_years_39 (by decide) (fun _ => ?_) (fun _ => ?_)
    · refine go_sub (ls' := [(0, .ref v0)]) [0] rfl ?_
      exact hk84 h v0
    · refine go_aload_n (pc := 42) C 2 dX10_years_42 rfl ?_
      refine go_iconst (pc := 43) C dX10_years_43 ki_4 ?_
      refine go_bind (fun q1 hq1 => ?_)
      refine go_callV (rest := []) (st' := [.int q1.1]) (c' := 1) (s' := 1) (pc := 44) C O miX10_372 mvX0_draw [.int 4] rfl (mX0_draw hq1).1 (mX0_draw hq1).2 dX10_years_44 ⟨by decide, by decide, by decide, by decide⟩ rfl (Nat.le_of_ble_eq_true rfl) rfl ⟨rfl, rfl⟩ ?_
      refine go_istore (ls' := [(5, .int q1.1), (0, .ref v0), (2, .int v2), (3, .ref v3), (4, .int v4)]) (pc := 47) C dX10_years_47 (by decide) rfl ?_
      refine go_aload_n (pc := 49) C 3 dX10_years_49 rfl ?_
      refine go_bipush (pc := 50) C dX10_years_50 kb_6 ?_
      refine go_bind (fun q2 hq2 => ?_)
      refine go_callV (rest := []) (st' := [.int q2.1]) (c' := 1) (s' := 1) (pc := 52) C O miX10_372 mvX0_draw [.int 6] rfl (mX0_draw hq2).1 (mX0_draw hq2).2 dX10_years_52 ⟨by decide, by decide, by decide, by decide⟩ rfl (Nat.le_of_ble_eq_true rfl) rfl ⟨rfl, rfl⟩ ?_
      refine go_istore (ls' := [(6, .int q2.1), (5, .int q1.1), (0, .ref v0), (2, .int v2), (3, .ref v3), (4, .int v4)]) (pc := 55) C dX10_years_55 (by decide) rfl ?_
      refine go_aload_n (pc := 57) C 2 dX10_years_57 rfl ?_
      refine go_gR (pc := 58) C fdX10_20 dX10_years_58 (fun x3 => ?_)
      refine go_iload (pc := 61) C 0 dX10_years_61 rfl ?_
      refine go_bind (fun q4 hq4 => ?_)
      refine go_callV (rest := []) (st' := [.int (b2i q4)]) (c' := 1) (s' := 1) (pc := 63) C O miX10_138 mvX9_hasSpace [.int q2.1] rfl (mX9_hasSpace hq4).1 (mX9_hasSpace hq4).2 dX10_years_63 ⟨by decide, by decide, by decide, by decide⟩ rfl (Nat.le_of_ble_eq_true rfl) rfl ⟨rfl, rfl⟩ ?_
      refine go_ifZ_eq (pc := 66) C 78 dX10_years_66 (by decide) (fun _ => ?_) (fun _ => ?_)
      · refine go_aload_n (pc := 69) C 2 dX10_years_69 rfl ?_
        refine go_aload_n (pc := 70) C 4 dX10_years_70 rfl ?_
        refine go_iload (pc := 71) C 1 dX10_years_71 rfl ?_
        refine go_iload (pc := 73) C 0 dX10_years_73 rfl ?_
        refine go_bind (fun q5 hq5 => ?_)
        refine go_callV (rest := []) (st' := []) (c' := 1) (s' := 1) (pc := 75) C O miX10_375 mvX10_actDrawn [.ref v3, .int q1.1, .int q2.1] rfl (mX10_actDrawn hq5).1 (mX10_actDrawn hq5).2 dX10_years_75 ⟨by decide, by decide, by decide, by decide⟩ rfl (Nat.le_of_ble_eq_true rfl) rfl ⟨rfl, rfl⟩ ?_
        refine go_iincL (pc := 78) C 5 dX10_years_78 rfl ki_1 (by decide) (fun x6 => [(4, .int x6), (6, .int q2.1), (5, .int q1.1), (0, .ref v0), (2, .int v2), (3, .ref v3)]) (fun _ => rfl) (fun x6 => ?_)
        refine go_goto (pc := 81) C 36 dX10_years_81 (by decide) ?_
        refine go_sub (ls' := [(0, .ref v0), (2, .int v2), (3, .ref v3), (4, .int x6)]) [3, 4, 5, 0] rfl ?_
        exact ih q5 v0 v2 v3 x6
      · refine go_iincL (pc := 78) C 5 dX10_years_78 rfl ki_1 (by decide) (fun x7 => [(4, .int x7), (6, .int q2.1), (5, .int q1.1), (0, .ref v0), (2, .int v2), (3, .ref v3)]) (fun _ => rfl) (fun x7 => ?_)
        refine go_goto (pc := 81) C 36 dX10_years_81 (by decide) ?_
        refine go_sub (ls' := [(0, .ref v0), (2, .int v2), (3, .ref v3), (4, .int x7)]) [3, 4, 5, 0] rfl ?_
        exact ih q2.2 v0 v2 v3 x7
set_option maxHeartbeats 4000000 in
theorem mX10_years {h : AH} {a0 : Nat} {a1 : Int32} {a2 : Int32} {r : Int32 × AH} (hr : fX10_years h a0 a1 a2 = some r) : hasC h 10 a0 = true ∧ MC yX10_years cX10_years 7 (some .int) 8 1 1 [.ref a0, .int a1, .int a2] h (some (.int r.1)) r.2 := by
  unfold fX10_years at hr
  obtain ⟨hc, hr⟩ := if_some hr
  refine ⟨hc, mc_of (l0 := [(0, .ref a0), (1, .int a1), (2, .int a2)]) rfl pn_X10 (Nat.le_of_ble_eq_true rfl) (fun Y X C E O hnm => go_run hr ?_)⟩
  have C : CT Y X RX10 cX10_years 7 := C
  refine go_iload_n (pc := 0) C 2 dX10_years_0 rfl ?_
  refine go_iconst (pc := 1) C dX10_years_1 ki_1 ?_
  refine go_icmp_lt (pc := 2) C 11 dX10_years_2 (by decide) (fun _ => ?_) (fun _ => ?_)
  · refine go_iconst (pc := 11) C dX10_years_11 ki_m1 ?_
    refine go_widen (c2 := 1) (s2 := 1) (by decide) (by decide) ?_
    exact go_iret (w := wIh) (pc := 12) C E (((-1), h)) ((-1)) dX10_years_12 rfl
  · refine go_iload_n (pc := 5) C 2 dX10_years_5 rfl ?_
    refine go_bipush (pc := 6) C dX10_years_6 kb_40 ?_
    refine go_icmp_le (pc := 8) C 13 dX10_years_8 (by decide) (fun _ => ?_) (fun _ => ?_)
    · refine go_aload_n (pc := 13) C 0 dX10_years_13 rfl ?_
      refine go_gR (pc := 14) C fdX10_20 dX10_years_14 (fun x8 => ?_)
      refine go_aload_n (pc := 17) C 0 dX10_years_17 rfl ?_
      refine go_gR (pc := 18) C fdX10_16 dX10_years_18 (fun x9 => ?_)
      refine go_bind (fun q10 hq10 => ?_)
      refine go_callV (rest := []) (st' := []) (c' := 0) (s' := 0) (pc := 21) C O miX10_286 mvX9_copyFrom [.ref x9] rfl (mX9_copyFrom hq10).1 (mX9_copyFrom hq10).2 dX10_years_21 ⟨by decide, by decide, by decide, by decide⟩ rfl (Nat.le_of_ble_eq_true rfl) rfl ⟨rfl, rfl⟩ ?_
      refine go_new (c' := 1) (s' := 1) (pc := 24) C O clX10_368 dX10_years_24 ⟨by decide, by decide⟩ ⟨rfl, rfl⟩ (fun h11 => ?_)
      refine go_dup (pc := 27) C dX10_years_27 rfl ?_
      refine go_iload_n (pc := 28) C 1 dX10_years_28 rfl ?_
      refine go_bind (fun q12 hq12 => ?_)
      refine go_callI (rest := [.ref q10.2]) (st' := [.ref q10.2]) (c' := 1) (s' := 1) (pc := 29) C O miX10_370 rfl w_1134 [.int a1] rfl (mX0_init hq12) dX10_years_29 ⟨by decide, by decide, by decide, by decide⟩ rfl (Nat.le_of_ble_eq_true rfl) rfl ⟨rfl, rfl⟩ ?_
      refine go_astore_n (ls' := [(3, .ref q10.2), (0, .ref a0), (1, .int a1), (2, .int a2)]) (pc := 32) C dX10_years_32 (by decide) rfl ?_
      refine go_iconst (pc := 33) C dX10_years_33 ki_0 ?_
      refine go_istore (ls' := [(4, .int 0), (3, .ref q10.2), (0, .ref a0), (1, .int a1), (2, .int a2)]) (pc := 34) C dX10_years_34 (by decide) rfl ?_
      refine go_sub (ls' := [(0, .ref a0), (2, .int a2), (3, .ref q10.2), (4, .int 0)]) [2, 4, 1, 0] rfl ?_
      refine gX10_years_L36 C O E (fun h14 x13 => ?_) FU q12 a0 a2 q10.2 0
      · refine go_aload_n (pc := 84) C 0 dX10_years_84 rfl ?_
        refine go_gR (pc := 85) C fdX10_50 dX10_years_85 (fun x15 => ?_)
        refine go_bind (fun q16 hq16 => ?_)
        refine go_callV (rest := []) (st' := []) (c' := 1) (s' := 1) (pc := 88) C O miX10_209 mvX5_clear [] rfl (mX5_clear hq16).1 (mX5_clear hq16).2 dX10_years_88 ⟨by decide, by decide, by decide, by decide⟩ rfl (Nat.le_of_ble_eq_true rfl) rfl ⟨rfl, rfl⟩ ?_
        refine go_aload_n (pc := 91) C 0 dX10_years_91 rfl ?_
        refine go_gR (pc := 92) C fdX10_50 dX10_years_92 (fun x17 => ?_)
        refine go_aload_n (pc := 95) C 0 dX10_years_95 rfl ?_
        refine go_gR (pc := 96) C fdX10_20 dX10_years_96 (fun x18 => ?_)
        refine go_bind (fun q19 hq19 => ?_)
        refine go_callV (rest := [.ref x17]) (st' := [.int q19, .ref x17]) (c' := 1) (s' := 1) (pc := 99) C O miX10_379 mvX9_objectSet [] rfl (mX9_objectSet hq19).1 (mX9_objectSet hq19).2 dX10_years_99 ⟨by decide, by decide, by decide, by decide⟩ rfl (Nat.le_of_ble_eq_true rfl) rfl ⟨rfl, rfl⟩ ?_
        refine go_i2l (pc := 102) C dX10_years_102 ?_
        refine go_bind (fun q20 hq20 => ?_)
        refine go_callV (rest := []) (st' := []) (c' := 1) (s' := 1) (pc := 103) C O miX10_212 mvX5_add [.long (Int32.toInt64 q19)] rfl (mX5_add hq20).1 (mX5_add hq20).2 dX10_years_103 ⟨by decide, by decide, by decide, by decide⟩ rfl (Nat.le_of_ble_eq_true rfl) rfl ⟨rfl, rfl⟩ ?_
        refine go_aload_n (pc := 106) C 0 dX10_years_106 rfl ?_
        refine go_gR (pc := 107) C fdX10_50 dX10_years_107 (fun x21 => ?_)
        refine go_aload_n (pc := 110) C 0 dX10_years_110 rfl ?_
        refine go_gR (pc := 111) C fdX10_20 dX10_years_111 (fun x22 => ?_)
        refine go_bind (fun q23 hq23 => ?_)
        refine go_callV (rest := [.ref x21]) (st' := [.int q23, .ref x21]) (c' := 1) (s' := 1) (pc := 114) C O miX10_382 mvX9_spaceSet [] rfl (mX9_spaceSet hq23).1 (mX9_spaceSet hq23).2 dX10_years_114 ⟨by decide, by decide, by decide, by decide⟩ rfl (Nat.le_of_ble_eq_true rfl) rfl ⟨rfl, rfl⟩ ?_
        refine go_i2l (pc := 117) C dX10_years_117 ?_
        refine go_bind (fun q24 hq24 => ?_)
        refine go_callV (rest := []) (st' := []) (c' := 1) (s' := 1) (pc := 118) C O miX10_212 mvX5_add [.long (Int32.toInt64 q23)] rfl (mX5_add hq24).1 (mX5_add hq24).2 dX10_years_118 ⟨by decide, by decide, by decide, by decide⟩ rfl (Nat.le_of_ble_eq_true rfl) rfl ⟨rfl, rfl⟩ ?_
        refine go_aload_n (pc := 121) C 0 dX10_years_121 rfl ?_
        refine go_gR (pc := 122) C fdX10_20 dX10_years_122 (fun x25 => ?_)
        refine go_bind (fun q26 hq26 => ?_)
        refine go_callV (rest := []) (st' := [.int q26]) (c' := 1) (s' := 1) (pc := 125) C O miX10_96 mvX9_frameTotal [] rfl (mX9_frameTotal hq26).1 (mX9_frameTotal hq26).2 dX10_years_125 ⟨by decide, by decide, by decide, by decide⟩ rfl (Nat.le_of_ble_eq_true rfl) rfl ⟨rfl, rfl⟩ ?_
        exact go_iret (w := wIh) (pc := 128) C E ((q26, q24)) q26 dX10_years_128 rfl
    · refine go_iconst (pc := 11) C dX10_years_11 ki_m1 ?_
      refine go_widen (c2 := 1) (s2 := 1) (by decide) (by decide) ?_
      exact go_iret (w := wIh) (pc := 12) C E (((-1), h)) ((-1)) dX10_years_12 rfl
theorem dX10_keep_0 : decode cX10_keep 0 = .ok (.aload_n 0, 1) := by decide +kernel
theorem dX10_keep_1 : decode cX10_keep 1 = .ok (.getfield 26, 3) := by decide +kernel
theorem dX10_keep_4 : decode cX10_keep 4 = .ok (.iload_n 1, 1) := by decide +kernel
theorem dX10_keep_5 : decode cX10_keep 5 = .ok (.aload_n 0, 1) := by decide +kernel
theorem dX10_keep_6 : decode cX10_keep 6 = .ok (.getfield 16, 3) := by decide +kernel
theorem dX10_keep_9 : decode cX10_keep 9 = .ok (.invokevirtual 385, 3) := by decide +kernel
theorem dX10_keep_12 : decode cX10_keep 12 = .ok (.ireturn, 1) := by decide +kernel
def fX10_keep (h : AH) (a0 : Nat) (a1 : Int32) : Option (Bool × AH) :=
  if hasC h 10 a0 = true then (
    (gR h 10 a0 4).bind fun x1 =>
    (gR h 10 a0 2).bind fun x2 =>
    (fX2_store h x1 a1 x2).bind fun q3 =>
    some ((q3.1, q3.2))
  ) else none
set_option maxHeartbeats 4000000 in
theorem mX10_keep {h : AH} {a0 : Nat} {a1 : Int32} {r : Bool × AH} (hr : fX10_keep h a0 a1 = some r) : hasC h 10 a0 = true ∧ MC yX10_keep cX10_keep 2 (some .boolean) 3 0 0 [.ref a0, .int a1] h (some (.int (b2i r.1))) r.2 := by
  unfold fX10_keep at hr
  obtain ⟨hc, hr⟩ := if_some hr
  refine ⟨hc, mc_of (l0 := [(0, .ref a0), (1, .int a1)]) rfl pn_X10 (Nat.le_of_ble_eq_true rfl) (fun Y X C E O hnm => go_run hr ?_)⟩
  have C : CT Y X RX10 cX10_keep 2 := C
  refine go_aload_n (pc := 0) C 0 dX10_keep_0 rfl ?_
  refine go_gR (pc := 1) C fdX10_26 dX10_keep_1 (fun x1 => ?_)
  refine go_iload_n (pc := 4) C 1 dX10_keep_4 rfl ?_
  refine go_aload_n (pc := 5) C 0 dX10_keep_5 rfl ?_
  refine go_gR (pc := 6) C fdX10_16 dX10_keep_6 (fun x2 => ?_)
  refine go_bind (fun q3 hq3 => ?_)
  refine go_callV (rest := []) (st' := [.int (b2i q3.1)]) (c' := 0) (s' := 0) (pc := 9) C O miX10_385 mvX2_store [.int a1, .ref x2] rfl (mX2_store hq3).1 (mX2_store hq3).2 dX10_keep_9 ⟨by decide, by decide, by decide, by decide⟩ rfl (Nat.le_of_ble_eq_true rfl) rfl ⟨rfl, rfl⟩ ?_
  exact go_bret (w := wZh) (pc := 12) C E ((q3.1, q3.2)) (b2i q3.1) q3.1 rfl dX10_keep_12 rfl
theorem dX10_again_0 : decode cX10_again 0 = .ok (.aload_n 0, 1) := by decide +kernel
theorem dX10_again_1 : decode cX10_again 1 = .ok (.getfield 26, 3) := by decide +kernel
theorem dX10_again_4 : decode cX10_again 4 = .ok (.iload_n 1, 1) := by decide +kernel
theorem dX10_again_5 : decode cX10_again 5 = .ok (.aload_n 0, 1) := by decide +kernel
theorem dX10_again_6 : decode cX10_again 6 = .ok (.getfield 16, 3) := by decide +kernel
theorem dX10_again_9 : decode cX10_again 9 = .ok (.invokevirtual 389, 3) := by decide +kernel
theorem dX10_again_12 : decode cX10_again 12 = .ok (.ireturn, 1) := by decide +kernel
def fX10_again (h : AH) (a0 : Nat) (a1 : Int32) : Option (Bool × AH) :=
  if hasC h 10 a0 = true then (
    (gR h 10 a0 4).bind fun x1 =>
    (gR h 10 a0 2).bind fun x2 =>
    (fX2_fetchStored h x1 a1 x2).bind fun q3 =>
    some ((q3.1, q3.2))
  ) else none
set_option maxHeartbeats 4000000 in
theorem mX10_again {h : AH} {a0 : Nat} {a1 : Int32} {r : Bool × AH} (hr : fX10_again h a0 a1 = some r) : hasC h 10 a0 = true ∧ MC yX10_again cX10_again 2 (some .boolean) 3 0 0 [.ref a0, .int a1] h (some (.int (b2i r.1))) r.2 := by
  unfold fX10_again at hr
  obtain ⟨hc, hr⟩ := if_some hr
  refine ⟨hc, mc_of (l0 := [(0, .ref a0), (1, .int a1)]) rfl pn_X10 (Nat.le_of_ble_eq_true rfl) (fun Y X C E O hnm => go_run hr ?_)⟩
  have C : CT Y X RX10 cX10_again 2 := C
  refine go_aload_n (pc := 0) C 0 dX10_again_0 rfl ?_
  refine go_gR (pc := 1) C fdX10_26 dX10_again_1 (fun x1 => ?_)
  refine go_iload_n (pc := 4) C 1 dX10_again_4 rfl ?_
  refine go_aload_n (pc := 5) C 0 dX10_again_5 rfl ?_
  refine go_gR (pc := 6) C fdX10_16 dX10_again_6 (fun x2 => ?_)
  refine go_bind (fun q3 hq3 => ?_)
  refine go_callV (rest := []) (st' := [.int (b2i q3.1)]) (c' := 0) (s' := 0) (pc := 9) C O miX10_389 mvX2_fetchStored [.int a1, .ref x2] rfl (mX2_fetchStored hq3).1 (mX2_fetchStored hq3).2 dX10_again_9 ⟨by decide, by decide, by decide, by decide⟩ rfl (Nat.le_of_ble_eq_true rfl) rfl ⟨rfl, rfl⟩ ?_
  exact go_bret (w := wZh) (pc := 12) C E ((q3.1, q3.2)) (b2i q3.1) q3.1 rfl dX10_again_12 rfl
theorem dX10_count_0 : decode cX10_count 0 = .ok (.iload_n 1, 1) := by decide +kernel
theorem dX10_count_1 : decode cX10_count 1 = .ok (.tableswitch 144 0 10 #[59, 67, 75, 83, 91, 99, 107, 115, 123, 131, 139], 59) := by decide +kernel
theorem dX10_count_60 : decode cX10_count 60 = .ok (.aload_n 0, 1) := by decide +kernel
theorem dX10_count_61 : decode cX10_count 61 = .ok (.getfield 16, 3) := by decide +kernel
theorem dX10_count_64 : decode cX10_count 64 = .ok (.invokevirtual 382, 3) := by decide +kernel
theorem dX10_count_67 : decode cX10_count 67 = .ok (.ireturn, 1) := by decide +kernel
theorem dX10_count_68 : decode cX10_count 68 = .ok (.aload_n 0, 1) := by decide +kernel
theorem dX10_count_69 : decode cX10_count 69 = .ok (.getfield 16, 3) := by decide +kernel
theorem dX10_count_72 : decode cX10_count 72 = .ok (.invokevirtual 379, 3) := by decide +kernel
theorem dX10_count_75 : decode cX10_count 75 = .ok (.ireturn, 1) := by decide +kernel
theorem dX10_count_76 : decode cX10_count 76 = .ok (.aload_n 0, 1) := by decide +kernel
theorem dX10_count_77 : decode cX10_count 77 = .ok (.getfield 16, 3) := by decide +kernel
theorem dX10_count_80 : decode cX10_count 80 = .ok (.invokevirtual 96, 3) := by decide +kernel
theorem dX10_count_83 : decode cX10_count 83 = .ok (.ireturn, 1) := by decide +kernel
theorem dX10_count_84 : decode cX10_count 84 = .ok (.aload_n 0, 1) := by decide +kernel
theorem dX10_count_85 : decode cX10_count 85 = .ok (.getfield 16, 3) := by decide +kernel
theorem dX10_count_88 : decode cX10_count 88 = .ok (.invokevirtual 392, 3) := by decide +kernel
theorem dX10_count_91 : decode cX10_count 91 = .ok (.ireturn, 1) := by decide +kernel
theorem dX10_count_92 : decode cX10_count 92 = .ok (.aload_n 0, 1) := by decide +kernel
theorem dX10_count_93 : decode cX10_count 93 = .ok (.getfield 16, 3) := by decide +kernel
theorem dX10_count_96 : decode cX10_count 96 = .ok (.invokevirtual 395, 3) := by decide +kernel
theorem dX10_count_99 : decode cX10_count 99 = .ok (.ireturn, 1) := by decide +kernel
theorem dX10_count_100 : decode cX10_count 100 = .ok (.aload_n 0, 1) := by decide +kernel
theorem dX10_count_101 : decode cX10_count 101 = .ok (.getfield 16, 3) := by decide +kernel
theorem dX10_count_104 : decode cX10_count 104 = .ok (.invokevirtual 243, 3) := by decide +kernel
theorem dX10_count_107 : decode cX10_count 107 = .ok (.ireturn, 1) := by decide +kernel
theorem dX10_count_108 : decode cX10_count 108 = .ok (.aload_n 0, 1) := by decide +kernel
theorem dX10_count_109 : decode cX10_count 109 = .ok (.getfield 57, 3) := by decide +kernel
theorem dX10_count_112 : decode cX10_count 112 = .ok (.invokevirtual 398, 3) := by decide +kernel
theorem dX10_count_115 : decode cX10_count 115 = .ok (.ireturn, 1) := by decide +kernel
theorem dX10_count_116 : decode cX10_count 116 = .ok (.aload_n 0, 1) := by decide +kernel
theorem dX10_count_117 : decode cX10_count 117 = .ok (.getfield 64, 3) := by decide +kernel
theorem dX10_count_120 : decode cX10_count 120 = .ok (.invokevirtual 399, 3) := by decide +kernel
theorem dX10_count_123 : decode cX10_count 123 = .ok (.ireturn, 1) := by decide +kernel
theorem dX10_count_124 : decode cX10_count 124 = .ok (.aload_n 0, 1) := by decide +kernel
theorem dX10_count_125 : decode cX10_count 125 = .ok (.getfield 26, 3) := by decide +kernel
theorem dX10_count_128 : decode cX10_count 128 = .ok (.invokevirtual 262, 3) := by decide +kernel
theorem dX10_count_131 : decode cX10_count 131 = .ok (.ireturn, 1) := by decide +kernel
theorem dX10_count_132 : decode cX10_count 132 = .ok (.aload_n 0, 1) := by decide +kernel
theorem dX10_count_133 : decode cX10_count 133 = .ok (.getfield 50, 3) := by decide +kernel
theorem dX10_count_136 : decode cX10_count 136 = .ok (.invokevirtual 400, 3) := by decide +kernel
theorem dX10_count_139 : decode cX10_count 139 = .ok (.ireturn, 1) := by decide +kernel
theorem dX10_count_140 : decode cX10_count 140 = .ok (.aload_n 0, 1) := by decide +kernel
theorem dX10_count_141 : decode cX10_count 141 = .ok (.getfield 78, 3) := by decide +kernel
theorem dX10_count_144 : decode cX10_count 144 = .ok (.ireturn, 1) := by decide +kernel
theorem dX10_count_145 : decode cX10_count 145 = .ok (.iconst (-1), 1) := by decide +kernel
theorem dX10_count_146 : decode cX10_count 146 = .ok (.ireturn, 1) := by decide +kernel
def fX10_count (h : AH) (a0 : Nat) (a1 : Int32) : Option (Int32) :=
  if hasC h 10 a0 = true then (
    if a1 = 0 then (
      (gR h 10 a0 2).bind fun x2 =>
      (fX9_spaceSet h x2).bind fun q3 =>
      some q3
    ) else (
      if a1 = 1 then (
        (gR h 10 a0 2).bind fun x5 =>
        (fX9_objectSet h x5).bind fun q6 =>
        some q6
      ) else (
        if a1 = 2 then (
          (gR h 10 a0 2).bind fun x8 =>
          (fX9_frameTotal h x8).bind fun q9 =>
          some q9
        ) else (
          if a1 = 3 then (
            (gR h 10 a0 2).bind fun x11 =>
            (fX9_writeTotal h x11).bind fun q12 =>
            some q12
          ) else (
            if a1 = 4 then (
              (gR h 10 a0 2).bind fun x14 =>
              (fX9_sharingTotal h x14).bind fun q15 =>
              some q15
            ) else (
              if a1 = 5 then (
                (gR h 10 a0 2).bind fun x17 =>
                (fX9_awaitedTotal h x17).bind fun q18 =>
                some q18
              ) else (
                if a1 = 6 then (
                  (gR h 10 a0 9).bind fun x20 =>
                  (fX1_total h x20).bind fun q21 =>
                  some q21
                ) else (
                  if a1 = 7 then (
                    (gR h 10 a0 10).bind fun x23 =>
                    (fX8_total h x23).bind fun q24 =>
                    some q24
                  ) else (
                    if a1 = 8 then (
                      (gR h 10 a0 4).bind fun x26 =>
                      (fX2_total h x26).bind fun q27 =>
                      some q27
                    ) else (
                      if a1 = 9 then (
                        (gR h 10 a0 8).bind fun x29 =>
                        (fX5_total h x29).bind fun q30 =>
                        some q30
                      ) else (
                        if a1 = 10 then (
                          (gI h 10 a0 1).bind fun x32 =>
                          some x32
                        ) else (
                          some ((-1)))))))))))))
  ) else none
set_option maxHeartbeats 4000000 in
theorem mX10_count {h : AH} {a0 : Nat} {a1 : Int32} {r : Int32} (hr : fX10_count h a0 a1 = some r) : hasC h 10 a0 = true ∧ MC yX10_count cX10_count 2 (some .int) 3 0 0 [.ref a0, .int a1] h (some (.int r)) h := by
  unfold fX10_count at hr
  obtain ⟨hc, hr⟩ := if_some hr
  refine ⟨hc, mc_of (l0 := [(0, .ref a0), (1, .int a1)]) rfl pn_X10 (Nat.le_of_ble_eq_true rfl) (fun Y X C E O hnm => go_run hr ?_)⟩
  have C : CT Y X RX10 cX10_count 2 := C
  refine go_iload_n (pc := 0) C 1 dX10_count_0 rfl ?_
  refine go_ite (fun hc1 => ?_) (fun hc1 => ?_)
  · refine go_tsw (pc := 1) C 60 0 hc1 dX10_count_1 (by decide) (by decide) rfl (by decide) ?_
    refine go_aload_n (pc := 60) C 0 dX10_count_60 rfl ?_
    refine go_gR (pc := 61) C fdX10_16 dX10_count_61 (fun x2 => ?_)
    refine go_bind (fun q3 hq3 => ?_)
    refine go_callV (rest := []) (st' := [.int q3]) (c' := 0) (s' := 0) (pc := 64) C O miX10_382 mvX9_spaceSet [] rfl (mX9_spaceSet hq3).1 (mX9_spaceSet hq3).2 dX10_count_64 ⟨by decide, by decide, by decide, by decide⟩ rfl (Nat.le_of_ble_eq_true rfl) rfl ⟨rfl, rfl⟩ ?_
    exact go_iret (w := (wI h)) (pc := 67) C E q3 q3 dX10_count_67 rfl
  · refine go_ite (fun hc4 => ?_) (fun hc4 => ?_)
    · refine go_tsw (pc := 1) C 68 1 hc4 dX10_count_1 (by decide) (by decide) rfl (by decide) ?_
      refine go_aload_n (pc := 68) C 0 dX10_count_68 rfl ?_
      refine go_gR (pc := 69) C fdX10_16 dX10_count_69 (fun x5 => ?_)
      refine go_bind (fun q6 hq6 => ?_)
      refine go_callV (rest := []) (st' := [.int q6]) (c' := 0) (s' := 0) (pc := 72) C O miX10_379 mvX9_objectSet [] rfl (mX9_objectSet hq6).1 (mX9_objectSet hq6).2 dX10_count_72 ⟨by decide, by decide, by decide, by decide⟩ rfl (Nat.le_of_ble_eq_true rfl) rfl ⟨rfl, rfl⟩ ?_
      exact go_iret (w := (wI h)) (pc := 75) C E q6 q6 dX10_count_75 rfl
    · refine go_ite (fun hc7 => ?_) (fun hc7 => ?_)
      · refine go_tsw (pc := 1) C 76 2 hc7 dX10_count_1 (by decide) (by decide) rfl (by decide) ?_
        refine go_aload_n (pc := 76) C 0 dX10_count_76 rfl ?_
        refine go_gR (pc := 77) C fdX10_16 dX10_count_77 (fun x8 => ?_)
        refine go_bind (fun q9 hq9 => ?_)
        refine go_callV (rest := []) (st' := [.int q9]) (c' := 0) (s' := 0) (pc := 80) C O miX10_96 mvX9_frameTotal [] rfl (mX9_frameTotal hq9).1 (mX9_frameTotal hq9).2 dX10_count_80 ⟨by decide, by decide, by decide, by decide⟩ rfl (Nat.le_of_ble_eq_true rfl) rfl ⟨rfl, rfl⟩ ?_
        exact go_iret (w := (wI h)) (pc := 83) C E q9 q9 dX10_count_83 rfl
      · refine go_ite (fun hc10 => ?_) (fun hc10 => ?_)
        · refine go_tsw (pc := 1) C 84 3 hc10 dX10_count_1 (by decide) (by decide) rfl (by decide) ?_
          refine go_aload_n (pc := 84) C 0 dX10_count_84 rfl ?_
          refine go_gR (pc := 85) C fdX10_16 dX10_count_85 (fun x11 => ?_)
          refine go_bind (fun q12 hq12 => ?_)
          refine go_callV (rest := []) (st' := [.int q12]) (c' := 0) (s' := 0) (pc := 88) C O miX10_392 mvX9_writeTotal [] rfl (mX9_writeTotal hq12).1 (mX9_writeTotal hq12).2 dX10_count_88 ⟨by decide, by decide, by decide, by decide⟩ rfl (Nat.le_of_ble_eq_true rfl) rfl ⟨rfl, rfl⟩ ?_
          exact go_iret (w := (wI h)) (pc := 91) C E q12 q12 dX10_count_91 rfl
        · refine go_ite (fun hc13 => ?_) (fun hc13 => ?_)
          · refine go_tsw (pc := 1) C 92 4 hc13 dX10_count_1 (by decide) (by decide) rfl (by decide) ?_
            refine go_aload_n (pc := 92) C 0 dX10_count_92 rfl ?_
            refine go_gR (pc := 93) C fdX10_16 dX10_count_93 (fun x14 => ?_)
            refine go_bind (fun q15 hq15 => ?_)
            refine go_callV (rest := []) (st' := [.int q15]) (c' := 0) (s' := 0) (pc := 96) C O miX10_395 mvX9_sharingTotal [] rfl (mX9_sharingTotal hq15).1 (mX9_sharingTotal hq15).2 dX10_count_96 ⟨by decide, by decide, by decide, by decide⟩ rfl (Nat.le_of_ble_eq_true rfl) rfl ⟨rfl, rfl⟩ ?_
            exact go_iret (w := (wI h)) (pc := 99) C E q15 q15 dX10_count_99 rfl
          · refine go_ite (fun hc16 => ?_) (fun hc16 => ?_)
            · refine go_tsw (pc := 1) C 100 5 hc16 dX10_count_1 (by decide) (by decide) rfl (by decide) ?_
              refine go_aload_n (pc := 100) C 0 dX10_count_100 rfl ?_
              refine go_gR (pc := 101) C fdX10_16 dX10_count_101 (fun x17 => ?_)
              refine go_bind (fun q18 hq18 => ?_)
              refine go_callV (rest := []) (st' := [.int q18]) (c' := 0) (s' := 0) (pc := 104) C O miX10_243 mvX9_awaitedTotal [] rfl (mX9_awaitedTotal hq18).1 (mX9_awaitedTotal hq18).2 dX10_count_104 ⟨by decide, by decide, by decide, by decide⟩ rfl (Nat.le_of_ble_eq_true rfl) rfl ⟨rfl, rfl⟩ ?_
              exact go_iret (w := (wI h)) (pc := 107) C E q18 q18 dX10_count_107 rfl
            · refine go_ite (fun hc19 => ?_) (fun hc19 => ?_)
              · refine go_tsw (pc := 1) C 108 6 hc19 dX10_count_1 (by decide) (by decide) rfl (by decide) ?_
                refine go_aload_n (pc := 108) C 0 dX10_count_108 rfl ?_
                refine go_gR (pc := 109) C fdX10_57 dX10_count_109 (fun x20 => ?_)
                refine go_bind (fun q21 hq21 => ?_)
                refine go_callV (rest := []) (st' := [.int q21]) (c' := 0) (s' := 0) (pc := 112) C O miX10_398 mvX1_total [] rfl (mX1_total hq21).1 (mX1_total hq21).2 dX10_count_112 ⟨by decide, by decide, by decide, by decide⟩ rfl (Nat.le_of_ble_eq_true rfl) rfl ⟨rfl, rfl⟩ ?_
                exact go_iret (w := (wI h)) (pc := 115) C E q21 q21 dX10_count_115 rfl
              · refine go_ite (fun hc22 => ?_) (fun hc22 => ?_)
                · refine go_tsw (pc := 1) C 116 7 hc22 dX10_count_1 (by decide) (by decide) rfl (by decide) ?_
                  refine go_aload_n (pc := 116) C 0 dX10_count_116 rfl ?_
                  refine go_gR (pc := 117) C fdX10_64 dX10_count_117 (fun x23 => ?_)
                  refine go_bind (fun q24 hq24 => ?_)
                  refine go_callV (rest := []) (st' := [.int q24]) (c' := 0) (s' := 0) (pc := 120) C O miX10_399 mvX8_total [] rfl (mX8_total hq24).1 (mX8_total hq24).2 dX10_count_120 ⟨by decide, by decide, by decide, by decide⟩ rfl (Nat.le_of_ble_eq_true rfl) rfl ⟨rfl, rfl⟩ ?_
                  exact go_iret (w := (wI h)) (pc := 123) C E q24 q24 dX10_count_123 rfl
                · refine go_ite (fun hc25 => ?_) (fun hc25 => ?_)
                  · refine go_tsw (pc := 1) C 124 8 hc25 dX10_count_1 (by decide) (by decide) rfl (by decide) ?_
                    refine go_aload_n (pc := 124) C 0 dX10_count_124 rfl ?_
                    refine go_gR (pc := 125) C fdX10_26 dX10_count_125 (fun x26 => ?_)
                    refine go_bind (fun q27 hq27 => ?_)
                    refine go_callV (rest := []) (st' := [.int q27]) (c' := 0) (s' := 0) (pc := 128) C O miX10_262 mvX2_total [] rfl (mX2_total hq27).1 (mX2_total hq27).2 dX10_count_128 ⟨by decide, by decide, by decide, by decide⟩ rfl (Nat.le_of_ble_eq_true rfl) rfl ⟨rfl, rfl⟩ ?_
                    exact go_iret (w := (wI h)) (pc := 131) C E q27 q27 dX10_count_131 rfl
                  · refine go_ite (fun hc28 => ?_) (fun hc28 => ?_)
                    · refine go_tsw (pc := 1) C 132 9 hc28 dX10_count_1 (by decide) (by decide) rfl (by decide) ?_
                      refine go_aload_n (pc := 132) C 0 dX10_count_132 rfl ?_
                      refine go_gR (pc := 133) C fdX10_50 dX10_count_133 (fun x29 => ?_)
                      refine go_bind (fun q30 hq30 => ?_)
                      refine go_callV (rest := []) (st' := [.int q30]) (c' := 0) (s' := 0) (pc := 136) C O miX10_400 mvX5_total [] rfl (mX5_total hq30).1 (mX5_total hq30).2 dX10_count_136 ⟨by decide, by decide, by decide, by decide⟩ rfl (Nat.le_of_ble_eq_true rfl) rfl ⟨rfl, rfl⟩ ?_
                      exact go_iret (w := (wI h)) (pc := 139) C E q30 q30 dX10_count_139 rfl
                    · refine go_ite (fun hc31 => ?_) (fun hc31 => ?_)
                      · refine go_tsw (pc := 1) C 140 10 hc31 dX10_count_1 (by decide) (by decide) rfl (by decide) ?_
                        refine go_aload_n (pc := 140) C 0 dX10_count_140 rfl ?_
                        refine go_gI (pc := 141) C fdX10_78 dX10_count_141 (fun x32 => ?_)
                        exact go_iret (w := (wI h)) (pc := 144) C E x32 x32 dX10_count_144 rfl
                      · refine go_tsw_else (pc := 1) C 145 [0, 1, 2, 3, 4, 5, 6, 7, 8, 9, 10] dX10_count_1 (fun v hv => by simp only [List.mem_cons, List.not_mem_nil, or_false] at hv; rcases hv with rfl | rfl | rfl | rfl | rfl | rfl | rfl | rfl | rfl | rfl | rfl <;> first | exact i32_ne hc1 (by decide) | exact i32_ne hc4 (by decide) | exact i32_ne hc7 (by decide) | exact i32_ne hc10 (by decide) | exact i32_ne hc13 (by decide) | exact i32_ne hc16 (by decide) | exact i32_ne hc19 (by decide) | exact i32_ne hc22 (by decide) | exact i32_ne hc25 (by decide) | exact i32_ne hc28 (by decide) | exact i32_ne hc31 (by decide)) (by decide) (by decide) (by decide) ?_
                        refine go_iconst (pc := 145) C dX10_count_145 ki_m1 ?_
                        exact go_iret (w := (wI h)) (pc := 146) C E ((-1)) ((-1)) dX10_count_146 rfl
theorem dX10_row_0 : decode cX10_row 0 = .ok (.aload_n 0, 1) := by decide +kernel
theorem dX10_row_1 : decode cX10_row 1 = .ok (.getfield 50, 3) := by decide +kernel
theorem dX10_row_4 : decode cX10_row 4 = .ok (.iload_n 1, 1) := by decide +kernel
theorem dX10_row_5 : decode cX10_row 5 = .ok (.invokevirtual 401, 3) := by decide +kernel
theorem dX10_row_8 : decode cX10_row 8 = .ok (.ifCond .ne 11, 3) := by decide +kernel
theorem dX10_row_19 : decode cX10_row 19 = .ok (.aload_n 0, 1) := by decide +kernel
theorem dX10_row_20 : decode cX10_row 20 = .ok (.getfield 50, 3) := by decide +kernel
theorem dX10_row_23 : decode cX10_row 23 = .ok (.iload_n 1, 1) := by decide +kernel
theorem dX10_row_24 : decode cX10_row 24 = .ok (.invokevirtual 404, 3) := by decide +kernel
theorem dX10_row_27 : decode cX10_row 27 = .ok (.lreturn, 1) := by decide +kernel
def fX10_row (h : AH) (a0 : Nat) (a1 : Int32) : Option (Int64 × AH) :=
  if hasC h 10 a0 = true then (
    (gR h 10 a0 8).bind fun x1 =>
    (fX5_has h x1 a1).bind fun q2 =>
    if q2 = true then (
      (gR h 10 a0 8).bind fun x3 =>
      (fX5_number h x3 a1).bind fun q4 =>
      some ((q4, h))
    ) else (
      none
    )
  ) else none
set_option maxHeartbeats 4000000 in
theorem mX10_row {h : AH} {a0 : Nat} {a1 : Int32} {r : Int64 × AH} (hr : fX10_row h a0 a1 = some r) : hasC h 10 a0 = true ∧ MC yX10_row cX10_row 2 (some .long) 3 0 0 [.ref a0, .int a1] h (some (.long r.1)) r.2 := by
  unfold fX10_row at hr
  obtain ⟨hc, hr⟩ := if_some hr
  refine ⟨hc, mc_of (l0 := [(0, .ref a0), (1, .int a1)]) rfl pn_X10 (Nat.le_of_ble_eq_true rfl) (fun Y X C E O hnm => go_run hr ?_)⟩
  have C : CT Y X RX10 cX10_row 2 := C
  refine go_aload_n (pc := 0) C 0 dX10_row_0 rfl ?_
  refine go_gR (pc := 1) C fdX10_50 dX10_row_1 (fun x1 => ?_)
  refine go_iload_n (pc := 4) C 1 dX10_row_4 rfl ?_
  refine go_bind (fun q2 hq2 => ?_)
  refine go_callV (rest := []) (st' := [.int (b2i q2)]) (c' := 0) (s' := 0) (pc := 5) C O miX10_401 mvX5_has [.int a1] rfl (mX5_has hq2).1 (mX5_has hq2).2 dX10_row_5 ⟨by decide, by decide, by decide, by decide⟩ rfl (Nat.le_of_ble_eq_true rfl) rfl ⟨rfl, rfl⟩ ?_
  refine go_ifZ_ne (pc := 8) C 19 dX10_row_8 (by decide) (fun _ => ?_) (fun _ => ?_)
  · refine go_aload_n (pc := 19) C 0 dX10_row_19 rfl ?_
    refine go_gR (pc := 20) C fdX10_50 dX10_row_20 (fun x3 => ?_)
    refine go_iload_n (pc := 23) C 1 dX10_row_23 rfl ?_
    refine go_bind (fun q4 hq4 => ?_)
    refine go_callV (rest := []) (st' := [.long q4]) (c' := 0) (s' := 0) (pc := 24) C O miX10_404 mvX5_number [.int a1] rfl (mX5_number hq4).1 (mX5_number hq4).2 dX10_row_24 ⟨by decide, by decide, by decide, by decide⟩ rfl (Nat.le_of_ble_eq_true rfl) rfl ⟨rfl, rfl⟩ ?_
    exact go_lret (w := wJh) (pc := 27) C E ((q4, h)) q4 dX10_row_27 rfl
  · exact go_none _ _ _
theorem dX11_clear_0 : decode cX11_clear 0 = .ok (.iconst 0, 1) := by decide +kernel
theorem dX11_clear_1 : decode cX11_clear 1 = .ok (.istore_n 2, 1) := by decide +kernel
theorem dX11_clear_2 : decode cX11_clear 2 = .ok (.iload_n 2, 1) := by decide +kernel
theorem dX11_clear_3 : decode cX11_clear 3 = .ok (.bipush 8, 2) := by decide +kernel
theorem dX11_clear_5 : decode cX11_clear 5 = .ok (.if_icmp .ge 18, 3) := by decide +kernel
theorem dX11_clear_8 : decode cX11_clear 8 = .ok (.aload_n 0, 1) := by decide +kernel
theorem dX11_clear_9 : decode cX11_clear 9 = .ok (.bipush 8, 2) := by decide +kernel
theorem dX11_clear_11 : decode cX11_clear 11 = .ok (.iload_n 1, 1) := by decide +kernel
theorem dX11_clear_12 : decode cX11_clear 12 = .ok (.imul, 1) := by decide +kernel
theorem dX11_clear_13 : decode cX11_clear 13 = .ok (.iload_n 2, 1) := by decide +kernel
theorem dX11_clear_14 : decode cX11_clear 14 = .ok (.iadd, 1) := by decide +kernel
theorem dX11_clear_15 : decode cX11_clear 15 = .ok (.iconst (-1), 1) := by decide +kernel
theorem dX11_clear_16 : decode cX11_clear 16 = .ok (.iastore, 1) := by decide +kernel
theorem dX11_clear_17 : decode cX11_clear 17 = .ok (.iinc 2 1, 3) := by decide +kernel
theorem dX11_clear_20 : decode cX11_clear 20 = .ok (.goto (-18), 3) := by decide +kernel
theorem dX11_clear_23 : decode cX11_clear 23 = .ok (.aload_n 0, 1) := by decide +kernel
theorem dX11_clear_24 : decode cX11_clear 24 = .ok (.sipush 192, 3) := by decide +kernel
theorem dX11_clear_27 : decode cX11_clear 27 = .ok (.iload_n 1, 1) := by decide +kernel
theorem dX11_clear_28 : decode cX11_clear 28 = .ok (.iadd, 1) := by decide +kernel
theorem dX11_clear_29 : decode cX11_clear 29 = .ok (.iconst (-1), 1) := by decide +kernel
theorem dX11_clear_30 : decode cX11_clear 30 = .ok (.iastore, 1) := by decide +kernel
theorem dX11_clear_31 : decode cX11_clear 31 = .ok (.aload_n 0, 1) := by decide +kernel
theorem dX11_clear_32 : decode cX11_clear 32 = .ok (.sipush 216, 3) := by decide +kernel
theorem dX11_clear_35 : decode cX11_clear 35 = .ok (.iload_n 1, 1) := by decide +kernel
theorem dX11_clear_36 : decode cX11_clear 36 = .ok (.iadd, 1) := by decide +kernel
theorem dX11_clear_37 : decode cX11_clear 37 = .ok (.iconst (-1), 1) := by decide +kernel
theorem dX11_clear_38 : decode cX11_clear 38 = .ok (.iastore, 1) := by decide +kernel
theorem dX11_clear_39 : decode cX11_clear 39 = .ok (.aload_n 0, 1) := by decide +kernel
theorem dX11_clear_40 : decode cX11_clear 40 = .ok (.sipush 240, 3) := by decide +kernel
theorem dX11_clear_43 : decode cX11_clear 43 = .ok (.iload_n 1, 1) := by decide +kernel
theorem dX11_clear_44 : decode cX11_clear 44 = .ok (.iadd, 1) := by decide +kernel
theorem dX11_clear_45 : decode cX11_clear 45 = .ok (.iconst 0, 1) := by decide +kernel
theorem dX11_clear_46 : decode cX11_clear 46 = .ok (.iastore, 1) := by decide +kernel
theorem dX11_clear_47 : decode cX11_clear 47 = .ok (.aload_n 0, 1) := by decide +kernel
theorem dX11_clear_48 : decode cX11_clear 48 = .ok (.sipush 264, 3) := by decide +kernel
theorem dX11_clear_51 : decode cX11_clear 51 = .ok (.iload_n 1, 1) := by decide +kernel
theorem dX11_clear_52 : decode cX11_clear 52 = .ok (.iadd, 1) := by decide +kernel
theorem dX11_clear_53 : decode cX11_clear 53 = .ok (.iconst (-1), 1) := by decide +kernel
theorem dX11_clear_54 : decode cX11_clear 54 = .ok (.iastore, 1) := by decide +kernel
theorem dX11_clear_55 : decode cX11_clear 55 = .ok (.aload_n 0, 1) := by decide +kernel
theorem dX11_clear_56 : decode cX11_clear 56 = .ok (.sipush 288, 3) := by decide +kernel
theorem dX11_clear_59 : decode cX11_clear 59 = .ok (.iload_n 1, 1) := by decide +kernel
theorem dX11_clear_60 : decode cX11_clear 60 = .ok (.iadd, 1) := by decide +kernel
theorem dX11_clear_61 : decode cX11_clear 61 = .ok (.iconst 0, 1) := by decide +kernel
theorem dX11_clear_62 : decode cX11_clear 62 = .ok (.iastore, 1) := by decide +kernel
theorem dX11_clear_63 : decode cX11_clear 63 = .ok (.return_, 1) := by decide +kernel
def fX11_clear_L2 (k23 : AH → Nat → Int32 → Option (AH)) : Nat → AH → Nat → Int32 → Int32 → Option (AH)
  | 0, _, _, _, _ => none
  | n + 1, h, v0, v1, v2 =>
    if 8 ≤ v2 then (
      k23 h v0 v1
    ) else (
      (sI h 0 v0 ((8 * v1) + v2) ((-1))).bind fun h1 =>
      letF (v2 + 1 : Int32) fun x2 =>
      fX11_clear_L2 k23 n h1 v0 v1 x2
    )
def fX11_clear (h : AH) (a0 : Nat) (a1 : Int32) : Option (AH) :=
  fX11_clear_L2
    (fun h5 x3 x4 =>
      (sI h5 0 x3 (192 + x4) ((-1))).bind fun h6 =>
      (sI h6 0 x3 (216 + x4) ((-1))).bind fun h7 =>
      (sI h7 0 x3 (240 + x4) 0).bind fun h8 =>
      (sI h8 0 x3 (264 + x4) ((-1))).bind fun h9 =>
      (sI h9 0 x3 (288 + x4) 0).bind fun h10 =>
      some h10)
    FU h a0 a1 0
set_option maxHeartbeats 4000000 in
theorem gX11_clear_L2 {Y : YT} {X : XT} (C : CT Y X RX11 cX11_clear 3) (O : RO X 1 0 0) {r : AH} (E : RX Y X none none r 0 0) {k23 : AH → Nat → Int32 → Option (AH)} (hk23 : ∀ (h : AH) (v0 : Nat) (v1 : Int32), GO Y X 3 r h 0 0 23 [(0, .ref v0), (1, .int v1)] [] (k23 h v0 v1)) : ∀ (n : Nat) (h : AH) (v0 : Nat) (v1 : Int32) (v2 : Int32), GO Y X 3 r h 0 0 2 [(0, .ref v0), (1, .int v1), (2, .int v2)] [] (fX11_clear_L2 k23 n h v0 v1 v2) := by
  intro n
  induction n with
  | zero => intros; exact go_none _ _ _
  | succ n ih =>
    intro h v0 v1 v2
    rw [fX11_clear_L2]
    refine go_iload_n (pc := 2) C 2 dX11_clear_2 rfl ?_
    refine go_bipush (pc := 3) C dX11_clear_3 kb_8 ?_
    refine go_icmp_ge (pc := 5) C 23 dX11_clear_5 (by decide) (fun _ => ?_) (fun _ => ?_)
    · refine go_sub (ls' := [(0, .ref v0), (1, .int v1)]) [0, 1] rfl ?_
      exact hk23 h v0 v1
    · refine go_aload_n (pc := 8) C 0 dX11_clear_8 rfl ?_
      refine go_bipush (pc := 9) C dX11_clear_9 kb_8 ?_
      refine go_iload_n (pc := 11) C 1 dX11_clear_11 rfl ?_
      refine go_imul (pc := 12) C dX11_clear_12 ?_
      refine go_iload_n (pc := 13) C 2 dX11_clear_13 rfl ?_
      refine go_iadd (pc := 14) C dX11_clear_14 ?_
      refine go_iconst (pc := 15) C dX11_clear_15 ki_m1 ?_
      refine go_iast (pc := 16) C dX11_clear_16 (fun h1 => ?_)
      refine go_iincL (pc := 17) C 2 dX11_clear_17 rfl ki_1 (by decide) (fun x2 => [(2, .int x2), (0, .ref v0), (1, .int v1)]) (fun _ => rfl) (fun x2 => ?_)
      refine go_goto (pc := 20) C 2 dX11_clear_20 (by decide) ?_
      refine go_sub (ls' := [(0, .ref v0), (1, .int v1), (2, .int x2)]) [1, 2, 0] rfl ?_
      exact ih h1 v0 v1 x2
set_option maxHeartbeats 4000000 in
theorem mX11_clear {h : AH} {a0 : Nat} {a1 : Int32} {r : AH} (hr : fX11_clear h a0 a1 = some r) : MC yX11_clear cX11_clear 3 none 1 0 0 [.ref a0, .int a1] h none r := by
  unfold fX11_clear at hr
  refine mc_of (l0 := [(0, .ref a0), (1, .int a1)]) rfl pn_X11 (Nat.le_of_ble_eq_true rfl) (fun Y X C E O hnm => go_run hr ?_)
  have C : CT Y X RX11 cX11_clear 3 := C
  refine go_iconst (pc := 0) C dX11_clear_0 ki_0 ?_
  refine go_istore_n (ls' := [(2, .int 0), (0, .ref a0), (1, .int a1)]) (pc := 1) C dX11_clear_1 (by decide) rfl ?_
  refine go_sub (ls' := [(0, .ref a0), (1, .int a1), (2, .int 0)]) [1, 2, 0] rfl ?_
  refine gX11_clear_L2 C O E (fun h5 x3 x4 => ?_) FU h a0 a1 0
  · refine go_aload_n (pc := 23) C 0 dX11_clear_23 rfl ?_
    refine go_sipush (pc := 24) C dX11_clear_24 ks_192 ?_
    refine go_iload_n (pc := 27) C 1 dX11_clear_27 rfl ?_
    refine go_iadd (pc := 28) C dX11_clear_28 ?_
    refine go_iconst (pc := 29) C dX11_clear_29 ki_m1 ?_
    refine go_iast (pc := 30) C dX11_clear_30 (fun h6 => ?_)
    refine go_aload_n (pc := 31) C 0 dX11_clear_31 rfl ?_
    refine go_sipush (pc := 32) C dX11_clear_32 ks_216 ?_
    refine go_iload_n (pc := 35) C 1 dX11_clear_35 rfl ?_
    refine go_iadd (pc := 36) C dX11_clear_36 ?_
    refine go_iconst (pc := 37) C dX11_clear_37 ki_m1 ?_
    refine go_iast (pc := 38) C dX11_clear_38 (fun h7 => ?_)
    refine go_aload_n (pc := 39) C 0 dX11_clear_39 rfl ?_
    refine go_sipush (pc := 40) C dX11_clear_40 ks_240 ?_
    refine go_iload_n (pc := 43) C 1 dX11_clear_43 rfl ?_
    refine go_iadd (pc := 44) C dX11_clear_44 ?_
    refine go_iconst (pc := 45) C dX11_clear_45 ki_0 ?_
    refine go_iast (pc := 46) C dX11_clear_46 (fun h8 => ?_)
    refine go_aload_n (pc := 47) C 0 dX11_clear_47 rfl ?_
    refine go_sipush (pc := 48) C dX11_clear_48 ks_264 ?_
    refine go_iload_n (pc := 51) C 1 dX11_clear_51 rfl ?_
    refine go_iadd (pc := 52) C dX11_clear_52 ?_
    refine go_iconst (pc := 53) C dX11_clear_53 ki_m1 ?_
    refine go_iast (pc := 54) C dX11_clear_54 (fun h9 => ?_)
    refine go_aload_n (pc := 55) C 0 dX11_clear_55 rfl ?_
    refine go_sipush (pc := 56) C dX11_clear_56 ks_288 ?_
    refine go_iload_n (pc := 59) C 1 dX11_clear_59 rfl ?_
    refine go_iadd (pc := 60) C dX11_clear_60 ?_
    refine go_iconst (pc := 61) C dX11_clear_61 ki_0 ?_
    refine go_iast (pc := 62) C dX11_clear_62 (fun h10 => ?_)
    exact go_vret (w := wV) (pc := 63) C E h10 dX11_clear_63 rfl
theorem dX11_init_0 : decode cX11_init 0 = .ok (.aload_n 0, 1) := by decide +kernel
theorem dX11_init_1 : decode cX11_init 1 = .ok (.invokespecial 3, 3) := by decide +kernel
theorem dX11_init_4 : decode cX11_init 4 = .ok (.aload_n 0, 1) := by decide +kernel
theorem dX11_init_5 : decode cX11_init 5 = .ok (.sipush 325, 3) := by decide +kernel
theorem dX11_init_8 : decode cX11_init 8 = .ok (.newarray .int, 2) := by decide +kernel
theorem dX11_init_10 : decode cX11_init 10 = .ok (.putfield 9, 3) := by decide +kernel
theorem dX11_init_13 : decode cX11_init 13 = .ok (.aload_n 0, 1) := by decide +kernel
theorem dX11_init_14 : decode cX11_init 14 = .ok (.bipush 80, 2) := by decide +kernel
theorem dX11_init_16 : decode cX11_init 16 = .ok (.newarray .byte, 2) := by decide +kernel
theorem dX11_init_18 : decode cX11_init 18 = .ok (.putfield 13, 3) := by decide +kernel
theorem dX11_init_21 : decode cX11_init 21 = .ok (.aload_n 0, 1) := by decide +kernel
theorem dX11_init_22 : decode cX11_init 22 = .ok (.bipush 24, 2) := by decide +kernel
theorem dX11_init_24 : decode cX11_init 24 = .ok (.newarray .long, 2) := by decide +kernel
theorem dX11_init_26 : decode cX11_init 26 = .ok (.putfield 17, 3) := by decide +kernel
theorem dX11_init_29 : decode cX11_init 29 = .ok (.aload_n 0, 1) := by decide +kernel
theorem dX11_init_30 : decode cX11_init 30 = .ok (.bipush 8, 2) := by decide +kernel
theorem dX11_init_32 : decode cX11_init 32 = .ok (.newarray .int, 2) := by decide +kernel
theorem dX11_init_34 : decode cX11_init 34 = .ok (.putfield 21, 3) := by decide +kernel
theorem dX11_init_37 : decode cX11_init 37 = .ok (.aload_n 0, 1) := by decide +kernel
theorem dX11_init_38 : decode cX11_init 38 = .ok (.bipush 40, 2) := by decide +kernel
theorem dX11_init_40 : decode cX11_init 40 = .ok (.newarray .byte, 2) := by decide +kernel
theorem dX11_init_42 : decode cX11_init 42 = .ok (.putfield 24, 3) := by decide +kernel
theorem dX11_init_45 : decode cX11_init 45 = .ok (.aload_n 0, 1) := by decide +kernel
theorem dX11_init_46 : decode cX11_init 46 = .ok (.bipush 40, 2) := by decide +kernel
theorem dX11_init_48 : decode cX11_init 48 = .ok (.newarray .byte, 2) := by decide +kernel
theorem dX11_init_50 : decode cX11_init 50 = .ok (.putfield 27, 3) := by decide +kernel
theorem dX11_init_53 : decode cX11_init 53 = .ok (.aload_n 0, 1) := by decide +kernel
theorem dX11_init_54 : decode cX11_init 54 = .ok (.bipush 7, 2) := by decide +kernel
theorem dX11_init_56 : decode cX11_init 56 = .ok (.newarray .int, 2) := by decide +kernel
theorem dX11_init_58 : decode cX11_init 58 = .ok (.putfield 30, 3) := by decide +kernel
theorem dX11_init_61 : decode cX11_init 61 = .ok (.aload_n 0, 1) := by decide +kernel
theorem dX11_init_62 : decode cX11_init 62 = .ok (.sipush 2600, 3) := by decide +kernel
theorem dX11_init_65 : decode cX11_init 65 = .ok (.newarray .int, 2) := by decide +kernel
theorem dX11_init_67 : decode cX11_init 67 = .ok (.putfield 33, 3) := by decide +kernel
theorem dX11_init_70 : decode cX11_init 70 = .ok (.aload_n 0, 1) := by decide +kernel
theorem dX11_init_71 : decode cX11_init 71 = .ok (.sipush 325, 3) := by decide +kernel
theorem dX11_init_74 : decode cX11_init 74 = .ok (.newarray .int, 2) := by decide +kernel
theorem dX11_init_76 : decode cX11_init 76 = .ok (.putfield 36, 3) := by decide +kernel
theorem dX11_init_79 : decode cX11_init 79 = .ok (.aload_n 0, 1) := by decide +kernel
theorem dX11_init_80 : decode cX11_init 80 = .ok (.sipush 325, 3) := by decide +kernel
theorem dX11_init_83 : decode cX11_init 83 = .ok (.newarray .int, 2) := by decide +kernel
theorem dX11_init_85 : decode cX11_init 85 = .ok (.putfield 39, 3) := by decide +kernel
theorem dX11_init_88 : decode cX11_init 88 = .ok (.aload_n 0, 1) := by decide +kernel
theorem dX11_init_89 : decode cX11_init 89 = .ok (.sipush 320, 3) := by decide +kernel
theorem dX11_init_92 : decode cX11_init 92 = .ok (.newarray .int, 2) := by decide +kernel
theorem dX11_init_94 : decode cX11_init 94 = .ok (.putfield 42, 3) := by decide +kernel
theorem dX11_init_97 : decode cX11_init 97 = .ok (.aload_n 0, 1) := by decide +kernel
theorem dX11_init_98 : decode cX11_init 98 = .ok (.bipush 12, 2) := by decide +kernel
theorem dX11_init_100 : decode cX11_init 100 = .ok (.newarray .int, 2) := by decide +kernel
theorem dX11_init_102 : decode cX11_init 102 = .ok (.putfield 45, 3) := by decide +kernel
theorem dX11_init_105 : decode cX11_init 105 = .ok (.aload_n 0, 1) := by decide +kernel
theorem dX11_init_106 : decode cX11_init 106 = .ok (.bipush 12, 2) := by decide +kernel
theorem dX11_init_108 : decode cX11_init 108 = .ok (.newarray .int, 2) := by decide +kernel
theorem dX11_init_110 : decode cX11_init 110 = .ok (.putfield 48, 3) := by decide +kernel
theorem dX11_init_113 : decode cX11_init 113 = .ok (.aload_n 0, 1) := by decide +kernel
theorem dX11_init_114 : decode cX11_init 114 = .ok (.sipush 192, 3) := by decide +kernel
theorem dX11_init_117 : decode cX11_init 117 = .ok (.newarray .boolean, 2) := by decide +kernel
theorem dX11_init_119 : decode cX11_init 119 = .ok (.putfield 51, 3) := by decide +kernel
theorem dX11_init_122 : decode cX11_init 122 = .ok (.aload_n 0, 1) := by decide +kernel
theorem dX11_init_123 : decode cX11_init 123 = .ok (.bipush 10, 2) := by decide +kernel
theorem dX11_init_125 : decode cX11_init 125 = .ok (.newarray .int, 2) := by decide +kernel
theorem dX11_init_127 : decode cX11_init 127 = .ok (.putfield 55, 3) := by decide +kernel
theorem dX11_init_130 : decode cX11_init 130 = .ok (.aload_n 0, 1) := by decide +kernel
theorem dX11_init_131 : decode cX11_init 131 = .ok (.bipush 10, 2) := by decide +kernel
theorem dX11_init_133 : decode cX11_init 133 = .ok (.newarray .int, 2) := by decide +kernel
theorem dX11_init_135 : decode cX11_init 135 = .ok (.putfield 58, 3) := by decide +kernel
theorem dX11_init_138 : decode cX11_init 138 = .ok (.aload_n 0, 1) := by decide +kernel
theorem dX11_init_139 : decode cX11_init 139 = .ok (.bipush 10, 2) := by decide +kernel
theorem dX11_init_141 : decode cX11_init 141 = .ok (.newarray .int, 2) := by decide +kernel
theorem dX11_init_143 : decode cX11_init 143 = .ok (.putfield 61, 3) := by decide +kernel
theorem dX11_init_146 : decode cX11_init 146 = .ok (.aload_n 0, 1) := by decide +kernel
theorem dX11_init_147 : decode cX11_init 147 = .ok (.bipush 61, 2) := by decide +kernel
theorem dX11_init_149 : decode cX11_init 149 = .ok (.newarray .int, 2) := by decide +kernel
theorem dX11_init_151 : decode cX11_init 151 = .ok (.putfield 64, 3) := by decide +kernel
theorem dX11_init_154 : decode cX11_init 154 = .ok (.aload_n 0, 1) := by decide +kernel
theorem dX11_init_155 : decode cX11_init 155 = .ok (.sipush 650, 3) := by decide +kernel
theorem dX11_init_158 : decode cX11_init 158 = .ok (.newarray .int, 2) := by decide +kernel
theorem dX11_init_160 : decode cX11_init 160 = .ok (.putfield 67, 3) := by decide +kernel
theorem dX11_init_163 : decode cX11_init 163 = .ok (.aload_n 0, 1) := by decide +kernel
theorem dX11_init_164 : decode cX11_init 164 = .ok (.iconst 2, 1) := by decide +kernel
theorem dX11_init_165 : decode cX11_init 165 = .ok (.newarray .boolean, 2) := by decide +kernel
theorem dX11_init_167 : decode cX11_init 167 = .ok (.putfield 70, 3) := by decide +kernel
theorem dX11_init_170 : decode cX11_init 170 = .ok (.iconst 0, 1) := by decide +kernel
theorem dX11_init_171 : decode cX11_init 171 = .ok (.istore_n 1, 1) := by decide +kernel
theorem dX11_init_172 : decode cX11_init 172 = .ok (.iload_n 1, 1) := by decide +kernel
theorem dX11_init_173 : decode cX11_init 173 = .ok (.sipush 325, 3) := by decide +kernel
theorem dX11_init_176 : decode cX11_init 176 = .ok (.if_icmp .ge 16, 3) := by decide +kernel
theorem dX11_init_179 : decode cX11_init 179 = .ok (.aload_n 0, 1) := by decide +kernel
theorem dX11_init_180 : decode cX11_init 180 = .ok (.getfield 9, 3) := by decide +kernel
theorem dX11_init_183 : decode cX11_init 183 = .ok (.iload_n 1, 1) := by decide +kernel
theorem dX11_init_184 : decode cX11_init 184 = .ok (.iconst 0, 1) := by decide +kernel
theorem dX11_init_185 : decode cX11_init 185 = .ok (.iastore, 1) := by decide +kernel
theorem dX11_init_186 : decode cX11_init 186 = .ok (.iinc 1 1, 3) := by decide +kernel
theorem dX11_init_189 : decode cX11_init 189 = .ok (.goto (-17), 3) := by decide +kernel
theorem dX11_init_192 : decode cX11_init 192 = .ok (.iconst 0, 1) := by decide +kernel
theorem dX11_init_193 : decode cX11_init 193 = .ok (.istore_n 1, 1) := by decide +kernel
theorem dX11_init_194 : decode cX11_init 194 = .ok (.iload_n 1, 1) := by decide +kernel
theorem dX11_init_195 : decode cX11_init 195 = .ok (.bipush 24, 2) := by decide +kernel
theorem dX11_init_197 : decode cX11_init 197 = .ok (.if_icmp .ge 17, 3) := by decide +kernel
theorem dX11_init_200 : decode cX11_init 200 = .ok (.aload_n 0, 1) := by decide +kernel
theorem dX11_init_201 : decode cX11_init 201 = .ok (.getfield 9, 3) := by decide +kernel
theorem dX11_init_204 : decode cX11_init 204 = .ok (.iload_n 1, 1) := by decide +kernel
theorem dX11_init_205 : decode cX11_init 205 = .ok (.invokestatic 73, 3) := by decide +kernel
theorem dX11_init_208 : decode cX11_init 208 = .ok (.iinc 1 1, 3) := by decide +kernel
theorem dX11_init_211 : decode cX11_init 211 = .ok (.goto (-17), 3) := by decide +kernel
theorem dX11_init_214 : decode cX11_init 214 = .ok (.iconst 0, 1) := by decide +kernel
theorem dX11_init_215 : decode cX11_init 215 = .ok (.istore_n 1, 1) := by decide +kernel
theorem dX11_init_216 : decode cX11_init 216 = .ok (.iload_n 1, 1) := by decide +kernel
theorem dX11_init_217 : decode cX11_init 217 = .ok (.bipush 6, 2) := by decide +kernel
theorem dX11_init_219 : decode cX11_init 219 = .ok (.if_icmp .ge 20, 3) := by decide +kernel
theorem dX11_init_222 : decode cX11_init 222 = .ok (.aload_n 0, 1) := by decide +kernel
theorem dX11_init_223 : decode cX11_init 223 = .ok (.getfield 9, 3) := by decide +kernel
theorem dX11_init_226 : decode cX11_init 226 = .ok (.sipush 312, 3) := by decide +kernel
theorem dX11_init_229 : decode cX11_init 229 = .ok (.iload_n 1, 1) := by decide +kernel
theorem dX11_init_230 : decode cX11_init 230 = .ok (.iadd, 1) := by decide +kernel
theorem dX11_init_231 : decode cX11_init 231 = .ok (.iconst (-1), 1) := by decide +kernel
theorem dX11_init_232 : decode cX11_init 232 = .ok (.iastore, 1) := by decide +kernel
theorem dX11_init_233 : decode cX11_init 233 = .ok (.iinc 1 1, 3) := by decide +kernel
theorem dX11_init_236 : decode cX11_init 236 = .ok (.goto (-20), 3) := by decide +kernel
theorem dX11_init_239 : decode cX11_init 239 = .ok (.return_, 1) := by decide +kernel
def fX11_init_L172 (k192 : AH → Nat → Option (AH)) : Nat → AH → Nat → Int32 → Option (AH)
  | 0, _, _, _ => none
  | n + 1, h, v0, v1 =>
    if 325 ≤ v1 then (
      k192 h v0
    ) else (
      (gR h 11 v0 0).bind fun x1 =>
      (sI h 0 x1 v1 0).bind fun h2 =>
      letF (v1 + 1 : Int32) fun x3 =>
      fX11_init_L172 k192 n h2 v0 x3
    )
def fX11_init_L194 (k214 : AH → Nat → Option (AH)) : Nat → AH → Nat → Int32 → Option (AH)
  | 0, _, _, _ => none
  | n + 1, h, v0, v1 =>
    if 24 ≤ v1 then (
      k214 h v0
    ) else (
      (gR h 11 v0 0).bind fun x4 =>
      (fX11_clear h x4 v1).bind fun q5 =>
      letF (v1 + 1 : Int32) fun x6 =>
      fX11_init_L194 k214 n q5 v0 x6
    )
def fX11_init_L216 : Nat → AH → Nat → Int32 → Option (AH)
  | 0, _, _, _ => none
  | n + 1, h, v0, v1 =>
    if 6 ≤ v1 then (
      some h
    ) else (
      (gR h 11 v0 0).bind fun x7 =>
      (sI h 0 x7 (312 + v1) ((-1))).bind fun h8 =>
      letF (v1 + 1 : Int32) fun x9 =>
      fX11_init_L216 n h8 v0 x9
    )
def fX11_init (h : AH) (a0 : Nat) : Option (AH) :=
  letF (hnew h (.inl (0, newD 0 325))) fun h10 =>
  (pF h10 11 a0 0 (.ref h.2)).bind fun h11 =>
  letF (hnew h11 (.inl (3, newD 3 80))) fun h12 =>
  (pF h12 11 a0 1 (.ref h11.2)).bind fun h13 =>
  letF (hnew h13 (.inl (1, newD 1 24))) fun h14 =>
  (pF h14 11 a0 3 (.ref h13.2)).bind fun h15 =>
  letF (hnew h15 (.inl (0, newD 0 8))) fun h16 =>
  (pF h16 11 a0 11 (.ref h15.2)).bind fun h17 =>
  letF (hnew h17 (.inl (3, newD 3 40))) fun h18 =>
  (pF h18 11 a0 12 (.ref h17.2)).bind fun h19 =>
  letF (hnew h19 (.inl (3, newD 3 40))) fun h20 =>
  (pF h20 11 a0 13 (.ref h19.2)).bind fun h21 =>
  letF (hnew h21 (.inl (0, newD 0 7))) fun h22 =>
  (pF h22 11 a0 16 (.ref h21.2)).bind fun h23 =>
  letF (hnew h23 (.inl (0, newD 0 2600))) fun h24 =>
  (pF h24 11 a0 17 (.ref h23.2)).bind fun h25 =>
  letF (hnew h25 (.inl (0, newD 0 325))) fun h26 =>
  (pF h26 11 a0 19 (.ref h25.2)).bind fun h27 =>
  letF (hnew h27 (.inl (0, newD 0 325))) fun h28 =>
  (pF h28 11 a0 20 (.ref h27.2)).bind fun h29 =>
  letF (hnew h29 (.inl (0, newD 0 320))) fun h30 =>
  (pF h30 11 a0 23 (.ref h29.2)).bind fun h31 =>
  letF (hnew h31 (.inl (0, newD 0 12))) fun h32 =>
  (pF h32 11 a0 24 (.ref h31.2)).bind fun h33 =>
  letF (hnew h33 (.inl (0, newD 0 12))) fun h34 =>
  (pF h34 11 a0 25 (.ref h33.2)).bind fun h35 =>
  letF (hnew h35 (.inl (4, newD 4 192))) fun h36 =>
  (pF h36 11 a0 27 (.ref h35.2)).bind fun h37 =>
  letF (hnew h37 (.inl (0, newD 0 10))) fun h38 =>
  (pF h38 11 a0 28 (.ref h37.2)).bind fun h39 =>
  letF (hnew h39 (.inl (0, newD 0 10))) fun h40 =>
  (pF h40 11 a0 29 (.ref h39.2)).bind fun h41 =>
  letF (hnew h41 (.inl (0, newD 0 10))) fun h42 =>
  (pF h42 11 a0 30 (.ref h41.2)).bind fun h43 =>
  letF (hnew h43 (.inl (0, newD 0 61))) fun h44 =>
  (pF h44 11 a0 32 (.ref h43.2)).bind fun h45 =>
  letF (hnew h45 (.inl (0, newD 0 650))) fun h46 =>
  (pF h46 11 a0 34 (.ref h45.2)).bind fun h47 =>
  letF (hnew h47 (.inl (4, newD 4 2))) fun h48 =>
  (pF h48 11 a0 35 (.ref h47.2)).bind fun h49 =>
  fX11_init_L172
    (fun h51 x50 =>
      fX11_init_L194
        (fun h53 x52 =>
          fX11_init_L216 FU h53 x52 0)
        FU h51 x50 0)
    FU h49 a0 0
set_option maxHeartbeats 4000000 in
theorem gX11_init_L172 {Y : YT} {X : XT} (C : CT Y X RX11 cX11_init 2) (O : RO X 2 20 5053) {r : AH} (E : RX Y X none none r 20 5053) {k192 : AH → Nat → Option (AH)} (hk192 : ∀ (h : AH) (v0 : Nat), GO Y X 2 r h 20 5053 192 [(0, .ref v0)] [] (k192 h v0)) : ∀ (n : Nat) (h : AH) (v0 : Nat) (v1 : Int32), GO Y X 2 r h 20 5053 172 [(0, .ref v0), (1, .int v1)] [] (fX11_init_L172 k192 n h v0 v1) := by
  intro n
  induction n with
  | zero => intros; exact go_none _ _ _
  | succ n ih =>
    intro h v0 v1
    rw [fX11_init_L172]
    refine go_iload_n (pc := 172) C 1 dX11_init_172 rfl ?_
    refine go_sipush (pc := 173) C dX11_init_173 ks_325 ?_
    refine go_icmp_ge (pc := 176) C 192 dX11_init_176 (by decide) (fun _ => ?_) (fun _ => ?_)
    · refine go_sub (ls' := [(0, .ref v0)]) [0] rfl ?_
      exact hk192 h v0
    · refine go_aload_n (pc := 179) C 0 dX11_init_179 rfl ?_
      refine go_gR (pc := 180) C fdX11_9 dX11_init_180 (fun x1 => ?_)
      refine go_iload_n (pc := 183) C 1 dX11_init_183 rfl ?_
      refine go_iconst (pc := 184) C dX11_init_184 ki_0 ?_
      refine go_iast (pc := 185) C dX11_init_185 (fun h2 => ?_)
      refine go_iincL (pc := 186) C 1 dX11_init_186 rfl ki_1 (by decide) (fun x3 => [(1, .int x3), (0, .ref v0)]) (fun _ => rfl) (fun x3 => ?_)
      refine go_goto (pc := 189) C 172 dX11_init_189 (by decide) ?_
      refine go_sub (ls' := [(0, .ref v0), (1, .int x3)]) [1, 0] rfl ?_
      exact ih h2 v0 x3
set_option maxHeartbeats 4000000 in
theorem gX11_init_L194 {Y : YT} {X : XT} (C : CT Y X RX11 cX11_init 2) (O : RO X 2 20 5053) {r : AH} (E : RX Y X none none r 20 5053) {k214 : AH → Nat → Option (AH)} (hk214 : ∀ (h : AH) (v0 : Nat), GO Y X 2 r h 20 5053 214 [(0, .ref v0)] [] (k214 h v0)) : ∀ (n : Nat) (h : AH) (v0 : Nat) (v1 : Int32), GO Y X 2 r h 20 5053 194 [(0, .ref v0), (1, .int v1)] [] (fX11_init_L194 k214 n h v0 v1) := by
  intro n
  induction n with
  | zero => intros; exact go_none _ _ _
  | succ n ih =>
    intro h v0 v1
    rw [fX11_init_L194]
    refine go_iload_n (pc := 194) C 1 dX11_init_194 rfl ?_
    refine go_bipush (pc := 195) C dX11_init_195 kb_24 ?_
    refine go_icmp_ge (pc := 197) C 214 dX11_init_197 (by decide) (fun _ => ?_) (fun _ => ?_)
    · refine go_sub (ls' := [(0, .ref v0)]) [0] rfl ?_
      exact hk214 h v0
    · refine go_aload_n (pc := 200) C 0 dX11_init_200 rfl ?_
      refine go_gR (pc := 201) C fdX11_9 dX11_init_201 (fun x4 => ?_)
      refine go_iload_n (pc := 204) C 1 dX11_init_204 rfl ?_
      refine go_bind (fun q5 hq5 => ?_)
      refine go_callS (rest := []) (st' := []) (c' := 20) (s' := 5053) (pc := 205) C O miX11_73 w_1313 [.ref x4, .int v1] rfl (mX11_clear hq5) dX11_init_205 ⟨by decide, by decide, by decide, by decide⟩ rfl (Nat.le_of_ble_eq_true rfl) rfl ⟨rfl, rfl⟩ ?_
      refine go_iincL (pc := 208) C 1 dX11_init_208 rfl ki_1 (by decide) (fun x6 => [(1, .int x6), (0, .ref v0)]) (fun _ => rfl) (fun x6 => ?_)
      refine go_goto (pc := 211) C 194 dX11_init_211 (by decide) ?_
      refine go_sub (ls' := [(0, .ref v0), (1, .int x6)]) [1, 0] rfl ?_
      exact ih q5 v0 x6
set_option maxHeartbeats 4000000 in
theorem gX11_init_L216 {Y : YT} {X : XT} (C : CT Y X RX11 cX11_init 2) (O : RO X 2 20 5053) {r : AH} (E : RX Y X none none r 20 5053) : ∀ (n : Nat) (h : AH) (v0 : Nat) (v1 : Int32), GO Y X 2 r h 20 5053 216 [(0, .ref v0), (1, .int v1)] [] (fX11_init_L216 n h v0 v1) := by
  intro n
  induction n with
  | zero => intros; exact go_none _ _ _
  | succ n ih =>
    intro h v0 v1
    rw [fX11_init_L216]
    refine go_iload_n (pc := 216) C 1 dX11_init_216 rfl ?_
    refine go_bipush (pc := 217) C dX11_init_217 kb_6 ?_
    refine go_icmp_ge (pc := 219) C 239 dX11_init_219 (by decide) (fun _ => ?_) (fun _ => ?_)
    · exact go_vret (w := wV) (pc := 239) C E h dX11_init_239 rfl
    · refine go_aload_n (pc := 222) C 0 dX11_init_222 rfl ?_
      refine go_gR (pc := 223) C fdX11_9 dX11_init_223 (fun x7 => ?_)
      refine go_sipush (pc := 226) C dX11_init_226 ks_312 ?_
      refine go_iload_n (pc := 229) C 1 dX11_init_229 rfl ?_
      refine go_iadd (pc := 230) C dX11_init_230 ?_
      refine go_iconst (pc := 231) C dX11_init_231 ki_m1 ?_
      refine go_iast (pc := 232) C dX11_init_232 (fun h8 => ?_)
      refine go_iincL (pc := 233) C 1 dX11_init_233 rfl ki_1 (by decide) (fun x9 => [(1, .int x9), (0, .ref v0)]) (fun _ => rfl) (fun x9 => ?_)
      refine go_goto (pc := 236) C 216 dX11_init_236 (by decide) ?_
      refine go_sub (ls' := [(0, .ref v0), (1, .int x9)]) [1, 0] rfl ?_
      exact ih h8 v0 x9
set_option maxHeartbeats 4000000 in
theorem mX11_init {h : AH} {a0 : Nat} {r : AH} (hr : fX11_init h a0 = some r) : MC yX11_init cX11_init 2 none 2 20 5053 [.ref a0] h none r := by
  unfold fX11_init at hr
  refine mc_of (l0 := [(0, .ref a0)]) rfl pn_X11 (Nat.le_of_ble_eq_true rfl) (fun Y X C E O hnm => go_run hr ?_)
  have C : CT Y X RX11 cX11_init 2 := C
  refine go_aload_n (pc := 0) C 0 dX11_init_0 rfl ?_
  refine go_objInit (pc := 1) C O w_1311 w_120 w_121 dX11_init_1 (by decide) (Nat.le_of_ble_eq_true rfl) ?_
  refine go_aload_n (pc := 4) C 0 dX11_init_4 rfl ?_
  refine go_sipush (pc := 5) C dX11_init_5 ks_325 ?_
  refine go_newa (atype := .int) (t := 0) (c' := 1) (s' := 325) (pc := 8) 325 C O ⟨rfl, by decide⟩ w_172 (by decide) (by decide) (by decide) dX11_init_8 ⟨by decide, by decide⟩ ⟨rfl, rfl⟩ (fun h10 => ?_)
  refine go_pRF (pc := 10) C hnm fpX11_9 dX11_init_10 (fun _ => rfl) (fun _ => rfl) (fun h11 => ?_)
  refine go_aload_n (pc := 13) C 0 dX11_init_13 rfl ?_
  refine go_bipush (pc := 14) C dX11_init_14 kb_80 ?_
  refine go_newa (atype := .byte) (t := 3) (c' := 2) (s' := 405) (pc := 16) 80 C O ⟨rfl, by decide⟩ w_869 (by decide) (by decide) (by decide) dX11_init_16 ⟨by decide, by decide⟩ ⟨rfl, rfl⟩ (fun h12 => ?_)
  refine go_pRF (pc := 18) C hnm fpX11_13 dX11_init_18 (fun _ => rfl) (fun _ => rfl) (fun h13 => ?_)
  refine go_aload_n (pc := 21) C 0 dX11_init_21 rfl ?_
  refine go_bipush (pc := 22) C dX11_init_22 kb_24 ?_
  refine go_newa (atype := .long) (t := 1) (c' := 3) (s' := 429) (pc := 24) 24 C O ⟨rfl, by decide⟩ w_253 (by decide) (by decide) (by decide) dX11_init_24 ⟨by decide, by decide⟩ ⟨rfl, rfl⟩ (fun h14 => ?_)
  refine go_pRF (pc := 26) C hnm fpX11_17 dX11_init_26 (fun _ => rfl) (fun _ => rfl) (fun h15 => ?_)
  refine go_aload_n (pc := 29) C 0 dX11_init_29 rfl ?_
  refine go_bipush (pc := 30) C dX11_init_30 kb_8 ?_
  refine go_newa (atype := .int) (t := 0) (c' := 4) (s' := 437) (pc := 32) 8 C O ⟨rfl, by decide⟩ w_172 (by decide) (by decide) (by decide) dX11_init_32 ⟨by decide, by decide⟩ ⟨rfl, rfl⟩ (fun h16 => ?_)
  refine go_pRF (pc := 34) C hnm fpX11_21 dX11_init_34 (fun _ => rfl) (fun _ => rfl) (fun h17 => ?_)
  refine go_aload_n (pc := 37) C 0 dX11_init_37 rfl ?_
  refine go_bipush (pc := 38) C dX11_init_38 kb_40 ?_
  refine go_newa (atype := .byte) (t := 3) (c' := 5) (s' := 477) (pc := 40) 40 C O ⟨rfl, by decide⟩ w_869 (by decide) (by decide) (by decide) dX11_init_40 ⟨by decide, by decide⟩ ⟨rfl, rfl⟩ (fun h18 => ?_)
  refine go_pR (pc := 42) C fpX11_24 dX11_init_42 (fun _ => rfl) (fun _ => rfl) (fun h19 => ?_)
  refine go_aload_n (pc := 45) C 0 dX11_init_45 rfl ?_
  refine go_bipush (pc := 46) C dX11_init_46 kb_40 ?_
  refine go_newa (atype := .byte) (t := 3) (c' := 6) (s' := 517) (pc := 48) 40 C O ⟨rfl, by decide⟩ w_869 (by decide) (by decide) (by decide) dX11_init_48 ⟨by decide, by decide⟩ ⟨rfl, rfl⟩ (fun h20 => ?_)
  refine go_pR (pc := 50) C fpX11_27 dX11_init_50 (fun _ => rfl) (fun _ => rfl) (fun h21 => ?_)
  refine go_aload_n (pc := 53) C 0 dX11_init_53 rfl ?_
  refine go_bipush (pc := 54) C dX11_init_54 kb_7 ?_
  refine go_newa (atype := .int) (t := 0) (c' := 7) (s' := 524) (pc := 56) 7 C O ⟨rfl, by decide⟩ w_172 (by decide) (by decide) (by decide) dX11_init_56 ⟨by decide, by decide⟩ ⟨rfl, rfl⟩ (fun h22 => ?_)
  refine go_pRF (pc := 58) C hnm fpX11_30 dX11_init_58 (fun _ => rfl) (fun _ => rfl) (fun h23 => ?_)
  refine go_aload_n (pc := 61) C 0 dX11_init_61 rfl ?_
  refine go_sipush (pc := 62) C dX11_init_62 ks_2600 ?_
  refine go_newa (atype := .int) (t := 0) (c' := 8) (s' := 3124) (pc := 65) 2600 C O ⟨rfl, by decide⟩ w_172 (by decide) (by decide) (by decide) dX11_init_65 ⟨by decide, by decide⟩ ⟨rfl, rfl⟩ (fun h24 => ?_)
  refine go_pRF (pc := 67) C hnm fpX11_33 dX11_init_67 (fun _ => rfl) (fun _ => rfl) (fun h25 => ?_)
  refine go_aload_n (pc := 70) C 0 dX11_init_70 rfl ?_
  refine go_sipush (pc := 71) C dX11_init_71 ks_325 ?_
  refine go_newa (atype := .int) (t := 0) (c' := 9) (s' := 3449) (pc := 74) 325 C O ⟨rfl, by decide⟩ w_172 (by decide) (by decide) (by decide) dX11_init_74 ⟨by decide, by decide⟩ ⟨rfl, rfl⟩ (fun h26 => ?_)
  refine go_pRF (pc := 76) C hnm fpX11_36 dX11_init_76 (fun _ => rfl) (fun _ => rfl) (fun h27 => ?_)
  refine go_aload_n (pc := 79) C 0 dX11_init_79 rfl ?_
  refine go_sipush (pc := 80) C dX11_init_80 ks_325 ?_
  refine go_newa (atype := .int) (t := 0) (c' := 10) (s' := 3774) (pc := 83) 325 C O ⟨rfl, by decide⟩ w_172 (by decide) (by decide) (by decide) dX11_init_83 ⟨by decide, by decide⟩ ⟨rfl, rfl⟩ (fun h28 => ?_)
  refine go_pRF (pc := 85) C hnm fpX11_39 dX11_init_85 (fun _ => rfl) (fun _ => rfl) (fun h29 => ?_)
  refine go_aload_n (pc := 88) C 0 dX11_init_88 rfl ?_
  refine go_sipush (pc := 89) C dX11_init_89 ks_320 ?_
  refine go_newa (atype := .int) (t := 0) (c' := 11) (s' := 4094) (pc := 92) 320 C O ⟨rfl, by decide⟩ w_172 (by decide) (by decide) (by decide) dX11_init_92 ⟨by decide, by decide⟩ ⟨rfl, rfl⟩ (fun h30 => ?_)
  refine go_pRF (pc := 94) C hnm fpX11_42 dX11_init_94 (fun _ => rfl) (fun _ => rfl) (fun h31 => ?_)
  refine go_aload_n (pc := 97) C 0 dX11_init_97 rfl ?_
  refine go_bipush (pc := 98) C dX11_init_98 kb_12 ?_
  refine go_newa (atype := .int) (t := 0) (c' := 12) (s' := 4106) (pc := 100) 12 C O ⟨rfl, by decide⟩ w_172 (by decide) (by decide) (by decide) dX11_init_100 ⟨by decide, by decide⟩ ⟨rfl, rfl⟩ (fun h32 => ?_)
  refine go_pRF (pc := 102) C hnm fpX11_45 dX11_init_102 (fun _ => rfl) (fun _ => rfl) (fun h33 => ?_)
  refine go_aload_n (pc := 105) C 0 dX11_init_105 rfl ?_
  refine go_bipush (pc := 106) C dX11_init_106 kb_12 ?_
  refine go_newa (atype := .int) (t := 0) (c' := 13) (s' := 4118) (pc := 108) 12 C O ⟨rfl, by decide⟩ w_172 (by decide) (by decide) (by decide) dX11_init_108 ⟨by decide, by decide⟩ ⟨rfl, rfl⟩ (fun h34 => ?_)
  refine go_pRF (pc := 110) C hnm fpX11_48 dX11_init_110 (fun _ => rfl) (fun _ => rfl) (fun h35 => ?_)
  refine go_aload_n (pc := 113) C 0 dX11_init_113 rfl ?_
  refine go_sipush (pc := 114) C dX11_init_114 ks_192 ?_
  refine go_newa (atype := .boolean) (t := 4) (c' := 14) (s' := 4310) (pc := 117) 192 C O ⟨rfl, by decide⟩ w_198 (by decide) (by decide) (by decide) dX11_init_117 ⟨by decide, by decide⟩ ⟨rfl, rfl⟩ (fun h36 => ?_)
  refine go_pRF (pc := 119) C hnm fpX11_51 dX11_init_119 (fun _ => rfl) (fun _ => rfl) (fun h37 => ?_)
  refine go_aload_n (pc := 122) C 0 dX11_init_122 rfl ?_
  refine go_bipush (pc := 123) C dX11_init_123 kb_10 ?_
  refine go_newa (atype := .int) (t := 0) (c' := 15) (s' := 4320) (pc := 125) 10 C O ⟨rfl, by decide⟩ w_172 (by decide) (by decide) (by decide) dX11_init_125 ⟨by decide, by decide⟩ ⟨rfl, rfl⟩ (fun h38 => ?_)
  refine go_pRF (pc := 127) C hnm fpX11_55 dX11_init_127 (fun _ => rfl) (fun _ => rfl) (fun h39 => ?_)
  refine go_aload_n (pc := 130) C 0 dX11_init_130 rfl ?_
  refine go_bipush (pc := 131) C dX11_init_131 kb_10 ?_
  refine go_newa (atype := .int) (t := 0) (c' := 16) (s' := 4330) (pc := 133) 10 C O ⟨rfl, by decide⟩ w_172 (by decide) (by decide) (by decide) dX11_init_133 ⟨by decide, by decide⟩ ⟨rfl, rfl⟩ (fun h40 => ?_)
  refine go_pRF (pc := 135) C hnm fpX11_58 dX11_init_135 (fun _ => rfl) (fun _ => rfl) (fun h41 => ?_)
  refine go_aload_n (pc := 138) C 0 dX11_init_138 rfl ?_
  refine go_bipush (pc := 139) C dX11_init_139 kb_10 ?_
  refine go_newa (atype := .int) (t := 0) (c' := 17) (s' := 4340) (pc := 141) 10 C O ⟨rfl, by decide⟩ w_172 (by decide) (by decide) (by decide) dX11_init_141 ⟨by decide, by decide⟩ ⟨rfl, rfl⟩ (fun h42 => ?_)
  refine go_pRF (pc := 143) C hnm fpX11_61 dX11_init_143 (fun _ => rfl) (fun _ => rfl) (fun h43 => ?_)
  refine go_aload_n (pc := 146) C 0 dX11_init_146 rfl ?_
  refine go_bipush (pc := 147) C dX11_init_147 kb_61 ?_
  refine go_newa (atype := .int) (t := 0) (c' := 18) (s' := 4401) (pc := 149) 61 C O ⟨rfl, by decide⟩ w_172 (by decide) (by decide) (by decide) dX11_init_149 ⟨by decide, by decide⟩ ⟨rfl, rfl⟩ (fun h44 => ?_)
  refine go_pRF (pc := 151) C hnm fpX11_64 dX11_init_151 (fun _ => rfl) (fun _ => rfl) (fun h45 => ?_)
  refine go_aload_n (pc := 154) C 0 dX11_init_154 rfl ?_
  refine go_sipush (pc := 155) C dX11_init_155 ks_650 ?_
  refine go_newa (atype := .int) (t := 0) (c' := 19) (s' := 5051) (pc := 158) 650 C O ⟨rfl, by decide⟩ w_172 (by decide) (by decide) (by decide) dX11_init_158 ⟨by decide, by decide⟩ ⟨rfl, rfl⟩ (fun h46 => ?_)
  refine go_pRF (pc := 160) C hnm fpX11_67 dX11_init_160 (fun _ => rfl) (fun _ => rfl) (fun h47 => ?_)
  refine go_aload_n (pc := 163) C 0 dX11_init_163 rfl ?_
  refine go_iconst (pc := 164) C dX11_init_164 ki_2 ?_
  refine go_newa (atype := .boolean) (t := 4) (c' := 20) (s' := 5053) (pc := 165) 2 C O ⟨rfl, by decide⟩ w_198 (by decide) (by decide) (by decide) dX11_init_165 ⟨by decide, by decide⟩ ⟨rfl, rfl⟩ (fun h48 => ?_)
  refine go_pRF (pc := 167) C hnm fpX11_70 dX11_init_167 (fun _ => rfl) (fun _ => rfl) (fun h49 => ?_)
  refine go_iconst (pc := 170) C dX11_init_170 ki_0 ?_
  refine go_istore_n (ls' := [(1, .int 0), (0, .ref a0)]) (pc := 171) C dX11_init_171 (by decide) rfl ?_
  refine go_sub (ls' := [(0, .ref a0), (1, .int 0)]) [1, 0] rfl ?_
  refine gX11_init_L172 C O E (fun h51 x50 => ?_) FU h49 a0 0
  · refine go_iconst (pc := 192) C dX11_init_192 ki_0 ?_
    refine go_istore_n (ls' := [(1, .int 0), (0, .ref x50)]) (pc := 193) C dX11_init_193 (by decide) rfl ?_
    refine go_sub (ls' := [(0, .ref x50), (1, .int 0)]) [1, 0] rfl ?_
    refine gX11_init_L194 C O E (fun h53 x52 => ?_) FU h51 x50 0
    · refine go_iconst (pc := 214) C dX11_init_214 ki_0 ?_
      refine go_istore_n (ls' := [(1, .int 0), (0, .ref x52)]) (pc := 215) C dX11_init_215 (by decide) rfl ?_
      refine go_sub (ls' := [(0, .ref x52), (1, .int 0)]) [1, 0] rfl ?_
      refine gX11_init_L216 C O E FU h53 x52 0
theorem dX11_thrown_0 : decode cX11_thrown 0 = .ok (.aload_n 0, 1) := by decide +kernel
theorem dX11_thrown_1 : decode cX11_thrown 1 = .ok (.getfield 77, 3) := by decide +kernel
theorem dX11_thrown_4 : decode cX11_thrown 4 = .ok (.ireturn, 1) := by decide +kernel
def fX11_thrown (h : AH) (a0 : Nat) : Option (Int32) :=
  if hasC h 11 a0 = true then (
    (gI h 11 a0 5).bind fun x1 =>
    some x1
  ) else none
set_option maxHeartbeats 4000000 in
theorem mX11_thrown {h : AH} {a0 : Nat} {r : Int32} (hr : fX11_thrown h a0 = some r) : hasC h 11 a0 = true ∧ MC yX11_thrown cX11_thrown 1 (some .int) 1 0 0 [.ref a0] h (some (.int r)) h := by
  unfold fX11_thrown at hr
  obtain ⟨hc, hr⟩ := if_some hr
  refine ⟨hc, mc_of (l0 := [(0, .ref a0)]) rfl pn_X11 (Nat.le_of_ble_eq_true rfl) (fun Y X C E O hnm => go_run hr ?_)⟩
  have C : CT Y X RX11 cX11_thrown 1 := C
  refine go_aload_n (pc := 0) C 0 dX11_thrown_0 rfl ?_
  refine go_gI (pc := 1) C fdX11_77 dX11_thrown_1 (fun x1 => ?_)
  exact go_iret (w := (wI h)) (pc := 4) C E x1 x1 dX11_thrown_4 rfl
theorem dX11_in_0 : decode cX11_in 0 = .ok (.iload_n 0, 1) := by decide +kernel
theorem dX11_in_1 : decode cX11_in 1 = .ok (.iload_n 1, 1) := by decide +kernel
theorem dX11_in_2 : decode cX11_in 2 = .ok (.if_icmp .lt 12, 3) := by decide +kernel
theorem dX11_in_5 : decode cX11_in 5 = .ok (.iload_n 0, 1) := by decide +kernel
theorem dX11_in_6 : decode cX11_in 6 = .ok (.iload_n 2, 1) := by decide +kernel
theorem dX11_in_7 : decode cX11_in 7 = .ok (.if_icmp .gt 7, 3) := by decide +kernel
theorem dX11_in_10 : decode cX11_in 10 = .ok (.iconst 1, 1) := by decide +kernel
theorem dX11_in_11 : decode cX11_in 11 = .ok (.goto 4, 3) := by decide +kernel
theorem dX11_in_14 : decode cX11_in 14 = .ok (.iconst 0, 1) := by decide +kernel
theorem dX11_in_15 : decode cX11_in 15 = .ok (.ireturn, 1) := by decide +kernel
def fX11_in (h : AH) (a0 : Int32) (a1 : Int32) (a2 : Int32) : Option (Bool) :=
  if a0 < a1 then (
    some false
  ) else (
    if a2 < a0 then (
      some false
    ) else (
      some true
    )
  )
set_option maxHeartbeats 4000000 in
theorem mX11_in {h : AH} {a0 : Int32} {a1 : Int32} {a2 : Int32} {r : Bool} (hr : fX11_in h a0 a1 a2 = some r) : MC yX11_in cX11_in 3 (some .boolean) 1 0 0 [.int a0, .int a1, .int a2] h (some (.int (b2i r))) h := by
  unfold fX11_in at hr
  refine mc_of (l0 := [(0, .int a0), (1, .int a1), (2, .int a2)]) rfl pn_X11 (Nat.le_of_ble_eq_true rfl) (fun Y X C E O hnm => go_run hr ?_)
  have C : CT Y X RX11 cX11_in 3 := C
  refine go_iload_n (pc := 0) C 0 dX11_in_0 rfl ?_
  refine go_iload_n (pc := 1) C 1 dX11_in_1 rfl ?_
  refine go_icmp_lt (pc := 2) C 14 dX11_in_2 (by decide) (fun _ => ?_) (fun _ => ?_)
  · refine go_iconst (pc := 14) C dX11_in_14 ki_0 ?_
    exact go_bret (w := (wZ h)) (pc := 15) C E false 0 false rfl dX11_in_15 rfl
  · refine go_iload_n (pc := 5) C 0 dX11_in_5 rfl ?_
    refine go_iload_n (pc := 6) C 2 dX11_in_6 rfl ?_
    refine go_icmp_gt (pc := 7) C 14 dX11_in_7 (by decide) (fun _ => ?_) (fun _ => ?_)
    · refine go_iconst (pc := 14) C dX11_in_14 ki_0 ?_
      exact go_bret (w := (wZ h)) (pc := 15) C E false 0 false rfl dX11_in_15 rfl
    · refine go_iconst (pc := 10) C dX11_in_10 ki_1 ?_
      refine go_goto (pc := 11) C 15 dX11_in_11 (by decide) ?_
      exact go_bret (w := (wZ h)) (pc := 15) C E true 1 true rfl dX11_in_15 rfl
theorem dX11_has_0 : decode cX11_has 0 = .ok (.iload_n 0, 1) := by decide +kernel
theorem dX11_has_1 : decode cX11_has 1 = .ok (.iload_n 1, 1) := by decide +kernel
theorem dX11_has_2 : decode cX11_has 2 = .ok (.ishr, 1) := by decide +kernel
theorem dX11_has_3 : decode cX11_has 3 = .ok (.iconst 1, 1) := by decide +kernel
theorem dX11_has_4 : decode cX11_has 4 = .ok (.iand, 1) := by decide +kernel
theorem dX11_has_5 : decode cX11_has 5 = .ok (.iconst 1, 1) := by decide +kernel
theorem dX11_has_6 : decode cX11_has 6 = .ok (.if_icmp .ne 7, 3) := by decide +kernel
theorem dX11_has_9 : decode cX11_has 9 = .ok (.iconst 1, 1) := by decide +kernel
theorem dX11_has_10 : decode cX11_has 10 = .ok (.goto 4, 3) := by decide +kernel
theorem dX11_has_13 : decode cX11_has 13 = .ok (.iconst 0, 1) := by decide +kernel
theorem dX11_has_14 : decode cX11_has 14 = .ok (.ireturn, 1) := by decide +kernel
def fX11_has (h : AH) (a0 : Int32) (a1 : Int32) : Option (Bool) :=
  if ((a0 >>> (a1 &&& 31)) &&& 1) = 1 then (
    some true
  ) else (
    some false
  )
set_option maxHeartbeats 4000000 in
theorem mX11_has {h : AH} {a0 : Int32} {a1 : Int32} {r : Bool} (hr : fX11_has h a0 a1 = some r) : MC yX11_has cX11_has 2 (some .boolean) 1 0 0 [.int a0, .int a1] h (some (.int (b2i r))) h := by
  unfold fX11_has at hr
  refine mc_of (l0 := [(0, .int a0), (1, .int a1)]) rfl pn_X11 (Nat.le_of_ble_eq_true rfl) (fun Y X C E O hnm => go_run hr ?_)
  have C : CT Y X RX11 cX11_has 2 := C
  refine go_iload_n (pc := 0) C 0 dX11_has_0 rfl ?_
  refine go_iload_n (pc := 1) C 1 dX11_has_1 rfl ?_
  refine go_ishr (pc := 2) C dX11_has_2 ?_
  refine go_iconst (pc := 3) C dX11_has_3 ki_1 ?_
  refine go_iand (pc := 4) C dX11_has_4 ?_
  refine go_iconst (pc := 5) C dX11_has_5 ki_1 ?_
  refine go_icmp_ne (pc := 6) C 13 dX11_has_6 (by decide) (fun _ => ?_) (fun _ => ?_)
  · refine go_iconst (pc := 9) C dX11_has_9 ki_1 ?_
    refine go_goto (pc := 10) C 14 dX11_has_10 (by decide) ?_
    exact go_bret (w := (wZ h)) (pc := 14) C E true 1 true rfl dX11_has_14 rfl
  · refine go_iconst (pc := 13) C dX11_has_13 ki_0 ?_
    exact go_bret (w := (wZ h)) (pc := 14) C E false 0 false rfl dX11_has_14 rfl
theorem dX11_lost_0 : decode cX11_lost 0 = .ok (.aload_n 0, 1) := by decide +kernel
theorem dX11_lost_1 : decode cX11_lost 1 = .ok (.iconst 1, 1) := by decide +kernel
theorem dX11_lost_2 : decode cX11_lost 2 = .ok (.putfield 77, 3) := by decide +kernel
theorem dX11_lost_5 : decode cX11_lost 5 = .ok (.iconst 0, 1) := by decide +kernel
theorem dX11_lost_6 : decode cX11_lost 6 = .ok (.ireturn, 1) := by decide +kernel
def fX11_lost (h : AH) (a0 : Nat) : Option (Int32 × AH) :=
  if hasC h 11 a0 = true then (
    (pF h 11 a0 5 (.int 1)).bind fun h1 =>
    some ((0, h1))
  ) else none
set_option maxHeartbeats 4000000 in
theorem mX11_lost {h : AH} {a0 : Nat} {r : Int32 × AH} (hr : fX11_lost h a0 = some r) : hasC h 11 a0 = true ∧ MC yX11_lost cX11_lost 1 (some .int) 1 0 0 [.ref a0] h (some (.int r.1)) r.2 := by
  unfold fX11_lost at hr
  obtain ⟨hc, hr⟩ := if_some hr
  refine ⟨hc, mc_of (l0 := [(0, .ref a0)]) rfl pn_X11 (Nat.le_of_ble_eq_true rfl) (fun Y X C E O hnm => go_run hr ?_)⟩
  have C : CT Y X RX11 cX11_lost 1 := C
  refine go_aload_n (pc := 0) C 0 dX11_lost_0 rfl ?_
  refine go_iconst (pc := 1) C dX11_lost_1 ki_1 ?_
  refine go_pI (pc := 2) C fpX11_77 dX11_lost_2 (fun h1 => ?_)
  refine go_iconst (pc := 5) C dX11_lost_5 ki_0 ?_
  exact go_iret (w := wIh) (pc := 6) C E ((0, h1)) 0 dX11_lost_6 rfl
theorem dX11_tell_0 : decode cX11_tell 0 = .ok (.aload_n 0, 1) := by decide +kernel
theorem dX11_tell_1 : decode cX11_tell 1 = .ok (.getfield 17, 3) := by decide +kernel
theorem dX11_tell_4 : decode cX11_tell 4 = .ok (.aload_n 0, 1) := by decide +kernel
theorem dX11_tell_5 : decode cX11_tell 5 = .ok (.getfield 81, 3) := by decide +kernel
theorem dX11_tell_8 : decode cX11_tell 8 = .ok (.lload_n 1, 1) := by decide +kernel
theorem dX11_tell_9 : decode cX11_tell 9 = .ok (.lastore, 1) := by decide +kernel
theorem dX11_tell_10 : decode cX11_tell 10 = .ok (.aload_n 0, 1) := by decide +kernel
theorem dX11_tell_11 : decode cX11_tell 11 = .ok (.dup, 1) := by decide +kernel
theorem dX11_tell_12 : decode cX11_tell 12 = .ok (.getfield 81, 3) := by decide +kernel
theorem dX11_tell_15 : decode cX11_tell 15 = .ok (.iconst 1, 1) := by decide +kernel
theorem dX11_tell_16 : decode cX11_tell 16 = .ok (.iadd, 1) := by decide +kernel
theorem dX11_tell_17 : decode cX11_tell 17 = .ok (.putfield 81, 3) := by decide +kernel
theorem dX11_tell_20 : decode cX11_tell 20 = .ok (.return_, 1) := by decide +kernel
def fX11_tell (h : AH) (a0 : Nat) (a1 : Int64) : Option (AH) :=
  if hasC h 11 a0 = true then (
    (gR h 11 a0 3).bind fun x1 =>
    (gI h 11 a0 4).bind fun x2 =>
    (sJ h x1 x2 a1).bind fun h3 =>
    (gI h3 11 a0 4).bind fun x4 =>
    (pF h3 11 a0 4 (.int (x4 + 1))).bind fun h5 =>
    some h5
  ) else none
set_option maxHeartbeats 4000000 in
theorem mX11_tell {h : AH} {a0 : Nat} {a1 : Int64} {r : AH} (hr : fX11_tell h a0 a1 = some r) : hasC h 11 a0 = true ∧ MC yX11_tell cX11_tell 3 none 1 0 0 [.ref a0, .long a1] h none r := by
  unfold fX11_tell at hr
  obtain ⟨hc, hr⟩ := if_some hr
  refine ⟨hc, mc_of (l0 := [(0, .ref a0), (1, .long a1)]) rfl pn_X11 (Nat.le_of_ble_eq_true rfl) (fun Y X C E O hnm => go_run hr ?_)⟩
  have C : CT Y X RX11 cX11_tell 3 := C
  refine go_aload_n (pc := 0) C 0 dX11_tell_0 rfl ?_
  refine go_gR (pc := 1) C fdX11_17 dX11_tell_1 (fun x1 => ?_)
  refine go_aload_n (pc := 4) C 0 dX11_tell_4 rfl ?_
  refine go_gI (pc := 5) C fdX11_81 dX11_tell_5 (fun x2 => ?_)
  refine go_lload_n (pc := 8) C 1 dX11_tell_8 rfl ?_
  refine go_last (pc := 9) C dX11_tell_9 (fun h3 => ?_)
  refine go_aload_n (pc := 10) C 0 dX11_tell_10 rfl ?_
  refine go_dup (pc := 11) C dX11_tell_11 rfl ?_
  refine go_gI (pc := 12) C fdX11_81 dX11_tell_12 (fun x4 => ?_)
  refine go_iconst (pc := 15) C dX11_tell_15 ki_1 ?_
  refine go_iadd (pc := 16) C dX11_tell_16 ?_
  refine go_pI (pc := 17) C fpX11_81 dX11_tell_17 (fun h5 => ?_)
  exact go_vret (w := wV) (pc := 20) C E h5 dX11_tell_20 rfl
theorem dX11_isThere_0 : decode cX11_isThere 0 = .ok (.aload_n 0, 1) := by decide +kernel
theorem dX11_isThere_1 : decode cX11_isThere 1 = .ok (.sipush 216, 3) := by decide +kernel
theorem dX11_isThere_4 : decode cX11_isThere 4 = .ok (.iload_n 1, 1) := by decide +kernel
theorem dX11_isThere_5 : decode cX11_isThere 5 = .ok (.iadd, 1) := by decide +kernel
theorem dX11_isThere_6 : decode cX11_isThere 6 = .ok (.iaload, 1) := by decide +kernel
theorem dX11_isThere_7 : decode cX11_isThere 7 = .ok (.iconst (-1), 1) := by decide +kernel
theorem dX11_isThere_8 : decode cX11_isThere 8 = .ok (.if_icmp .eq 7, 3) := by decide +kernel
theorem dX11_isThere_11 : decode cX11_isThere 11 = .ok (.iconst 1, 1) := by decide +kernel
theorem dX11_isThere_12 : decode cX11_isThere 12 = .ok (.goto 4, 3) := by decide +kernel
theorem dX11_isThere_15 : decode cX11_isThere 15 = .ok (.iconst 0, 1) := by decide +kernel
theorem dX11_isThere_16 : decode cX11_isThere 16 = .ok (.ireturn, 1) := by decide +kernel
def fX11_isThere (h : AH) (a0 : Nat) (a1 : Int32) : Option (Bool) :=
  (aI h 0 a0 (216 + a1)).bind fun x1 =>
  if x1 = ((-1)) then (
    some false
  ) else (
    some true
  )
set_option maxHeartbeats 4000000 in
theorem mX11_isThere {h : AH} {a0 : Nat} {a1 : Int32} {r : Bool} (hr : fX11_isThere h a0 a1 = some r) : MC yX11_isThere cX11_isThere 2 (some .boolean) 1 0 0 [.ref a0, .int a1] h (some (.int (b2i r))) h := by
  unfold fX11_isThere at hr
  refine mc_of (l0 := [(0, .ref a0), (1, .int a1)]) rfl pn_X11 (Nat.le_of_ble_eq_true rfl) (fun Y X C E O hnm => go_run hr ?_)
  have C : CT Y X RX11 cX11_isThere 2 := C
  refine go_aload_n (pc := 0) C 0 dX11_isThere_0 rfl ?_
  refine go_sipush (pc := 1) C dX11_isThere_1 ks_216 ?_
  refine go_iload_n (pc := 4) C 1 dX11_isThere_4 rfl ?_
  refine go_iadd (pc := 5) C dX11_isThere_5 ?_
  refine go_iald (pc := 6) C dX11_isThere_6 (fun x1 => ?_)
  refine go_iconst (pc := 7) C dX11_isThere_7 ki_m1 ?_
  refine go_icmp_eq (pc := 8) C 15 dX11_isThere_8 (by decide) (fun _ => ?_) (fun _ => ?_)
  · refine go_iconst (pc := 15) C dX11_isThere_15 ki_0 ?_
    exact go_bret (w := (wZ h)) (pc := 16) C E false 0 false rfl dX11_isThere_16 rfl
  · refine go_iconst (pc := 11) C dX11_isThere_11 ki_1 ?_
    refine go_goto (pc := 12) C 16 dX11_isThere_12 (by decide) ?_
    exact go_bret (w := (wZ h)) (pc := 16) C E true 1 true rfl dX11_isThere_16 rfl
theorem dX11_isSpace_0 : decode cX11_isSpace 0 = .ok (.iload_n 1, 1) := by decide +kernel
theorem dX11_isSpace_1 : decode cX11_isSpace 1 = .ok (.iconst 0, 1) := by decide +kernel
theorem dX11_isSpace_2 : decode cX11_isSpace 2 = .ok (.iconst 5, 1) := by decide +kernel
theorem dX11_isSpace_3 : decode cX11_isSpace 3 = .ok (.invokestatic 84, 3) := by decide +kernel
theorem dX11_isSpace_6 : decode cX11_isSpace 6 = .ok (.ifCond .eq 18, 3) := by decide +kernel
theorem dX11_isSpace_9 : decode cX11_isSpace 9 = .ok (.aload_n 0, 1) := by decide +kernel
theorem dX11_isSpace_10 : decode cX11_isSpace 10 = .ok (.sipush 312, 3) := by decide +kernel
theorem dX11_isSpace_13 : decode cX11_isSpace 13 = .ok (.iload_n 1, 1) := by decide +kernel
theorem dX11_isSpace_14 : decode cX11_isSpace 14 = .ok (.iadd, 1) := by decide +kernel
theorem dX11_isSpace_15 : decode cX11_isSpace 15 = .ok (.iaload, 1) := by decide +kernel
theorem dX11_isSpace_16 : decode cX11_isSpace 16 = .ok (.iconst (-1), 1) := by decide +kernel
theorem dX11_isSpace_17 : decode cX11_isSpace 17 = .ok (.if_icmp .eq 7, 3) := by decide +kernel
theorem dX11_isSpace_20 : decode cX11_isSpace 20 = .ok (.iconst 1, 1) := by decide +kernel
theorem dX11_isSpace_21 : decode cX11_isSpace 21 = .ok (.goto 4, 3) := by decide +kernel
theorem dX11_isSpace_24 : decode cX11_isSpace 24 = .ok (.iconst 0, 1) := by decide +kernel
theorem dX11_isSpace_25 : decode cX11_isSpace 25 = .ok (.ireturn, 1) := by decide +kernel
def fX11_isSpace (h : AH) (a0 : Nat) (a1 : Int32) : Option (Bool) :=
  (fX11_in h a1 0 5).bind fun q1 =>
  if q1 = true then (
    (aI h 0 a0 (312 + a1)).bind fun x2 =>
    if x2 = ((-1)) then (
      some false
    ) else (
      some true
    )
  ) else (
    some false
  )
set_option maxHeartbeats 4000000 in
theorem mX11_isSpace {h : AH} {a0 : Nat} {a1 : Int32} {r : Bool} (hr : fX11_isSpace h a0 a1 = some r) : MC yX11_isSpace cX11_isSpace 2 (some .boolean) 2 0 0 [.ref a0, .int a1] h (some (.int (b2i r))) h := by
  unfold fX11_isSpace at hr
  refine mc_of (l0 := [(0, .ref a0), (1, .int a1)]) rfl pn_X11 (Nat.le_of_ble_eq_true rfl) (fun Y X C E O hnm => go_run hr ?_)
  have C : CT Y X RX11 cX11_isSpace 2 := C
  refine go_iload_n (pc := 0) C 1 dX11_isSpace_0 rfl ?_
  refine go_iconst (pc := 1) C dX11_isSpace_1 ki_0 ?_
  refine go_iconst (pc := 2) C dX11_isSpace_2 ki_5 ?_
  refine go_bind (fun q1 hq1 => ?_)
  refine go_callS (rest := []) (st' := [.int (b2i q1)]) (c' := 0) (s' := 0) (pc := 3) C O miX11_84 w_1437 [.int a1, .int 0, .int 5] rfl (mX11_in hq1) dX11_isSpace_3 ⟨by decide, by decide, by decide, by decide⟩ rfl (Nat.le_of_ble_eq_true rfl) rfl ⟨rfl, rfl⟩ ?_
  refine go_ifZ_eq (pc := 6) C 24 dX11_isSpace_6 (by decide) (fun _ => ?_) (fun _ => ?_)
  · refine go_aload_n (pc := 9) C 0 dX11_isSpace_9 rfl ?_
    refine go_sipush (pc := 10) C dX11_isSpace_10 ks_312 ?_
    refine go_iload_n (pc := 13) C 1 dX11_isSpace_13 rfl ?_
    refine go_iadd (pc := 14) C dX11_isSpace_14 ?_
    refine go_iald (pc := 15) C dX11_isSpace_15 (fun x2 => ?_)
    refine go_iconst (pc := 16) C dX11_isSpace_16 ki_m1 ?_
    refine go_icmp_eq (pc := 17) C 24 dX11_isSpace_17 (by decide) (fun _ => ?_) (fun _ => ?_)
    · refine go_iconst (pc := 24) C dX11_isSpace_24 ki_0 ?_
      exact go_bret (w := (wZ h)) (pc := 25) C E false 0 false rfl dX11_isSpace_25 rfl
    · refine go_iconst (pc := 20) C dX11_isSpace_20 ki_1 ?_
      refine go_goto (pc := 21) C 25 dX11_isSpace_21 (by decide) ?_
      exact go_bret (w := (wZ h)) (pc := 25) C E true 1 true rfl dX11_isSpace_25 rfl
  · refine go_iconst (pc := 24) C dX11_isSpace_24 ki_0 ?_
    exact go_bret (w := (wZ h)) (pc := 25) C E false 0 false rfl dX11_isSpace_25 rfl
theorem dX11_isObject_0 : decode cX11_isObject 0 = .ok (.iload_n 1, 1) := by decide +kernel
theorem dX11_isObject_1 : decode cX11_isObject 1 = .ok (.iconst 0, 1) := by decide +kernel
theorem dX11_isObject_2 : decode cX11_isObject 2 = .ok (.bipush 23, 2) := by decide +kernel
theorem dX11_isObject_4 : decode cX11_isObject 4 = .ok (.invokestatic 84, 3) := by decide +kernel
theorem dX11_isObject_7 : decode cX11_isObject 7 = .ok (.ifCond .eq 18, 3) := by decide +kernel
theorem dX11_isObject_10 : decode cX11_isObject 10 = .ok (.aload_n 0, 1) := by decide +kernel
theorem dX11_isObject_11 : decode cX11_isObject 11 = .ok (.getfield 9, 3) := by decide +kernel
theorem dX11_isObject_14 : decode cX11_isObject 14 = .ok (.iload_n 1, 1) := by decide +kernel
theorem dX11_isObject_15 : decode cX11_isObject 15 = .ok (.invokestatic 88, 3) := by decide +kernel
theorem dX11_isObject_18 : decode cX11_isObject 18 = .ok (.ifCond .eq 7, 3) := by decide +kernel
theorem dX11_isObject_21 : decode cX11_isObject 21 = .ok (.iconst 1, 1) := by decide +kernel
theorem dX11_isObject_22 : decode cX11_isObject 22 = .ok (.goto 4, 3) := by decide +kernel
theorem dX11_isObject_25 : decode cX11_isObject 25 = .ok (.iconst 0, 1) := by decide +kernel
theorem dX11_isObject_26 : decode cX11_isObject 26 = .ok (.ireturn, 1) := by decide +kernel
def fX11_isObject (h : AH) (a0 : Nat) (a1 : Int32) : Option (Bool) :=
  if hasC h 11 a0 = true then (
    (fX11_in h a1 0 23).bind fun q1 =>
    if q1 = true then (
      (gR h 11 a0 0).bind fun x2 =>
      (fX11_isThere h x2 a1).bind fun q3 =>
      if q3 = true then (
        some true
      ) else (
        some false
      )
    ) else (
      some false
    )
  ) else none
set_option maxHeartbeats 4000000 in
theorem mX11_isObject {h : AH} {a0 : Nat} {a1 : Int32} {r : Bool} (hr : fX11_isObject h a0 a1 = some r) : hasC h 11 a0 = true ∧ MC yX11_isObject cX11_isObject 2 (some .boolean) 2 0 0 [.ref a0, .int a1] h (some (.int (b2i r))) h := by
  unfold fX11_isObject at hr
  obtain ⟨hc, hr⟩ := if_some hr
  refine ⟨hc, mc_of (l0 := [(0, .ref a0), (1, .int a1)]) rfl pn_X11 (Nat.le_of_ble_eq_true rfl) (fun Y X C E O hnm => go_run hr ?_)⟩
  have C : CT Y X RX11 cX11_isObject 2 := C
  refine go_iload_n (pc := 0) C 1 dX11_isObject_0 rfl ?_
  refine go_iconst (pc := 1) C dX11_isObject_1 ki_0 ?_
  refine go_bipush (pc := 2) C dX11_isObject_2 kb_23 ?_
  refine go_bind (fun q1 hq1 => ?_)
  refine go_callS (rest := []) (st' := [.int (b2i q1)]) (c' := 0) (s' := 0) (pc := 4) C O miX11_84 w_1437 [.int a1, .int 0, .int 23] rfl (mX11_in hq1) dX11_isObject_4 ⟨by decide, by decide, by decide, by decide⟩ rfl (Nat.le_of_ble_eq_true rfl) rfl ⟨rfl, rfl⟩ ?_
  refine go_ifZ_eq (pc := 7) C 25 dX11_isObject_7 (by decide) (fun _ => ?_) (fun _ => ?_)
  · refine go_aload_n (pc := 10) C 0 dX11_isObject_10 rfl ?_
    refine go_gR (pc := 11) C fdX11_9 dX11_isObject_11 (fun x2 => ?_)
    refine go_iload_n (pc := 14) C 1 dX11_isObject_14 rfl ?_
    refine go_bind (fun q3 hq3 => ?_)
    refine go_callS (rest := []) (st' := [.int (b2i q3)]) (c' := 0) (s' := 0) (pc := 15) C O miX11_88 w_1485 [.ref x2, .int a1] rfl (mX11_isThere hq3) dX11_isObject_15 ⟨by decide, by decide, by decide, by decide⟩ rfl (Nat.le_of_ble_eq_true rfl) rfl ⟨rfl, rfl⟩ ?_
    refine go_ifZ_eq (pc := 18) C 25 dX11_isObject_18 (by decide) (fun _ => ?_) (fun _ => ?_)
    · refine go_iconst (pc := 21) C dX11_isObject_21 ki_1 ?_
      refine go_goto (pc := 22) C 26 dX11_isObject_22 (by decide) ?_
      exact go_bret (w := (wZ h)) (pc := 26) C E true 1 true rfl dX11_isObject_26 rfl
    · refine go_iconst (pc := 25) C dX11_isObject_25 ki_0 ?_
      exact go_bret (w := (wZ h)) (pc := 26) C E false 0 false rfl dX11_isObject_26 rfl
  · refine go_iconst (pc := 25) C dX11_isObject_25 ki_0 ?_
    exact go_bret (w := (wZ h)) (pc := 26) C E false 0 false rfl dX11_isObject_26 rfl
theorem dX11_isPage_0 : decode cX11_isPage 0 = .ok (.iload_n 0, 1) := by decide +kernel
theorem dX11_isPage_1 : decode cX11_isPage 1 = .ok (.iconst 0, 1) := by decide +kernel
theorem dX11_isPage_2 : decode cX11_isPage 2 = .ok (.bipush 7, 2) := by decide +kernel
theorem dX11_isPage_4 : decode cX11_isPage 4 = .ok (.invokestatic 84, 3) := by decide +kernel
theorem dX11_isPage_7 : decode cX11_isPage 7 = .ok (.ireturn, 1) := by decide +kernel
def fX11_isPage (h : AH) (a0 : Int32) : Option (Bool) :=
  (fX11_in h a0 0 7).bind fun q1 =>
  some q1
set_option maxHeartbeats 4000000 in
theorem mX11_isPage {h : AH} {a0 : Int32} {r : Bool} (hr : fX11_isPage h a0 = some r) : MC yX11_isPage cX11_isPage 1 (some .boolean) 2 0 0 [.int a0] h (some (.int (b2i r))) h := by
  unfold fX11_isPage at hr
  refine mc_of (l0 := [(0, .int a0)]) rfl pn_X11 (Nat.le_of_ble_eq_true rfl) (fun Y X C E O hnm => go_run hr ?_)
  have C : CT Y X RX11 cX11_isPage 1 := C
  refine go_iload_n (pc := 0) C 0 dX11_isPage_0 rfl ?_
  refine go_iconst (pc := 1) C dX11_isPage_1 ki_0 ?_
  refine go_bipush (pc := 2) C dX11_isPage_2 kb_7 ?_
  refine go_bind (fun q1 hq1 => ?_)
  refine go_callS (rest := []) (st' := [.int (b2i q1)]) (c' := 0) (s' := 0) (pc := 4) C O miX11_84 w_1437 [.int a0, .int 0, .int 7] rfl (mX11_in hq1) dX11_isPage_4 ⟨by decide, by decide, by decide, by decide⟩ rfl (Nat.le_of_ble_eq_true rfl) rfl ⟨rfl, rfl⟩ ?_
  exact go_bret (w := (wZ h)) (pc := 7) C E q1 (b2i q1) q1 rfl dX11_isPage_7 rfl
theorem dX11_holds_0 : decode cX11_holds 0 = .ok (.aload_n 0, 1) := by decide +kernel
theorem dX11_holds_1 : decode cX11_holds 1 = .ok (.bipush 8, 2) := by decide +kernel
theorem dX11_holds_3 : decode cX11_holds 3 = .ok (.iload_n 1, 1) := by decide +kernel
theorem dX11_holds_4 : decode cX11_holds 4 = .ok (.imul, 1) := by decide +kernel
theorem dX11_holds_5 : decode cX11_holds 5 = .ok (.iload_n 2, 1) := by decide +kernel
theorem dX11_holds_6 : decode cX11_holds 6 = .ok (.iadd, 1) := by decide +kernel
theorem dX11_holds_7 : decode cX11_holds 7 = .ok (.iaload, 1) := by decide +kernel
theorem dX11_holds_8 : decode cX11_holds 8 = .ok (.iconst (-1), 1) := by decide +kernel
theorem dX11_holds_9 : decode cX11_holds 9 = .ok (.if_icmp .eq 7, 3) := by decide +kernel
theorem dX11_holds_12 : decode cX11_holds 12 = .ok (.iconst 1, 1) := by decide +kernel
theorem dX11_holds_13 : decode cX11_holds 13 = .ok (.goto 4, 3) := by decide +kernel
theorem dX11_holds_16 : decode cX11_holds 16 = .ok (.iconst 0, 1) := by decide +kernel
theorem dX11_holds_17 : decode cX11_holds 17 = .ok (.ireturn, 1) := by decide +kernel
def fX11_holds (h : AH) (a0 : Nat) (a1 : Int32) (a2 : Int32) : Option (Bool) :=
  (aI h 0 a0 ((8 * a1) + a2)).bind fun x1 =>
  if x1 = ((-1)) then (
    some false
  ) else (
    some true
  )
set_option maxHeartbeats 4000000 in
theorem mX11_holds {h : AH} {a0 : Nat} {a1 : Int32} {a2 : Int32} {r : Bool} (hr : fX11_holds h a0 a1 a2 = some r) : MC yX11_holds cX11_holds 3 (some .boolean) 1 0 0 [.ref a0, .int a1, .int a2] h (some (.int (b2i r))) h := by
  unfold fX11_holds at hr
  refine mc_of (l0 := [(0, .ref a0), (1, .int a1), (2, .int a2)]) rfl pn_X11 (Nat.le_of_ble_eq_true rfl) (fun Y X C E O hnm => go_run hr ?_)
  have C : CT Y X RX11 cX11_holds 3 := C
  refine go_aload_n (pc := 0) C 0 dX11_holds_0 rfl ?_
  refine go_bipush (pc := 1) C dX11_holds_1 kb_8 ?_
  refine go_iload_n (pc := 3) C 1 dX11_holds_3 rfl ?_
  refine go_imul (pc := 4) C dX11_holds_4 ?_
  refine go_iload_n (pc := 5) C 2 dX11_holds_5 rfl ?_
  refine go_iadd (pc := 6) C dX11_holds_6 ?_
  refine go_iald (pc := 7) C dX11_holds_7 (fun x1 => ?_)
  refine go_iconst (pc := 8) C dX11_holds_8 ki_m1 ?_
  refine go_icmp_eq (pc := 9) C 16 dX11_holds_9 (by decide) (fun _ => ?_) (fun _ => ?_)
  · refine go_iconst (pc := 16) C dX11_holds_16 ki_0 ?_
    exact go_bret (w := (wZ h)) (pc := 17) C E false 0 false rfl dX11_holds_17 rfl
  · refine go_iconst (pc := 12) C dX11_holds_12 ki_1 ?_
    refine go_goto (pc := 13) C 17 dX11_holds_13 (by decide) ?_
    exact go_bret (w := (wZ h)) (pc := 17) C E true 1 true rfl dX11_holds_17 rfl
theorem dX11_pagesOf_0 : decode cX11_pagesOf 0 = .ok (.iconst 0, 1) := by decide +kernel
theorem dX11_pagesOf_1 : decode cX11_pagesOf 1 = .ok (.istore_n 2, 1) := by decide +kernel
theorem dX11_pagesOf_2 : decode cX11_pagesOf 2 = .ok (.iconst 0, 1) := by decide +kernel
theorem dX11_pagesOf_3 : decode cX11_pagesOf 3 = .ok (.istore_n 3, 1) := by decide +kernel
theorem dX11_pagesOf_4 : decode cX11_pagesOf 4 = .ok (.iload_n 3, 1) := by decide +kernel
theorem dX11_pagesOf_5 : decode cX11_pagesOf 5 = .ok (.bipush 8, 2) := by decide +kernel
theorem dX11_pagesOf_7 : decode cX11_pagesOf 7 = .ok (.if_icmp .ge 28, 3) := by decide +kernel
theorem dX11_pagesOf_10 : decode cX11_pagesOf 10 = .ok (.iload_n 2, 1) := by decide +kernel
theorem dX11_pagesOf_11 : decode cX11_pagesOf 11 = .ok (.aload_n 0, 1) := by decide +kernel
theorem dX11_pagesOf_12 : decode cX11_pagesOf 12 = .ok (.iload_n 1, 1) := by decide +kernel
theorem dX11_pagesOf_13 : decode cX11_pagesOf 13 = .ok (.iload_n 3, 1) := by decide +kernel
theorem dX11_pagesOf_14 : decode cX11_pagesOf 14 = .ok (.invokestatic 92, 3) := by decide +kernel
theorem dX11_pagesOf_17 : decode cX11_pagesOf 17 = .ok (.ifCond .eq 9, 3) := by decide +kernel
theorem dX11_pagesOf_20 : decode cX11_pagesOf 20 = .ok (.iconst 1, 1) := by decide +kernel
theorem dX11_pagesOf_21 : decode cX11_pagesOf 21 = .ok (.iload_n 3, 1) := by decide +kernel
theorem dX11_pagesOf_22 : decode cX11_pagesOf 22 = .ok (.ishl, 1) := by decide +kernel
theorem dX11_pagesOf_23 : decode cX11_pagesOf 23 = .ok (.goto 4, 3) := by decide +kernel
theorem dX11_pagesOf_26 : decode cX11_pagesOf 26 = .ok (.iconst 0, 1) := by decide +kernel
theorem dX11_pagesOf_27 : decode cX11_pagesOf 27 = .ok (.ior, 1) := by decide +kernel
theorem dX11_pagesOf_28 : decode cX11_pagesOf 28 = .ok (.istore_n 2, 1) := by decide +kernel
theorem dX11_pagesOf_29 : decode cX11_pagesOf 29 = .ok (.iinc 3 1, 3) := by decide +kernel
theorem dX11_pagesOf_32 : decode cX11_pagesOf 32 = .ok (.goto (-28), 3) := by decide +kernel
theorem dX11_pagesOf_35 : decode cX11_pagesOf 35 = .ok (.iload_n 2, 1) := by decide +kernel
theorem dX11_pagesOf_36 : decode cX11_pagesOf 36 = .ok (.ireturn, 1) := by decide +kernel
def fX11_pagesOf_J27 (h : AH) (k4 : Nat → Int32 → Int32 → Int32 → Option (Int32)) (v0 : Nat) (v1 : Int32) (v3 : Int32) (s0 : Int32) (s1 : Int32) : Option (Int32) :=
    letF (s1 ||| s0 : Int32) fun x1 =>
    letF (v3 + 1 : Int32) fun x2 =>
    k4 v0 v1 x1 x2
def fX11_pagesOf_L4 (h : AH) : Nat → Nat → Int32 → Int32 → Int32 → Option (Int32)
  | 0, _, _, _, _ => none
  | n + 1, v0, v1, v2, v3 =>
    if 8 ≤ v3 then (
      some v2
    ) else (
      (fX11_holds h v0 v1 v3).bind fun q3 =>
      if q3 = true then (
        fX11_pagesOf_J27 h (fX11_pagesOf_L4 h n) v0 v1 v3 (1 <<< (v3 &&& 31)) v2
      ) else (
        fX11_pagesOf_J27 h (fX11_pagesOf_L4 h n) v0 v1 v3 0 v2
      )
    )
def fX11_pagesOf (h : AH) (a0 : Nat) (a1 : Int32) : Option (Int32) :=
  fX11_pagesOf_L4 h FU a0 a1 0 0
set_option maxHeartbeats 4000000 in
theorem gX11_pagesOf_J27 {Y : YT} {X : XT} (C : CT Y X RX11 cX11_pagesOf 4) (O : RO X 2 0 0) {h : AH} {r : Int32} (E : RX Y X (some .int) (some (.int r)) h 0 0) {k4 : Nat → Int32 → Int32 → Int32 → Option (Int32)} (hk4 : ∀ (v0 : Nat) (v1 : Int32) (v2 : Int32) (v3 : Int32), GO Y X 4 r h 0 0 4 [(0, .ref v0), (1, .int v1), (2, .int v2), (3, .int v3)] [] (k4 v0 v1 v2 v3)) : ∀ (v0 : Nat) (v1 : Int32) (v3 : Int32) (s0 : Int32) (s1 : Int32), GO Y X 4 r h 0 0 27 [(0, .ref v0), (1, .int v1), (3, .int v3)] [.int s0, .int s1] (fX11_pagesOf_J27 h k4 v0 v1 v3 s0 s1) := by
  intro v0 v1 v3 s0 s1
  unfold fX11_pagesOf_J27
  refine go_ior (pc := 27) C dX11_pagesOf_27 ?_
  refine go_istore_nL (pc := 28) C dX11_pagesOf_28 (by decide) (fun x1 => [(2, .int x1), (0, .ref v0), (1, .int v1), (3, .int v3)]) (fun _ => rfl) (fun x1 => ?_)
  refine go_iincL (pc := 29) C 3 dX11_pagesOf_29 rfl ki_1 (by decide) (fun x2 => [(3, .int x2), (2, .int x1), (0, .ref v0), (1, .int v1)]) (fun _ => rfl) (fun x2 => ?_)
  refine go_goto (pc := 32) C 4 dX11_pagesOf_32 (by decide) ?_
  refine go_sub (ls' := [(0, .ref v0), (1, .int v1), (2, .int x1), (3, .int x2)]) [2, 3, 1, 0] rfl ?_
  exact hk4 v0 v1 x1 x2
set_option maxHeartbeats 4000000 in
theorem gX11_pagesOf_L4 {Y : YT} {X : XT} (C : CT Y X RX11 cX11_pagesOf 4) (O : RO X 2 0 0) {h : AH} {r : Int32} (E : RX Y X (some .int) (some (.int r)) h 0 0) : ∀ (n : Nat) (v0 : Nat) (v1 : Int32) (v2 : Int32) (v3 : Int32), GO Y X 4 r h 0 0 4 [(0, .ref v0), (1, .int v1), (2, .int v2), (3, .int v3)] [] (fX11_pagesOf_L4 h n v0 v1 v2 v3) := by
  intro n
  induction n with
  | zero => intros; exact go_none _ _ _
  | succ n ih =>
    intro v0 v1 v2 v3
    rw [fX11_pagesOf_L4]
    refine go_iload_n (pc := 4) C 3 dX11_pagesOf_4 rfl ?_
    refine go_bipush (pc := 5) C dX11_pagesOf_5 kb_8 ?_
    refine go_icmp_ge (pc := 7) C 35 dX11_pagesOf_7 (by decide) (fun _ => ?_) (fun _ => ?_)
    · refine go_iload_n (pc := 35) C 2 dX11_pagesOf_35 rfl ?_
      exact go_iret (w := (wI h)) (pc := 36) C E v2 v2 dX11_pagesOf_36 rfl
    · refine go_iload_n (pc := 10) C 2 dX11_pagesOf_10 rfl ?_
      refine go_aload_n (pc := 11) C 0 dX11_pagesOf_11 rfl ?_
      refine go_iload_n (pc := 12) C 1 dX11_pagesOf_12 rfl ?_
      refine go_iload_n (pc := 13) C 3 dX11_pagesOf_13 rfl ?_
      refine go_bind (fun q3 hq3 => ?_)
      refine go_callS (rest := [.int v2]) (st' := [.int (b2i q3), .int v2]) (c' := 0) (s' := 0) (pc := 14) C O miX11_92 w_1494 [.ref v0, .int v1, .int v3] rfl (mX11_holds hq3) dX11_pagesOf_14 ⟨by decide, by decide, by decide, by decide⟩ rfl (Nat.le_of_ble_eq_true rfl) rfl ⟨rfl, rfl⟩ ?_
      refine go_ifZ_eq (pc := 17) C 26 dX11_pagesOf_17 (by decide) (fun _ => ?_) (fun _ => ?_)
      · refine go_iconst (pc := 20) C dX11_pagesOf_20 ki_1 ?_
        refine go_iload_n (pc := 21) C 3 dX11_pagesOf_21 rfl ?_
        refine go_ishl (pc := 22) C dX11_pagesOf_22 ?_
        refine go_goto (pc := 23) C 27 dX11_pagesOf_23 (by decide) ?_
        refine go_sub (ls' := [(0, .ref v0), (1, .int v1), (3, .int v3)]) [0, 1, 3] rfl ?_
        refine gX11_pagesOf_J27 C O E (ih) v0 v1 v3 (1 <<< (v3 &&& 31)) v2
      · refine go_iconst (pc := 26) C dX11_pagesOf_26 ki_0 ?_
        refine go_sub (ls' := [(0, .ref v0), (1, .int v1), (3, .int v3)]) [0, 1, 3] rfl ?_
        refine gX11_pagesOf_J27 C O E (ih) v0 v1 v3 0 v2
set_option maxHeartbeats 4000000 in
theorem mX11_pagesOf {h : AH} {a0 : Nat} {a1 : Int32} {r : Int32} (hr : fX11_pagesOf h a0 a1 = some r) : MC yX11_pagesOf cX11_pagesOf 4 (some .int) 2 0 0 [.ref a0, .int a1] h (some (.int r)) h := by
  unfold fX11_pagesOf at hr
  refine mc_of (l0 := [(0, .ref a0), (1, .int a1)]) rfl pn_X11 (Nat.le_of_ble_eq_true rfl) (fun Y X C E O hnm => go_run hr ?_)
  have C : CT Y X RX11 cX11_pagesOf 4 := C
  refine go_iconst (pc := 0) C dX11_pagesOf_0 ki_0 ?_
  refine go_istore_n (ls' := [(2, .int 0), (0, .ref a0), (1, .int a1)]) (pc := 1) C dX11_pagesOf_1 (by decide) rfl ?_
  refine go_iconst (pc := 2) C dX11_pagesOf_2 ki_0 ?_
  refine go_istore_n (ls' := [(3, .int 0), (2, .int 0), (0, .ref a0), (1, .int a1)]) (pc := 3) C dX11_pagesOf_3 (by decide) rfl ?_
  refine go_sub (ls' := [(0, .ref a0), (1, .int a1), (2, .int 0), (3, .int 0)]) [2, 3, 1, 0] rfl ?_
  refine gX11_pagesOf_L4 C O E FU a0 a1 0 0
theorem dX11_framesOf_0 : decode cX11_framesOf 0 = .ok (.iconst 0, 1) := by decide +kernel
theorem dX11_framesOf_1 : decode cX11_framesOf 1 = .ok (.istore_n 1, 1) := by decide +kernel
theorem dX11_framesOf_2 : decode cX11_framesOf 2 = .ok (.iconst 0, 1) := by decide +kernel
theorem dX11_framesOf_3 : decode cX11_framesOf 3 = .ok (.istore_n 2, 1) := by decide +kernel
theorem dX11_framesOf_4 : decode cX11_framesOf 4 = .ok (.iload_n 2, 1) := by decide +kernel
theorem dX11_framesOf_5 : decode cX11_framesOf 5 = .ok (.bipush 24, 2) := by decide +kernel
theorem dX11_framesOf_7 : decode cX11_framesOf 7 = .ok (.if_icmp .ge 20, 3) := by decide +kernel
theorem dX11_framesOf_10 : decode cX11_framesOf 10 = .ok (.iload_n 1, 1) := by decide +kernel
theorem dX11_framesOf_11 : decode cX11_framesOf 11 = .ok (.aload_n 0, 1) := by decide +kernel
theorem dX11_framesOf_12 : decode cX11_framesOf 12 = .ok (.iload_n 2, 1) := by decide +kernel
theorem dX11_framesOf_13 : decode cX11_framesOf 13 = .ok (.invokestatic 96, 3) := by decide +kernel
theorem dX11_framesOf_16 : decode cX11_framesOf 16 = .ok (.invokestatic 100, 3) := by decide +kernel
theorem dX11_framesOf_19 : decode cX11_framesOf 19 = .ok (.iadd, 1) := by decide +kernel
theorem dX11_framesOf_20 : decode cX11_framesOf 20 = .ok (.istore_n 1, 1) := by decide +kernel
theorem dX11_framesOf_21 : decode cX11_framesOf 21 = .ok (.iinc 2 1, 3) := by decide +kernel
theorem dX11_framesOf_24 : decode cX11_framesOf 24 = .ok (.goto (-20), 3) := by decide +kernel
theorem dX11_framesOf_27 : decode cX11_framesOf 27 = .ok (.iload_n 1, 1) := by decide +kernel
theorem dX11_framesOf_28 : decode cX11_framesOf 28 = .ok (.ireturn, 1) := by decide +kernel
def fX11_framesOf_L4 (h : AH) : Nat → Nat → Int32 → Int32 → Option (Int32)
  | 0, _, _, _ => none
  | n + 1, v0, v1, v2 =>
    if 24 ≤ v2 then (
      some v1
    ) else (
      (fX11_pagesOf h v0 v2).bind fun q1 =>
      (fJ6_bitCount_0f7a4 h q1).bind fun q2 =>
      letF (v1 + q2 : Int32) fun x3 =>
      letF (v2 + 1 : Int32) fun x4 =>
      fX11_framesOf_L4 h n v0 x3 x4
    )
def fX11_framesOf (h : AH) (a0 : Nat) : Option (Int32) :=
  fX11_framesOf_L4 h FU a0 0 0
set_option maxHeartbeats 4000000 in
theorem gX11_framesOf_L4 {Y : YT} {X : XT} (C : CT Y X RX11 cX11_framesOf 3) (O : RO X 3 0 0) {h : AH} {r : Int32} (E : RX Y X (some .int) (some (.int r)) h 0 0) : ∀ (n : Nat) (v0 : Nat) (v1 : Int32) (v2 : Int32), GO Y X 3 r h 0 0 4 [(0, .ref v0), (1, .int v1), (2, .int v2)] [] (fX11_framesOf_L4 h n v0 v1 v2) := by
  intro n
  induction n with
  | zero => intros; exact go_none _ _ _
  | succ n ih =>
    intro v0 v1 v2
    rw [fX11_framesOf_L4]
    refine go_iload_n (pc := 4) C 2 dX11_framesOf_4 rfl ?_
    refine go_bipush (pc := 5) C dX11_framesOf_5 kb_24 ?_
    refine go_icmp_ge (pc := 7) C 27 dX11_framesOf_7 (by decide) (fun _ => ?_) (fun _ => ?_)
    · refine go_iload_n (pc := 27) C 1 dX11_framesOf_27 rfl ?_
      exact go_iret (w := (wI h)) (pc := 28) C E v1 v1 dX11_framesOf_28 rfl
    · refine go_iload_n (pc := 10) C 1 dX11_framesOf_10 rfl ?_
      refine go_aload_n (pc := 11) C 0 dX11_framesOf_11 rfl ?_
      refine go_iload_n (pc := 12) C 2 dX11_framesOf_12 rfl ?_
      refine go_bind (fun q1 hq1 => ?_)
      refine go_callS (rest := [.int v1]) (st' := [.int q1, .int v1]) (c' := 0) (s' := 0) (pc := 13) C O miX11_96 w_1491 [.ref v0, .int v2] rfl (mX11_pagesOf hq1) dX11_framesOf_13 ⟨by decide, by decide, by decide, by decide⟩ rfl (Nat.le_of_ble_eq_true rfl) rfl ⟨rfl, rfl⟩ ?_
      refine go_bind (fun q2 hq2 => ?_)
      refine go_callS (rest := [.int v1]) (st' := [.int q2, .int v1]) (c' := 0) (s' := 0) (pc := 16) C O miX11_100 w_397 [.int q1] rfl (mJ6_bitCount_0f7a4 hq2) dX11_framesOf_16 ⟨by decide, by decide, by decide, by decide⟩ rfl (Nat.le_of_ble_eq_true rfl) rfl ⟨rfl, rfl⟩ ?_
      refine go_iadd (pc := 19) C dX11_framesOf_19 ?_
      refine go_istore_nL (pc := 20) C dX11_framesOf_20 (by decide) (fun x3 => [(1, .int x3), (0, .ref v0), (2, .int v2)]) (fun _ => rfl) (fun x3 => ?_)
      refine go_iincL (pc := 21) C 2 dX11_framesOf_21 rfl ki_1 (by decide) (fun x4 => [(2, .int x4), (1, .int x3), (0, .ref v0)]) (fun _ => rfl) (fun x4 => ?_)
      refine go_goto (pc := 24) C 4 dX11_framesOf_24 (by decide) ?_
      refine go_sub (ls' := [(0, .ref v0), (1, .int x3), (2, .int x4)]) [2, 1, 0] rfl ?_
      exact ih v0 x3 x4
set_option maxHeartbeats 4000000 in
theorem mX11_framesOf {h : AH} {a0 : Nat} {r : Int32} (hr : fX11_framesOf h a0 = some r) : MC yX11_framesOf cX11_framesOf 3 (some .int) 3 0 0 [.ref a0] h (some (.int r)) h := by
  unfold fX11_framesOf at hr
  refine mc_of (l0 := [(0, .ref a0)]) rfl pn_X11 (Nat.le_of_ble_eq_true rfl) (fun Y X C E O hnm => go_run hr ?_)
  have C : CT Y X RX11 cX11_framesOf 3 := C
  refine go_iconst (pc := 0) C dX11_framesOf_0 ki_0 ?_
  refine go_istore_n (ls' := [(1, .int 0), (0, .ref a0)]) (pc := 1) C dX11_framesOf_1 (by decide) rfl ?_
  refine go_iconst (pc := 2) C dX11_framesOf_2 ki_0 ?_
  refine go_istore_n (ls' := [(2, .int 0), (1, .int 0), (0, .ref a0)]) (pc := 3) C dX11_framesOf_3 (by decide) rfl ?_
  refine go_sub (ls' := [(0, .ref a0), (1, .int 0), (2, .int 0)]) [2, 1, 0] rfl ?_
  refine gX11_framesOf_L4 C O E FU a0 0 0
theorem dX11_objectsOf_0 : decode cX11_objectsOf 0 = .ok (.iconst 0, 1) := by decide +kernel
theorem dX11_objectsOf_1 : decode cX11_objectsOf 1 = .ok (.istore_n 1, 1) := by decide +kernel
theorem dX11_objectsOf_2 : decode cX11_objectsOf 2 = .ok (.iconst 0, 1) := by decide +kernel
theorem dX11_objectsOf_3 : decode cX11_objectsOf 3 = .ok (.istore_n 2, 1) := by decide +kernel
theorem dX11_objectsOf_4 : decode cX11_objectsOf 4 = .ok (.iload_n 2, 1) := by decide +kernel
theorem dX11_objectsOf_5 : decode cX11_objectsOf 5 = .ok (.bipush 24, 2) := by decide +kernel
theorem dX11_objectsOf_7 : decode cX11_objectsOf 7 = .ok (.if_icmp .ge 27, 3) := by decide +kernel
theorem dX11_objectsOf_10 : decode cX11_objectsOf 10 = .ok (.iload_n 1, 1) := by decide +kernel
theorem dX11_objectsOf_11 : decode cX11_objectsOf 11 = .ok (.aload_n 0, 1) := by decide +kernel
theorem dX11_objectsOf_12 : decode cX11_objectsOf 12 = .ok (.iload_n 2, 1) := by decide +kernel
theorem dX11_objectsOf_13 : decode cX11_objectsOf 13 = .ok (.invokestatic 88, 3) := by decide +kernel
theorem dX11_objectsOf_16 : decode cX11_objectsOf 16 = .ok (.ifCond .eq 9, 3) := by decide +kernel
theorem dX11_objectsOf_19 : decode cX11_objectsOf 19 = .ok (.iconst 1, 1) := by decide +kernel
theorem dX11_objectsOf_20 : decode cX11_objectsOf 20 = .ok (.iload_n 2, 1) := by decide +kernel
theorem dX11_objectsOf_21 : decode cX11_objectsOf 21 = .ok (.ishl, 1) := by decide +kernel
theorem dX11_objectsOf_22 : decode cX11_objectsOf 22 = .ok (.goto 4, 3) := by decide +kernel
theorem dX11_objectsOf_25 : decode cX11_objectsOf 25 = .ok (.iconst 0, 1) := by decide +kernel
theorem dX11_objectsOf_26 : decode cX11_objectsOf 26 = .ok (.ior, 1) := by decide +kernel
theorem dX11_objectsOf_27 : decode cX11_objectsOf 27 = .ok (.istore_n 1, 1) := by decide +kernel
theorem dX11_objectsOf_28 : decode cX11_objectsOf 28 = .ok (.iinc 2 1, 3) := by decide +kernel
theorem dX11_objectsOf_31 : decode cX11_objectsOf 31 = .ok (.goto (-27), 3) := by decide +kernel
theorem dX11_objectsOf_34 : decode cX11_objectsOf 34 = .ok (.iload_n 1, 1) := by decide +kernel
theorem dX11_objectsOf_35 : decode cX11_objectsOf 35 = .ok (.ireturn, 1) := by decide +kernel
def fX11_objectsOf_J26 (h : AH) (k4 : Nat → Int32 → Int32 → Option (Int32)) (v0 : Nat) (v2 : Int32) (s0 : Int32) (s1 : Int32) : Option (Int32) :=
    letF (s1 ||| s0 : Int32) fun x1 =>
    letF (v2 + 1 : Int32) fun x2 =>
    k4 v0 x1 x2
def fX11_objectsOf_L4 (h : AH) : Nat → Nat → Int32 → Int32 → Option (Int32)
  | 0, _, _, _ => none
  | n + 1, v0, v1, v2 =>
    if 24 ≤ v2 then (
      some v1
    ) else (
      (fX11_isThere h v0 v2).bind fun q3 =>
      if q3 = true then (
        fX11_objectsOf_J26 h (fX11_objectsOf_L4 h n) v0 v2 (1 <<< (v2 &&& 31)) v1
      ) else (
        fX11_objectsOf_J26 h (fX11_objectsOf_L4 h n) v0 v2 0 v1
      )
    )
def fX11_objectsOf (h : AH) (a0 : Nat) : Option (Int32) :=
  fX11_objectsOf_L4 h FU a0 0 0
set_option maxHeartbeats 4000000 in
theorem gX11_objectsOf_J26 {Y : YT} {X : XT} (C : CT Y X RX11 cX11_objectsOf 3) (O : RO X 2 0 0) {h : AH} {r : Int32} (E : RX Y X (some .int) (some (.int r)) h 0 0) {k4 : Nat → Int32 → Int32 → Option (Int32)} (hk4 : ∀ (v0 : Nat) (v1 : Int32) (v2 : Int32), GO Y X 3 r h 0 0 4 [(0, .ref v0), (1, .int v1), (2, .int v2)] [] (k4 v0 v1 v2)) : ∀ (v0 : Nat) (v2 : Int32) (s0 : Int32) (s1 : Int32), GO Y X 3 r h 0 0 26 [(0, .ref v0), (2, .int v2)] [.int s0, .int s1] (fX11_objectsOf_J26 h k4 v0 v2 s0 s1) := by
  intro v0 v2 s0 s1
  unfold fX11_objectsOf_J26
  refine go_ior (pc := 26) C dX11_objectsOf_26 ?_
  refine go_istore_nL (pc := 27) C dX11_objectsOf_27 (by decide) (fun x1 => [(1, .int x1), (0, .ref v0), (2, .int v2)]) (fun _ => rfl) (fun x1 => ?_)
  refine go_iincL (pc := 28) C 2 dX11_objectsOf_28 rfl ki_1 (by decide) (fun x2 => [(2, .int x2), (1, .int x1), (0, .ref v0)]) (fun _ => rfl) (fun x2 => ?_)
  refine go_goto (pc := 31) C 4 dX11_objectsOf_31 (by decide) ?_
  refine go_sub (ls' := [(0, .ref v0), (1, .int x1), (2, .int x2)]) [2, 1, 0] rfl ?_
  exact hk4 v0 x1 x2
set_option maxHeartbeats 4000000 in
theorem gX11_objectsOf_L4 {Y : YT} {X : XT} (C : CT Y X RX11 cX11_objectsOf 3) (O : RO X 2 0 0) {h : AH} {r : Int32} (E : RX Y X (some .int) (some (.int r)) h 0 0) : ∀ (n : Nat) (v0 : Nat) (v1 : Int32) (v2 : Int32), GO Y X 3 r h 0 0 4 [(0, .ref v0), (1, .int v1), (2, .int v2)] [] (fX11_objectsOf_L4 h n v0 v1 v2) := by
  intro n
  induction n with
  | zero => intros; exact go_none _ _ _
  | succ n ih =>
    intro v0 v1 v2
    rw [fX11_objectsOf_L4]
    refine go_iload_n (pc := 4) C 2 dX11_objectsOf_4 rfl ?_
    refine go_bipush (pc := 5) C dX11_objectsOf_5 kb_24 ?_
    refine go_icmp_ge (pc := 7) C 34 dX11_objectsOf_7 (by decide) (fun _ => ?_) (fun _ => ?_)
    · refine go_iload_n (pc := 34) C 1 dX11_objectsOf_34 rfl ?_
      exact go_iret (w := (wI h)) (pc := 35) C E v1 v1 dX11_objectsOf_35 rfl
    · refine go_iload_n (pc := 10) C 1 dX11_objectsOf_10 rfl ?_
      refine go_aload_n (pc := 11) C 0 dX11_objectsOf_11 rfl ?_
      refine go_iload_n (pc := 12) C 2 dX11_objectsOf_12 rfl ?_
      refine go_bind (fun q3 hq3 => ?_)
      refine go_callS (rest := [.int v1]) (st' := [.int (b2i q3), .int v1]) (c' := 0) (s' := 0) (pc := 13) C O miX11_88 w_1485 [.ref v0, .int v2] rfl (mX11_isThere hq3) dX11_objectsOf_13 ⟨by decide, by decide, by decide, by decide⟩ rfl (Nat.le_of_ble_eq_true rfl) rfl ⟨rfl, rfl⟩ ?_
      refine go_ifZ_eq (pc := 16) C 25 dX11_objectsOf_16 (by decide) (fun _ => ?_) (fun _ => ?_)
      · refine go_iconst (pc := 19) C dX11_objectsOf_19 ki_1 ?_
        refine go_iload_n (pc := 20) C 2 dX11_objectsOf_20 rfl ?_
        refine go_ishl (pc := 21) C dX11_objectsOf_21 ?_
        refine go_goto (pc := 22) C 26 dX11_objectsOf_22 (by decide) ?_
        refine go_sub (ls' := [(0, .ref v0), (2, .int v2)]) [0, 2] rfl ?_
        refine gX11_objectsOf_J26 C O E (ih) v0 v2 (1 <<< (v2 &&& 31)) v1
      · refine go_iconst (pc := 25) C dX11_objectsOf_25 ki_0 ?_
        refine go_sub (ls' := [(0, .ref v0), (2, .int v2)]) [0, 2] rfl ?_
        refine gX11_objectsOf_J26 C O E (ih) v0 v2 0 v1
set_option maxHeartbeats 4000000 in
theorem mX11_objectsOf {h : AH} {a0 : Nat} {r : Int32} (hr : fX11_objectsOf h a0 = some r) : MC yX11_objectsOf cX11_objectsOf 3 (some .int) 2 0 0 [.ref a0] h (some (.int r)) h := by
  unfold fX11_objectsOf at hr
  refine mc_of (l0 := [(0, .ref a0)]) rfl pn_X11 (Nat.le_of_ble_eq_true rfl) (fun Y X C E O hnm => go_run hr ?_)
  have C : CT Y X RX11 cX11_objectsOf 3 := C
  refine go_iconst (pc := 0) C dX11_objectsOf_0 ki_0 ?_
  refine go_istore_n (ls' := [(1, .int 0), (0, .ref a0)]) (pc := 1) C dX11_objectsOf_1 (by decide) rfl ?_
  refine go_iconst (pc := 2) C dX11_objectsOf_2 ki_0 ?_
  refine go_istore_n (ls' := [(2, .int 0), (1, .int 0), (0, .ref a0)]) (pc := 3) C dX11_objectsOf_3 (by decide) rfl ?_
  refine go_sub (ls' := [(0, .ref a0), (1, .int 0), (2, .int 0)]) [2, 1, 0] rfl ?_
  refine gX11_objectsOf_L4 C O E FU a0 0 0
theorem dX11_spacesOf_0 : decode cX11_spacesOf 0 = .ok (.iconst 0, 1) := by decide +kernel
theorem dX11_spacesOf_1 : decode cX11_spacesOf 1 = .ok (.istore_n 1, 1) := by decide +kernel
theorem dX11_spacesOf_2 : decode cX11_spacesOf 2 = .ok (.iconst 0, 1) := by decide +kernel
theorem dX11_spacesOf_3 : decode cX11_spacesOf 3 = .ok (.istore_n 2, 1) := by decide +kernel
theorem dX11_spacesOf_4 : decode cX11_spacesOf 4 = .ok (.iload_n 2, 1) := by decide +kernel
theorem dX11_spacesOf_5 : decode cX11_spacesOf 5 = .ok (.bipush 6, 2) := by decide +kernel
theorem dX11_spacesOf_7 : decode cX11_spacesOf 7 = .ok (.if_icmp .ge 27, 3) := by decide +kernel
theorem dX11_spacesOf_10 : decode cX11_spacesOf 10 = .ok (.iload_n 1, 1) := by decide +kernel
theorem dX11_spacesOf_11 : decode cX11_spacesOf 11 = .ok (.aload_n 0, 1) := by decide +kernel
theorem dX11_spacesOf_12 : decode cX11_spacesOf 12 = .ok (.iload_n 2, 1) := by decide +kernel
theorem dX11_spacesOf_13 : decode cX11_spacesOf 13 = .ok (.invokestatic 106, 3) := by decide +kernel
theorem dX11_spacesOf_16 : decode cX11_spacesOf 16 = .ok (.ifCond .eq 9, 3) := by decide +kernel
theorem dX11_spacesOf_19 : decode cX11_spacesOf 19 = .ok (.iconst 1, 1) := by decide +kernel
theorem dX11_spacesOf_20 : decode cX11_spacesOf 20 = .ok (.iload_n 2, 1) := by decide +kernel
theorem dX11_spacesOf_21 : decode cX11_spacesOf 21 = .ok (.ishl, 1) := by decide +kernel
theorem dX11_spacesOf_22 : decode cX11_spacesOf 22 = .ok (.goto 4, 3) := by decide +kernel
theorem dX11_spacesOf_25 : decode cX11_spacesOf 25 = .ok (.iconst 0, 1) := by decide +kernel
theorem dX11_spacesOf_26 : decode cX11_spacesOf 26 = .ok (.ior, 1) := by decide +kernel
theorem dX11_spacesOf_27 : decode cX11_spacesOf 27 = .ok (.istore_n 1, 1) := by decide +kernel
theorem dX11_spacesOf_28 : decode cX11_spacesOf 28 = .ok (.iinc 2 1, 3) := by decide +kernel
theorem dX11_spacesOf_31 : decode cX11_spacesOf 31 = .ok (.goto (-27), 3) := by decide +kernel
theorem dX11_spacesOf_34 : decode cX11_spacesOf 34 = .ok (.iload_n 1, 1) := by decide +kernel
theorem dX11_spacesOf_35 : decode cX11_spacesOf 35 = .ok (.ireturn, 1) := by decide +kernel
def fX11_spacesOf_J26 (h : AH) (k4 : Nat → Int32 → Int32 → Option (Int32)) (v0 : Nat) (v2 : Int32) (s0 : Int32) (s1 : Int32) : Option (Int32) :=
    letF (s1 ||| s0 : Int32) fun x1 =>
    letF (v2 + 1 : Int32) fun x2 =>
    k4 v0 x1 x2
def fX11_spacesOf_L4 (h : AH) : Nat → Nat → Int32 → Int32 → Option (Int32)
  | 0, _, _, _ => none
  | n + 1, v0, v1, v2 =>
    if 6 ≤ v2 then (
      some v1
    ) else (
      (fX11_isSpace h v0 v2).bind fun q3 =>
      if q3 = true then (
        fX11_spacesOf_J26 h (fX11_spacesOf_L4 h n) v0 v2 (1 <<< (v2 &&& 31)) v1
      ) else (
        fX11_spacesOf_J26 h (fX11_spacesOf_L4 h n) v0 v2 0 v1
      )
    )
def fX11_spacesOf (h : AH) (a0 : Nat) : Option (Int32) :=
  fX11_spacesOf_L4 h FU a0 0 0
set_option maxHeartbeats 4000000 in
theorem gX11_spacesOf_J26 {Y : YT} {X : XT} (C : CT Y X RX11 cX11_spacesOf 3) (O : RO X 3 0 0) {h : AH} {r : Int32} (E : RX Y X (some .int) (some (.int r)) h 0 0) {k4 : Nat → Int32 → Int32 → Option (Int32)} (hk4 : ∀ (v0 : Nat) (v1 : Int32) (v2 : Int32), GO Y X 3 r h 0 0 4 [(0, .ref v0), (1, .int v1), (2, .int v2)] [] (k4 v0 v1 v2)) : ∀ (v0 : Nat) (v2 : Int32) (s0 : Int32) (s1 : Int32), GO Y X 3 r h 0 0 26 [(0, .ref v0), (2, .int v2)] [.int s0, .int s1] (fX11_spacesOf_J26 h k4 v0 v2 s0 s1) := by
  intro v0 v2 s0 s1
  unfold fX11_spacesOf_J26
  refine go_ior (pc := 26) C dX11_spacesOf_26 ?_
  refine go_istore_nL (pc := 27) C dX11_spacesOf_27 (by decide) (fun x1 => [(1, .int x1), (0, .ref v0), (2, .int v2)]) (fun _ => rfl) (fun x1 => ?_)
  refine go_iincL (pc := 28) C 2 dX11_spacesOf_28 rfl ki_1 (by decide) (fun x2 => [(2, .int x2), (1, .int x1), (0, .ref v0)]) (fun _ => rfl) (fun x2 => ?_)
  refine go_goto (pc := 31) C 4 dX11_spacesOf_31 (by decide) ?_
  refine go_sub (ls' := [(0, .ref v0), (1, .int x1), (2, .int x2)]) [2, 1, 0] rfl ?_
  exact hk4 v0 x1 x2
set_option maxHeartbeats 4000000 in
theorem gX11_spacesOf_L4 {Y : YT} {X : XT} (C : CT Y X RX11 cX11_spacesOf 3) (O : RO X 3 0 0) {h : AH} {r : Int32} (E : RX Y X (some .int) (some (.int r)) h 0 0) : ∀ (n : Nat) (v0 : Nat) (v1 : Int32) (v2 : Int32), GO Y X 3 r h 0 0 4 [(0, .ref v0), (1, .int v1), (2, .int v2)] [] (fX11_spacesOf_L4 h n v0 v1 v2) := by
  intro n
  induction n with
  | zero => intros; exact go_none _ _ _
  | succ n ih =>
    intro v0 v1 v2
    rw [fX11_spacesOf_L4]
    refine go_iload_n (pc := 4) C 2 dX11_spacesOf_4 rfl ?_
    refine go_bipush (pc := 5) C dX11_spacesOf_5 kb_6 ?_
    refine go_icmp_ge (pc := 7) C 34 dX11_spacesOf_7 (by decide) (fun _ => ?_) (fun _ => ?_)
    · refine go_iload_n (pc := 34) C 1 dX11_spacesOf_34 rfl ?_
      exact go_iret (w := (wI h)) (pc := 35) C E v1 v1 dX11_spacesOf_35 rfl
    · refine go_iload_n (pc := 10) C 1 dX11_spacesOf_10 rfl ?_
      refine go_aload_n (pc := 11) C 0 dX11_spacesOf_11 rfl ?_
      refine go_iload_n (pc := 12) C 2 dX11_spacesOf_12 rfl ?_
      refine go_bind (fun q3 hq3 => ?_)
      refine go_callS (rest := [.int v1]) (st' := [.int (b2i q3), .int v1]) (c' := 0) (s' := 0) (pc := 13) C O miX11_106 w_1479 [.ref v0, .int v2] rfl (mX11_isSpace hq3) dX11_spacesOf_13 ⟨by decide, by decide, by decide, by decide⟩ rfl (Nat.le_of_ble_eq_true rfl) rfl ⟨rfl, rfl⟩ ?_
      refine go_ifZ_eq (pc := 16) C 25 dX11_spacesOf_16 (by decide) (fun _ => ?_) (fun _ => ?_)
      · refine go_iconst (pc := 19) C dX11_spacesOf_19 ki_1 ?_
        refine go_iload_n (pc := 20) C 2 dX11_spacesOf_20 rfl ?_
        refine go_ishl (pc := 21) C dX11_spacesOf_21 ?_
        refine go_goto (pc := 22) C 26 dX11_spacesOf_22 (by decide) ?_
        refine go_sub (ls' := [(0, .ref v0), (2, .int v2)]) [0, 2] rfl ?_
        refine gX11_spacesOf_J26 C O E (ih) v0 v2 (1 <<< (v2 &&& 31)) v1
      · refine go_iconst (pc := 25) C dX11_spacesOf_25 ki_0 ?_
        refine go_sub (ls' := [(0, .ref v0), (2, .int v2)]) [0, 2] rfl ?_
        refine gX11_spacesOf_J26 C O E (ih) v0 v2 0 v1
set_option maxHeartbeats 4000000 in
theorem mX11_spacesOf {h : AH} {a0 : Nat} {r : Int32} (hr : fX11_spacesOf h a0 = some r) : MC yX11_spacesOf cX11_spacesOf 3 (some .int) 3 0 0 [.ref a0] h (some (.int r)) h := by
  unfold fX11_spacesOf at hr
  refine mc_of (l0 := [(0, .ref a0)]) rfl pn_X11 (Nat.le_of_ble_eq_true rfl) (fun Y X C E O hnm => go_run hr ?_)
  have C : CT Y X RX11 cX11_spacesOf 3 := C
  refine go_iconst (pc := 0) C dX11_spacesOf_0 ki_0 ?_
  refine go_istore_n (ls' := [(1, .int 0), (0, .ref a0)]) (pc := 1) C dX11_spacesOf_1 (by decide) rfl ?_
  refine go_iconst (pc := 2) C dX11_spacesOf_2 ki_0 ?_
  refine go_istore_n (ls' := [(2, .int 0), (1, .int 0), (0, .ref a0)]) (pc := 3) C dX11_spacesOf_3 (by decide) rfl ?_
  refine go_sub (ls' := [(0, .ref a0), (1, .int 0), (2, .int 0)]) [2, 1, 0] rfl ?_
  refine gX11_spacesOf_L4 C O E FU a0 0 0
theorem dX11_freeObject_0 : decode cX11_freeObject 0 = .ok (.iconst 0, 1) := by decide +kernel
theorem dX11_freeObject_1 : decode cX11_freeObject 1 = .ok (.istore_n 1, 1) := by decide +kernel
theorem dX11_freeObject_2 : decode cX11_freeObject 2 = .ok (.iload_n 1, 1) := by decide +kernel
theorem dX11_freeObject_3 : decode cX11_freeObject 3 = .ok (.bipush 24, 2) := by decide +kernel
theorem dX11_freeObject_5 : decode cX11_freeObject 5 = .ok (.if_icmp .ge 19, 3) := by decide +kernel
theorem dX11_freeObject_8 : decode cX11_freeObject 8 = .ok (.aload_n 0, 1) := by decide +kernel
theorem dX11_freeObject_9 : decode cX11_freeObject 9 = .ok (.iload_n 1, 1) := by decide +kernel
theorem dX11_freeObject_10 : decode cX11_freeObject 10 = .ok (.invokestatic 88, 3) := by decide +kernel
theorem dX11_freeObject_13 : decode cX11_freeObject 13 = .ok (.ifCond .ne 5, 3) := by decide +kernel
theorem dX11_freeObject_16 : decode cX11_freeObject 16 = .ok (.iload_n 1, 1) := by decide +kernel
theorem dX11_freeObject_17 : decode cX11_freeObject 17 = .ok (.ireturn, 1) := by decide +kernel
theorem dX11_freeObject_18 : decode cX11_freeObject 18 = .ok (.iinc 1 1, 3) := by decide +kernel
theorem dX11_freeObject_21 : decode cX11_freeObject 21 = .ok (.goto (-19), 3) := by decide +kernel
theorem dX11_freeObject_24 : decode cX11_freeObject 24 = .ok (.iconst (-1), 1) := by decide +kernel
theorem dX11_freeObject_25 : decode cX11_freeObject 25 = .ok (.ireturn, 1) := by decide +kernel
def fX11_freeObject_L2 (h : AH) : Nat → Nat → Int32 → Option (Int32)
  | 0, _, _ => none
  | n + 1, v0, v1 =>
    if 24 ≤ v1 then (
      some ((-1))
    ) else (
      (fX11_isThere h v0 v1).bind fun q1 =>
      if q1 = true then (
        letF (v1 + 1 : Int32) fun x2 =>
        fX11_freeObject_L2 h n v0 x2
      ) else (
        some v1
      )
    )
def fX11_freeObject (h : AH) (a0 : Nat) : Option (Int32) :=
  fX11_freeObject_L2 h FU a0 0
set_option maxHeartbeats 4000000 in
theorem gX11_freeObject_L2 {Y : YT} {X : XT} (C : CT Y X RX11 cX11_freeObject 2) (O : RO X 2 0 0) {h : AH} {r : Int32} (E : RX Y X (some .int) (some (.int r)) h 0 0) : ∀ (n : Nat) (v0 : Nat) (v1 : Int32), GO Y X 2 r h 0 0 2 [(0, .ref v0), (1, .int v1)] [] (fX11_freeObject_L2 h n v0 v1) := by
  intro n
  induction n with
  | zero => intros; exact go_none _ _ _
  | succ n ih =>
    intro v0 v1
    rw [fX11_freeObject_L2]
    refine go_iload_n (pc := 2) C 1 dX11_freeObject_2 rfl ?_
    refine go_bipush (pc := 3) C dX11_freeObject_3 kb_24 ?_
    refine go_icmp_ge (pc := 5) C 24 dX11_freeObject_5 (by decide) (fun _ => ?_) (fun _ => ?_)
    · refine go_iconst (pc := 24) C dX11_freeObject_24 ki_m1 ?_
      exact go_iret (w := (wI h)) (pc := 25) C E ((-1)) ((-1)) dX11_freeObject_25 rfl
    · refine go_aload_n (pc := 8) C 0 dX11_freeObject_8 rfl ?_
      refine go_iload_n (pc := 9) C 1 dX11_freeObject_9 rfl ?_
      refine go_bind (fun q1 hq1 => ?_)
      refine go_callS (rest := []) (st' := [.int (b2i q1)]) (c' := 0) (s' := 0) (pc := 10) C O miX11_88 w_1485 [.ref v0, .int v1] rfl (mX11_isThere hq1) dX11_freeObject_10 ⟨by decide, by decide, by decide, by decide⟩ rfl (Nat.le_of_ble_eq_true rfl) rfl ⟨rfl, rfl⟩ ?_
      refine go_ifZ_ne (pc := 13) C 18 dX11_freeObject_13 (by decide) (fun _ => ?_) (fun _ => ?_)
      · refine go_iincL (pc := 18) C 1 dX11_freeObject_18 rfl ki_1 (by decide) (fun x2 => [(1, .int x2), (0, .ref v0)]) (fun _ => rfl) (fun x2 => ?_)
        refine go_goto (pc := 21) C 2 dX11_freeObject_21 (by decide) ?_
        refine go_sub (ls' := [(0, .ref v0), (1, .int x2)]) [1, 0] rfl ?_
        exact ih v0 x2
      · refine go_iload_n (pc := 16) C 1 dX11_freeObject_16 rfl ?_
        exact go_iret (w := (wI h)) (pc := 17) C E v1 v1 dX11_freeObject_17 rfl
set_option maxHeartbeats 4000000 in
theorem mX11_freeObject {h : AH} {a0 : Nat} {r : Int32} (hr : fX11_freeObject h a0 = some r) : MC yX11_freeObject cX11_freeObject 2 (some .int) 2 0 0 [.ref a0] h (some (.int r)) h := by
  unfold fX11_freeObject at hr
  refine mc_of (l0 := [(0, .ref a0)]) rfl pn_X11 (Nat.le_of_ble_eq_true rfl) (fun Y X C E O hnm => go_run hr ?_)
  have C : CT Y X RX11 cX11_freeObject 2 := C
  refine go_iconst (pc := 0) C dX11_freeObject_0 ki_0 ?_
  refine go_istore_n (ls' := [(1, .int 0), (0, .ref a0)]) (pc := 1) C dX11_freeObject_1 (by decide) rfl ?_
  refine go_sub (ls' := [(0, .ref a0), (1, .int 0)]) [1, 0] rfl ?_
  refine gX11_freeObject_L2 C O E FU a0 0
theorem dX11_freeSpace_0 : decode cX11_freeSpace 0 = .ok (.iconst 0, 1) := by decide +kernel
theorem dX11_freeSpace_1 : decode cX11_freeSpace 1 = .ok (.istore_n 1, 1) := by decide +kernel
theorem dX11_freeSpace_2 : decode cX11_freeSpace 2 = .ok (.iload_n 1, 1) := by decide +kernel
theorem dX11_freeSpace_3 : decode cX11_freeSpace 3 = .ok (.bipush 6, 2) := by decide +kernel
theorem dX11_freeSpace_5 : decode cX11_freeSpace 5 = .ok (.if_icmp .ge 19, 3) := by decide +kernel
theorem dX11_freeSpace_8 : decode cX11_freeSpace 8 = .ok (.aload_n 0, 1) := by decide +kernel
theorem dX11_freeSpace_9 : decode cX11_freeSpace 9 = .ok (.iload_n 1, 1) := by decide +kernel
theorem dX11_freeSpace_10 : decode cX11_freeSpace 10 = .ok (.invokestatic 106, 3) := by decide +kernel
theorem dX11_freeSpace_13 : decode cX11_freeSpace 13 = .ok (.ifCond .ne 5, 3) := by decide +kernel
theorem dX11_freeSpace_16 : decode cX11_freeSpace 16 = .ok (.iload_n 1, 1) := by decide +kernel
theorem dX11_freeSpace_17 : decode cX11_freeSpace 17 = .ok (.ireturn, 1) := by decide +kernel
theorem dX11_freeSpace_18 : decode cX11_freeSpace 18 = .ok (.iinc 1 1, 3) := by decide +kernel
theorem dX11_freeSpace_21 : decode cX11_freeSpace 21 = .ok (.goto (-19), 3) := by decide +kernel
theorem dX11_freeSpace_24 : decode cX11_freeSpace 24 = .ok (.iconst (-1), 1) := by decide +kernel
theorem dX11_freeSpace_25 : decode cX11_freeSpace 25 = .ok (.ireturn, 1) := by decide +kernel
def fX11_freeSpace_L2 (h : AH) : Nat → Nat → Int32 → Option (Int32)
  | 0, _, _ => none
  | n + 1, v0, v1 =>
    if 6 ≤ v1 then (
      some ((-1))
    ) else (
      (fX11_isSpace h v0 v1).bind fun q1 =>
      if q1 = true then (
        letF (v1 + 1 : Int32) fun x2 =>
        fX11_freeSpace_L2 h n v0 x2
      ) else (
        some v1
      )
    )
def fX11_freeSpace (h : AH) (a0 : Nat) : Option (Int32) :=
  fX11_freeSpace_L2 h FU a0 0
set_option maxHeartbeats 4000000 in
theorem gX11_freeSpace_L2 {Y : YT} {X : XT} (C : CT Y X RX11 cX11_freeSpace 2) (O : RO X 3 0 0) {h : AH} {r : Int32} (E : RX Y X (some .int) (some (.int r)) h 0 0) : ∀ (n : Nat) (v0 : Nat) (v1 : Int32), GO Y X 2 r h 0 0 2 [(0, .ref v0), (1, .int v1)] [] (fX11_freeSpace_L2 h n v0 v1) := by
  intro n
  induction n with
  | zero => intros; exact go_none _ _ _
  | succ n ih =>
    intro v0 v1
    rw [fX11_freeSpace_L2]
    refine go_iload_n (pc := 2) C 1 dX11_freeSpace_2 rfl ?_
    refine go_bipush (pc := 3) C dX11_freeSpace_3 kb_6 ?_
    refine go_icmp_ge (pc := 5) C 24 dX11_freeSpace_5 (by decide) (fun _ => ?_) (fun _ => ?_)
    · refine go_iconst (pc := 24) C dX11_freeSpace_24 ki_m1 ?_
      exact go_iret (w := (wI h)) (pc := 25) C E ((-1)) ((-1)) dX11_freeSpace_25 rfl
    · refine go_aload_n (pc := 8) C 0 dX11_freeSpace_8 rfl ?_
      refine go_iload_n (pc := 9) C 1 dX11_freeSpace_9 rfl ?_
      refine go_bind (fun q1 hq1 => ?_)
      refine go_callS (rest := []) (st' := [.int (b2i q1)]) (c' := 0) (s' := 0) (pc := 10) C O miX11_106 w_1479 [.ref v0, .int v1] rfl (mX11_isSpace hq1) dX11_freeSpace_10 ⟨by decide, by decide, by decide, by decide⟩ rfl (Nat.le_of_ble_eq_true rfl) rfl ⟨rfl, rfl⟩ ?_
      refine go_ifZ_ne (pc := 13) C 18 dX11_freeSpace_13 (by decide) (fun _ => ?_) (fun _ => ?_)
      · refine go_iincL (pc := 18) C 1 dX11_freeSpace_18 rfl ki_1 (by decide) (fun x2 => [(1, .int x2), (0, .ref v0)]) (fun _ => rfl) (fun x2 => ?_)
        refine go_goto (pc := 21) C 2 dX11_freeSpace_21 (by decide) ?_
        refine go_sub (ls' := [(0, .ref v0), (1, .int x2)]) [1, 0] rfl ?_
        exact ih v0 x2
      · refine go_iload_n (pc := 16) C 1 dX11_freeSpace_16 rfl ?_
        exact go_iret (w := (wI h)) (pc := 17) C E v1 v1 dX11_freeSpace_17 rfl
set_option maxHeartbeats 4000000 in
theorem mX11_freeSpace {h : AH} {a0 : Nat} {r : Int32} (hr : fX11_freeSpace h a0 = some r) : MC yX11_freeSpace cX11_freeSpace 2 (some .int) 3 0 0 [.ref a0] h (some (.int r)) h := by
  unfold fX11_freeSpace at hr
  refine mc_of (l0 := [(0, .ref a0)]) rfl pn_X11 (Nat.le_of_ble_eq_true rfl) (fun Y X C E O hnm => go_run hr ?_)
  have C : CT Y X RX11 cX11_freeSpace 2 := C
  refine go_iconst (pc := 0) C dX11_freeSpace_0 ki_0 ?_
  refine go_istore_n (ls' := [(1, .int 0), (0, .ref a0)]) (pc := 1) C dX11_freeSpace_1 (by decide) rfl ?_
  refine go_sub (ls' := [(0, .ref a0), (1, .int 0)]) [1, 0] rfl ?_
  refine gX11_freeSpace_L2 C O E FU a0 0
theorem dX11_holdersOf_0 : decode cX11_holdersOf 0 = .ok (.iconst 0, 1) := by decide +kernel
theorem dX11_holdersOf_1 : decode cX11_holdersOf 1 = .ok (.istore_n 2, 1) := by decide +kernel
theorem dX11_holdersOf_2 : decode cX11_holdersOf 2 = .ok (.iconst 0, 1) := by decide +kernel
theorem dX11_holdersOf_3 : decode cX11_holdersOf 3 = .ok (.istore_n 3, 1) := by decide +kernel
theorem dX11_holdersOf_4 : decode cX11_holdersOf 4 = .ok (.iload_n 3, 1) := by decide +kernel
theorem dX11_holdersOf_5 : decode cX11_holdersOf 5 = .ok (.bipush 6, 2) := by decide +kernel
theorem dX11_holdersOf_7 : decode cX11_holdersOf 7 = .ok (.if_icmp .ge 28, 3) := by decide +kernel
theorem dX11_holdersOf_10 : decode cX11_holdersOf 10 = .ok (.iload_n 2, 1) := by decide +kernel
theorem dX11_holdersOf_11 : decode cX11_holdersOf 11 = .ok (.aload_n 0, 1) := by decide +kernel
theorem dX11_holdersOf_12 : decode cX11_holdersOf 12 = .ok (.sipush 312, 3) := by decide +kernel
theorem dX11_holdersOf_15 : decode cX11_holdersOf 15 = .ok (.iload_n 3, 1) := by decide +kernel
theorem dX11_holdersOf_16 : decode cX11_holdersOf 16 = .ok (.iadd, 1) := by decide +kernel
theorem dX11_holdersOf_17 : decode cX11_holdersOf 17 = .ok (.iaload, 1) := by decide +kernel
theorem dX11_holdersOf_18 : decode cX11_holdersOf 18 = .ok (.iload_n 1, 1) := by decide +kernel
theorem dX11_holdersOf_19 : decode cX11_holdersOf 19 = .ok (.if_icmp .ne 7, 3) := by decide +kernel
theorem dX11_holdersOf_22 : decode cX11_holdersOf 22 = .ok (.iconst 1, 1) := by decide +kernel
theorem dX11_holdersOf_23 : decode cX11_holdersOf 23 = .ok (.goto 4, 3) := by decide +kernel
theorem dX11_holdersOf_26 : decode cX11_holdersOf 26 = .ok (.iconst 0, 1) := by decide +kernel
theorem dX11_holdersOf_27 : decode cX11_holdersOf 27 = .ok (.iadd, 1) := by decide +kernel
theorem dX11_holdersOf_28 : decode cX11_holdersOf 28 = .ok (.istore_n 2, 1) := by decide +kernel
theorem dX11_holdersOf_29 : decode cX11_holdersOf 29 = .ok (.iinc 3 1, 3) := by decide +kernel
theorem dX11_holdersOf_32 : decode cX11_holdersOf 32 = .ok (.goto (-28), 3) := by decide +kernel
theorem dX11_holdersOf_35 : decode cX11_holdersOf 35 = .ok (.iconst 0, 1) := by decide +kernel
theorem dX11_holdersOf_36 : decode cX11_holdersOf 36 = .ok (.istore_n 3, 1) := by decide +kernel
theorem dX11_holdersOf_37 : decode cX11_holdersOf 37 = .ok (.iload_n 3, 1) := by decide +kernel
theorem dX11_holdersOf_38 : decode cX11_holdersOf 38 = .ok (.bipush 24, 2) := by decide +kernel
theorem dX11_holdersOf_40 : decode cX11_holdersOf 40 = .ok (.if_icmp .ge 36, 3) := by decide +kernel
theorem dX11_holdersOf_43 : decode cX11_holdersOf 43 = .ok (.iload_n 2, 1) := by decide +kernel
theorem dX11_holdersOf_44 : decode cX11_holdersOf 44 = .ok (.aload_n 0, 1) := by decide +kernel
theorem dX11_holdersOf_45 : decode cX11_holdersOf 45 = .ok (.iload_n 3, 1) := by decide +kernel
theorem dX11_holdersOf_46 : decode cX11_holdersOf 46 = .ok (.invokestatic 88, 3) := by decide +kernel
theorem dX11_holdersOf_49 : decode cX11_holdersOf 49 = .ok (.ifCond .eq 18, 3) := by decide +kernel
theorem dX11_holdersOf_52 : decode cX11_holdersOf 52 = .ok (.aload_n 0, 1) := by decide +kernel
theorem dX11_holdersOf_53 : decode cX11_holdersOf 53 = .ok (.sipush 192, 3) := by decide +kernel
theorem dX11_holdersOf_56 : decode cX11_holdersOf 56 = .ok (.iload_n 3, 1) := by decide +kernel
theorem dX11_holdersOf_57 : decode cX11_holdersOf 57 = .ok (.iadd, 1) := by decide +kernel
theorem dX11_holdersOf_58 : decode cX11_holdersOf 58 = .ok (.iaload, 1) := by decide +kernel
theorem dX11_holdersOf_59 : decode cX11_holdersOf 59 = .ok (.iload_n 1, 1) := by decide +kernel
theorem dX11_holdersOf_60 : decode cX11_holdersOf 60 = .ok (.if_icmp .ne 7, 3) := by decide +kernel
theorem dX11_holdersOf_63 : decode cX11_holdersOf 63 = .ok (.iconst 1, 1) := by decide +kernel
theorem dX11_holdersOf_64 : decode cX11_holdersOf 64 = .ok (.goto 4, 3) := by decide +kernel
theorem dX11_holdersOf_67 : decode cX11_holdersOf 67 = .ok (.iconst 0, 1) := by decide +kernel
theorem dX11_holdersOf_68 : decode cX11_holdersOf 68 = .ok (.iadd, 1) := by decide +kernel
theorem dX11_holdersOf_69 : decode cX11_holdersOf 69 = .ok (.istore_n 2, 1) := by decide +kernel
theorem dX11_holdersOf_70 : decode cX11_holdersOf 70 = .ok (.iinc 3 1, 3) := by decide +kernel
theorem dX11_holdersOf_73 : decode cX11_holdersOf 73 = .ok (.goto (-36), 3) := by decide +kernel
theorem dX11_holdersOf_76 : decode cX11_holdersOf 76 = .ok (.iload_n 2, 1) := by decide +kernel
theorem dX11_holdersOf_77 : decode cX11_holdersOf 77 = .ok (.ireturn, 1) := by decide +kernel
def fX11_holdersOf_J27 (h : AH) (k4 : Nat → Int32 → Int32 → Int32 → Option (Int32)) (v0 : Nat) (v1 : Int32) (v3 : Int32) (s0 : Int32) (s1 : Int32) : Option (Int32) :=
    letF (s1 + s0 : Int32) fun x1 =>
    letF (v3 + 1 : Int32) fun x2 =>
    k4 v0 v1 x1 x2
def fX11_holdersOf_L4 (h : AH) (k35 : Nat → Int32 → Int32 → Option (Int32)) : Nat → Nat → Int32 → Int32 → Int32 → Option (Int32)
  | 0, _, _, _, _ => none
  | n + 1, v0, v1, v2, v3 =>
    if 6 ≤ v3 then (
      k35 v0 v1 v2
    ) else (
      (aI h 0 v0 (312 + v3)).bind fun x3 =>
      if x3 = v1 then (
        fX11_holdersOf_J27 h (fX11_holdersOf_L4 h k35 n) v0 v1 v3 1 v2
      ) else (
        fX11_holdersOf_J27 h (fX11_holdersOf_L4 h k35 n) v0 v1 v3 0 v2
      )
    )
def fX11_holdersOf_J68 (h : AH) (k37 : Nat → Int32 → Int32 → Int32 → Option (Int32)) (v0 : Nat) (v1 : Int32) (v3 : Int32) (s0 : Int32) (s1 : Int32) : Option (Int32) :=
    letF (s1 + s0 : Int32) fun x4 =>
    letF (v3 + 1 : Int32) fun x5 =>
    k37 v0 v1 x4 x5
def fX11_holdersOf_L37 (h : AH) : Nat → Nat → Int32 → Int32 → Int32 → Option (Int32)
  | 0, _, _, _, _ => none
  | n + 1, v0, v1, v2, v3 =>
    if 24 ≤ v3 then (
      some v2
    ) else (
      (fX11_isThere h v0 v3).bind fun q6 =>
      if q6 = true then (
        (aI h 0 v0 (192 + v3)).bind fun x7 =>
        if x7 = v1 then (
          fX11_holdersOf_J68 h (fX11_holdersOf_L37 h n) v0 v1 v3 1 v2
        ) else (
          fX11_holdersOf_J68 h (fX11_holdersOf_L37 h n) v0 v1 v3 0 v2
        )
      ) else (
        fX11_holdersOf_J68 h (fX11_holdersOf_L37 h n) v0 v1 v3 0 v2
      )
    )
def fX11_holdersOf (h : AH) (a0 : Nat) (a1 : Int32) : Option (Int32) :=
  fX11_holdersOf_L4 h
    (fun x8 x9 x10 =>
      fX11_holdersOf_L37 h FU x8 x9 x10 0)
    FU a0 a1 0 0
set_option maxHeartbeats 4000000 in
theorem gX11_holdersOf_J27 {Y : YT} {X : XT} (C : CT Y X RX11 cX11_holdersOf 4) (O : RO X 2 0 0) {h : AH} {r : Int32} (E : RX Y X (some .int) (some (.int r)) h 0 0) {k4 : Nat → Int32 → Int32 → Int32 → Option (Int32)} (hk4 : ∀ (v0 : Nat) (v1 : Int32) (v2 : Int32) (v3 : Int32), GO Y X 4 r h 0 0 4 [(0, .ref v0), (1, .int v1), (2, .int v2), (3, .int v3)] [] (k4 v0 v1 v2 v3)) : ∀ (v0 : Nat) (v1 : Int32) (v3 : Int32) (s0 : Int32) (s1 : Int32), GO Y X 4 r h 0 0 27 [(0, .ref v0), (1, .int v1), (3, .int v3)] [.int s0, .int s1] (fX11_holdersOf_J27 h k4 v0 v1 v3 s0 s1) := by
  intro v0 v1 v3 s0 s1
  unfold fX11_holdersOf_J27
  refine go_iadd (pc := 27) C dX11_holdersOf_27 ?_
  refine go_istore_nL (pc := 28) C dX11_holdersOf_28 (by decide) (fun x1 => [(2, .int x1), (0, .ref v0), (1, .int v1), (3, .int v3)]) (fun _ => rfl) (fun x1 => ?_)
  refine go_iincL (pc := 29) C 3 dX11_holdersOf_29 rfl ki_1 (by decide) (fun x2 => [(3, .int x2), (2, .int x1), (0, .ref v0), (1, .int v1)]) (fun _ => rfl) (fun x2 => ?_)
  refine go_goto (pc := 32) C 4 dX11_holdersOf_32 (by decide) ?_
  refine go_sub (ls' := [(0, .ref v0), (1, .int v1), (2, .int x1), (3, .int x2)]) [2, 3, 1, 0] rfl ?_
  exact hk4 v0 v1 x1 x2
set_option maxHeartbeats 4000000 in
theorem gX11_holdersOf_L4 {Y : YT} {X : XT} (C : CT Y X RX11 cX11_holdersOf 4) (O : RO X 2 0 0) {h : AH} {r : Int32} (E : RX Y X (some .int) (some (.int r)) h 0 0) {k35 : Nat → Int32 → Int32 → Option (Int32)} (hk35 : ∀ (v0 : Nat) (v1 : Int32) (v2 : Int32), GO Y X 4 r h 0 0 35 [(0, .ref v0), (1, .int v1), (2, .int v2)] [] (k35 v0 v1 v2)) : ∀ (n : Nat) (v0 : Nat) (v1 : Int32) (v2 : Int32) (v3 : Int32), GO Y X 4 r h 0 0 4 [(0, .ref v0), (1, .int v1), (2, .int v2), (3, .int v3)] [] (fX11_holdersOf_L4 h k35 n v0 v1 v2 v3) := by
  intro n
  induction n with
  | zero => intros; exact go_none _ _ _
  | succ n ih =>
    intro v0 v1 v2 v3
    rw [fX11_holdersOf_L4]
    refine go_iload_n (pc := 4) C 3 dX11_holdersOf_4 rfl ?_
    refine go_bipush (pc := 5) C dX11_holdersOf_5 kb_6 ?_
    refine go_icmp_ge (pc := 7) C 35 dX11_holdersOf_7 (by decide) (fun _ => ?_) (fun _ => ?_)
    · refine go_sub (ls' := [(0, .ref v0), (1, .int v1), (2, .int v2)]) [0, 1, 2] rfl ?_
      exact hk35 v0 v1 v2
    · refine go_iload_n (pc := 10) C 2 dX11_holdersOf_10 rfl ?_
      refine go_aload_n (pc := 11) C 0 dX11_holdersOf_11 rfl ?_
      refine go_sipush (pc := 12) C dX11_holdersOf_12 ks_312 ?_
      refine go_iload_n (pc := 15) C 3 dX11_holdersOf_15 rfl ?_
      refine go_iadd (pc := 16) C dX11_holdersOf_16 ?_
      refine go_iald (pc := 17) C dX11_holdersOf_17 (fun x3 => ?_)
      refine go_iload_n (pc := 18) C 1 dX11_holdersOf_18 rfl ?_
      refine go_icmp_ne (pc := 19) C 26 dX11_holdersOf_19 (by decide) (fun _ => ?_) (fun _ => ?_)
      · refine go_iconst (pc := 22) C dX11_holdersOf_22 ki_1 ?_
        refine go_goto (pc := 23) C 27 dX11_holdersOf_23 (by decide) ?_
        refine go_sub (ls' := [(0, .ref v0), (1, .int v1), (3, .int v3)]) [0, 1, 3] rfl ?_
        refine gX11_holdersOf_J27 C O E (ih) v0 v1 v3 1 v2
      · refine go_iconst (pc := 26) C dX11_holdersOf_26 ki_0 ?_
        refine go_sub (ls' := [(0, .ref v0), (1, .int v1), (3, .int v3)]) [0, 1, 3] rfl ?_
        refine gX11_holdersOf_J27 C O E (ih) v0 v1 v3 0 v2
set_option maxHeartbeats 4000000 in
theorem gX11_holdersOf_J68 {Y : YT} {X : XT} (C : CT Y X RX11 cX11_holdersOf 4) (O : RO X 2 0 0) {h : AH} {r : Int32} (E : RX Y X (some .int) (some (.int r)) h 0 0) {k37 : Nat → Int32 → Int32 → Int32 → Option (Int32)} (hk37 : ∀ (v0 : Nat) (v1 : Int32) (v2 : Int32) (v3 : Int32), GO Y X 4 r h 0 0 37 [(0, .ref v0), (1, .int v1), (2, .int v2), (3, .int v3)] [] (k37 v0 v1 v2 v3)) : ∀ (v0 : Nat) (v1 : Int32) (v3 : Int32) (s0 : Int32) (s1 : Int32), GO Y X 4 r h 0 0 68 [(0, .ref v0), (1, .int v1), (3, .int v3)] [.int s0, .int s1] (fX11_holdersOf_J68 h k37 v0 v1 v3 s0 s1) := by
  intro v0 v1 v3 s0 s1
  unfold fX11_holdersOf_J68
  refine go_iadd (pc := 68) C dX11_holdersOf_68 ?_
  refine go_istore_nL (pc := 69) C dX11_holdersOf_69 (by decide) (fun x4 => [(2, .int x4), (0, .ref v0), (1, .int v1), (3, .int v3)]) (fun _ => rfl) (fun x4 => ?_)
  refine go_iincL (pc := 70) C 3 dX11_holdersOf_70 rfl ki_1 (by decide) (fun x5 => [(3, .int x5), (2, .int x4), (0, .ref v0), (1, .int v1)]) (fun _ => rfl) (fun x5 => ?_)
  refine go_goto (pc := 73) C 37 dX11_holdersOf_73 (by decide) ?_
  refine go_sub (ls' := [(0, .ref v0), (1, .int v1), (2, .int x4), (3, .int x5)]) [2, 3, 1, 0] rfl ?_
  exact hk37 v0 v1 x4 x5
set_option maxHeartbeats 4000000 in
theorem gX11_holdersOf_L37 {Y : YT} {X : XT} (C : CT Y X RX11 cX11_holdersOf 4) (O : RO X 2 0 0) {h : AH} {r : Int32} (E : RX Y X (some .int) (some (.int r)) h 0 0) : ∀ (n : Nat) (v0 : Nat) (v1 : Int32) (v2 : Int32) (v3 : Int32), GO Y X 4 r h 0 0 37 [(0, .ref v0), (1, .int v1), (2, .int v2), (3, .int v3)] [] (fX11_holdersOf_L37 h n v0 v1 v2 v3) := by
  intro n
  induction n with
  | zero => intros; exact go_none _ _ _
  | succ n ih =>
    intro v0 v1 v2 v3
    rw [fX11_holdersOf_L37]
    refine go_iload_n (pc := 37) C 3 dX11_holdersOf_37 rfl ?_
    refine go_bipush (pc := 38) C dX11_holdersOf_38 kb_24 ?_
    refine go_icmp_ge (pc := 40) C 76 dX11_holdersOf_40 (by decide) (fun _ => ?_) (fun _ => ?_)
    · refine go_iload_n (pc := 76) C 2 dX11_holdersOf_76 rfl ?_
      exact go_iret (w := (wI h)) (pc := 77) C E v2 v2 dX11_holdersOf_77 rfl
    · refine go_iload_n (pc := 43) C 2 dX11_holdersOf_43 rfl ?_
      refine go_aload_n (pc := 44) C 0 dX11_holdersOf_44 rfl ?_
      refine go_iload_n (pc := 45) C 3 dX11_holdersOf_45 rfl ?_
      refine go_bind (fun q6 hq6 => ?_)
      refine go_callS (rest := [.int v2]) (st' := [.int (b2i q6), .int v2]) (c' := 0) (s' := 0) (pc := 46) C O miX11_88 w_1485 [.ref v0, .int v3] rfl (mX11_isThere hq6) dX11_holdersOf_46 ⟨by decide, by decide, by decide, by decide⟩ rfl (Nat.le_of_ble_eq_true rfl) rfl ⟨rfl, rfl⟩ ?_
      refine go_ifZ_eq (pc := 49) C 67 dX11_holdersOf_49 (by decide) (fun _ => ?_) (fun _ => ?_)
      · refine go_aload_n (pc := 52) C 0 dX11_holdersOf_52 rfl ?_
        refine go_sipush (pc := 53) C dX11_holdersOf_53 ks_192 ?_
        refine go_iload_n (pc := 56) C 3 dX11_holdersOf_56 rfl ?_
        refine go_iadd (pc := 57) C dX11_holdersOf_57 ?_
        refine go_iald (pc := 58) C dX11_holdersOf_58 (fun x7 => ?_)
        refine go_iload_n (pc := 59) C 1 dX11_holdersOf_59 rfl ?_
        refine go_icmp_ne (pc := 60) C 67 dX11_holdersOf_60 (by decide) (fun _ => ?_) (fun _ => ?_)
        · refine go_iconst (pc := 63) C dX11_holdersOf_63 ki_1 ?_
          refine go_goto (pc := 64) C 68 dX11_holdersOf_64 (by decide) ?_
          refine go_sub (ls' := [(0, .ref v0), (1, .int v1), (3, .int v3)]) [0, 1, 3] rfl ?_
          refine gX11_holdersOf_J68 C O E (ih) v0 v1 v3 1 v2
        · refine go_iconst (pc := 67) C dX11_holdersOf_67 ki_0 ?_
          refine go_sub (ls' := [(0, .ref v0), (1, .int v1), (3, .int v3)]) [0, 1, 3] rfl ?_
          refine gX11_holdersOf_J68 C O E (ih) v0 v1 v3 0 v2
      · refine go_iconst (pc := 67) C dX11_holdersOf_67 ki_0 ?_
        refine go_sub (ls' := [(0, .ref v0), (1, .int v1), (3, .int v3)]) [0, 1, 3] rfl ?_
        refine gX11_holdersOf_J68 C O E (ih) v0 v1 v3 0 v2
set_option maxHeartbeats 4000000 in
theorem mX11_holdersOf {h : AH} {a0 : Nat} {a1 : Int32} {r : Int32} (hr : fX11_holdersOf h a0 a1 = some r) : MC yX11_holdersOf cX11_holdersOf 4 (some .int) 2 0 0 [.ref a0, .int a1] h (some (.int r)) h := by
  unfold fX11_holdersOf at hr
  refine mc_of (l0 := [(0, .ref a0), (1, .int a1)]) rfl pn_X11 (Nat.le_of_ble_eq_true rfl) (fun Y X C E O hnm => go_run hr ?_)
  have C : CT Y X RX11 cX11_holdersOf 4 := C
  refine go_iconst (pc := 0) C dX11_holdersOf_0 ki_0 ?_
  refine go_istore_n (ls' := [(2, .int 0), (0, .ref a0), (1, .int a1)]) (pc := 1) C dX11_holdersOf_1 (by decide) rfl ?_
  refine go_iconst (pc := 2) C dX11_holdersOf_2 ki_0 ?_
  refine go_istore_n (ls' := [(3, .int 0), (2, .int 0), (0, .ref a0), (1, .int a1)]) (pc := 3) C dX11_holdersOf_3 (by decide) rfl ?_
  refine go_sub (ls' := [(0, .ref a0), (1, .int a1), (2, .int 0), (3, .int 0)]) [2, 3, 1, 0] rfl ?_
  refine gX11_holdersOf_L4 C O E (fun x8 x9 x10 => ?_) FU a0 a1 0 0
  · refine go_iconst (pc := 35) C dX11_holdersOf_35 ki_0 ?_
    refine go_istore_n (ls' := [(3, .int 0), (0, .ref x8), (1, .int x9), (2, .int x10)]) (pc := 36) C dX11_holdersOf_36 (by decide) rfl ?_
    refine go_sub (ls' := [(0, .ref x8), (1, .int x9), (2, .int x10), (3, .int 0)]) [1, 2, 3, 0] rfl ?_
    refine gX11_holdersOf_L37 C O E FU x8 x9 x10 0
theorem dX11_forgetCopy_0 : decode cX11_forgetCopy 0 = .ok (.iconst 0, 1) := by decide +kernel
theorem dX11_forgetCopy_1 : decode cX11_forgetCopy 1 = .ok (.istore_n 3, 1) := by decide +kernel
theorem dX11_forgetCopy_2 : decode cX11_forgetCopy 2 = .ok (.iload_n 3, 1) := by decide +kernel
theorem dX11_forgetCopy_3 : decode cX11_forgetCopy 3 = .ok (.bipush 24, 2) := by decide +kernel
theorem dX11_forgetCopy_5 : decode cX11_forgetCopy 5 = .ok (.if_icmp .ge 28, 3) := by decide +kernel
theorem dX11_forgetCopy_8 : decode cX11_forgetCopy 8 = .ok (.aload_n 0, 1) := by decide +kernel
theorem dX11_forgetCopy_9 : decode cX11_forgetCopy 9 = .ok (.sipush 264, 3) := by decide +kernel
theorem dX11_forgetCopy_12 : decode cX11_forgetCopy 12 = .ok (.iload_n 3, 1) := by decide +kernel
theorem dX11_forgetCopy_13 : decode cX11_forgetCopy 13 = .ok (.iadd, 1) := by decide +kernel
theorem dX11_forgetCopy_14 : decode cX11_forgetCopy 14 = .ok (.iaload, 1) := by decide +kernel
theorem dX11_forgetCopy_15 : decode cX11_forgetCopy 15 = .ok (.iload_n 1, 1) := by decide +kernel
theorem dX11_forgetCopy_16 : decode cX11_forgetCopy 16 = .ok (.if_icmp .ne 11, 3) := by decide +kernel
theorem dX11_forgetCopy_19 : decode cX11_forgetCopy 19 = .ok (.aload_n 0, 1) := by decide +kernel
theorem dX11_forgetCopy_20 : decode cX11_forgetCopy 20 = .ok (.sipush 264, 3) := by decide +kernel
theorem dX11_forgetCopy_23 : decode cX11_forgetCopy 23 = .ok (.iload_n 3, 1) := by decide +kernel
theorem dX11_forgetCopy_24 : decode cX11_forgetCopy 24 = .ok (.iadd, 1) := by decide +kernel
theorem dX11_forgetCopy_25 : decode cX11_forgetCopy 25 = .ok (.iload_n 2, 1) := by decide +kernel
theorem dX11_forgetCopy_26 : decode cX11_forgetCopy 26 = .ok (.iastore, 1) := by decide +kernel
theorem dX11_forgetCopy_27 : decode cX11_forgetCopy 27 = .ok (.iinc 3 1, 3) := by decide +kernel
theorem dX11_forgetCopy_30 : decode cX11_forgetCopy 30 = .ok (.goto (-28), 3) := by decide +kernel
theorem dX11_forgetCopy_33 : decode cX11_forgetCopy 33 = .ok (.return_, 1) := by decide +kernel
def fX11_forgetCopy_L2 : Nat → AH → Nat → Int32 → Int32 → Int32 → Option (AH)
  | 0, _, _, _, _, _ => none
  | n + 1, h, v0, v1, v2, v3 =>
    if 24 ≤ v3 then (
      some h
    ) else (
      (aI h 0 v0 (264 + v3)).bind fun x1 =>
      if x1 = v1 then (
        (sI h 0 v0 (264 + v3) v2).bind fun h2 =>
        letF (v3 + 1 : Int32) fun x3 =>
        fX11_forgetCopy_L2 n h2 v0 v1 v2 x3
      ) else (
        letF (v3 + 1 : Int32) fun x4 =>
        fX11_forgetCopy_L2 n h v0 v1 v2 x4
      )
    )
def fX11_forgetCopy (h : AH) (a0 : Nat) (a1 : Int32) (a2 : Int32) : Option (AH) :=
  fX11_forgetCopy_L2 FU h a0 a1 a2 0
set_option maxHeartbeats 4000000 in
theorem gX11_forgetCopy_L2 {Y : YT} {X : XT} (C : CT Y X RX11 cX11_forgetCopy 4) (O : RO X 1 0 0) {r : AH} (E : RX Y X none none r 0 0) : ∀ (n : Nat) (h : AH) (v0 : Nat) (v1 : Int32) (v2 : Int32) (v3 : Int32), GO Y X 4 r h 0 0 2 [(0, .ref v0), (1, .int v1), (2, .int v2), (3, .int v3)] [] (fX11_forgetCopy_L2 n h v0 v1 v2 v3) := by
  intro n
  induction n with
  | zero => intros; exact go_none _ _ _
  | succ n ih =>
    intro h v0 v1 v2 v3
    rw [fX11_forgetCopy_L2]
    refine go_iload_n (pc := 2) C 3 dX11_forgetCopy_2 rfl ?_
    refine go_bipush (pc := 3) C dX11_forgetCopy_3 kb_24 ?_
    refine go_icmp_ge (pc := 5) C 33 dX11_forgetCopy_5 (by decide) (fun _ => ?_) (fun _ => ?_)
    · exact go_vret (w := wV) (pc := 33) C E h dX11_forgetCopy_33 rfl
    · refine go_aload_n (pc := 8) C 0 dX11_forgetCopy_8 rfl ?_
      refine go_sipush (pc := 9) C dX11_forgetCopy_9 ks_264 ?_
      refine go_iload_n (pc := 12) C 3 dX11_forgetCopy_12 rfl ?_
      refine go_iadd (pc := 13) C dX11_forgetCopy_13 ?_
      refine go_iald (pc := 14) C dX11_forgetCopy_14 (fun x1 => ?_)
      refine go_iload_n (pc := 15) C 1 dX11_forgetCopy_15 rfl ?_
      refine go_icmp_ne (pc := 16) C 27 dX11_forgetCopy_16 (by decide) (fun _ => ?_) (fun _ => ?_)
      · refine go_aload_n (pc := 19) C 0 dX11_forgetCopy_19 rfl ?_
        refine go_sipush (pc := 20) C dX11_forgetCopy_20 ks_264 ?_
        refine go_iload_n (pc := 23) C 3 dX11_forgetCopy_23 rfl ?_
        refine go_iadd (pc := 24) C dX11_forgetCopy_24 ?_
        refine go_iload_n (pc := 25) C 2 dX11_forgetCopy_25 rfl ?_
        refine go_iast (pc := 26) C dX11_forgetCopy_26 (fun h2 => ?_)
        refine go_iincL (pc := 27) C 3 dX11_forgetCopy_27 rfl ki_1 (by decide) (fun x3 => [(3, .int x3), (0, .ref v0), (1, .int v1), (2, .int v2)]) (fun _ => rfl) (fun x3 => ?_)
        refine go_goto (pc := 30) C 2 dX11_forgetCopy_30 (by decide) ?_
        refine go_sub (ls' := [(0, .ref v0), (1, .int v1), (2, .int v2), (3, .int x3)]) [1, 2, 3, 0] rfl ?_
        exact ih h2 v0 v1 v2 x3
      · refine go_iincL (pc := 27) C 3 dX11_forgetCopy_27 rfl ki_1 (by decide) (fun x4 => [(3, .int x4), (0, .ref v0), (1, .int v1), (2, .int v2)]) (fun _ => rfl) (fun x4 => ?_)
        refine go_goto (pc := 30) C 2 dX11_forgetCopy_30 (by decide) ?_
        refine go_sub (ls' := [(0, .ref v0), (1, .int v1), (2, .int v2), (3, .int x4)]) [1, 2, 3, 0] rfl ?_
        exact ih h v0 v1 v2 x4
set_option maxHeartbeats 4000000 in
theorem mX11_forgetCopy {h : AH} {a0 : Nat} {a1 : Int32} {a2 : Int32} {r : AH} (hr : fX11_forgetCopy h a0 a1 a2 = some r) : MC yX11_forgetCopy cX11_forgetCopy 4 none 1 0 0 [.ref a0, .int a1, .int a2] h none r := by
  unfold fX11_forgetCopy at hr
  refine mc_of (l0 := [(0, .ref a0), (1, .int a1), (2, .int a2)]) rfl pn_X11 (Nat.le_of_ble_eq_true rfl) (fun Y X C E O hnm => go_run hr ?_)
  have C : CT Y X RX11 cX11_forgetCopy 4 := C
  refine go_iconst (pc := 0) C dX11_forgetCopy_0 ki_0 ?_
  refine go_istore_n (ls' := [(3, .int 0), (0, .ref a0), (1, .int a1), (2, .int a2)]) (pc := 1) C dX11_forgetCopy_1 (by decide) rfl ?_
  refine go_sub (ls' := [(0, .ref a0), (1, .int a1), (2, .int a2), (3, .int 0)]) [1, 2, 3, 0] rfl ?_
  refine gX11_forgetCopy_L2 C O E FU h a0 a1 a2 0
theorem dX11_goFree_0 : decode cX11_goFree 0 = .ok (.iconst 0, 1) := by decide +kernel
theorem dX11_goFree_1 : decode cX11_goFree 1 = .ok (.istore_n 1, 1) := by decide +kernel
theorem dX11_goFree_2 : decode cX11_goFree 2 = .ok (.iconst 1, 1) := by decide +kernel
theorem dX11_goFree_3 : decode cX11_goFree 3 = .ok (.istore_n 2, 1) := by decide +kernel
theorem dX11_goFree_4 : decode cX11_goFree 4 = .ok (.iload_n 2, 1) := by decide +kernel
theorem dX11_goFree_5 : decode cX11_goFree 5 = .ok (.ifCond .eq 57, 3) := by decide +kernel
theorem dX11_goFree_8 : decode cX11_goFree 8 = .ok (.iconst 0, 1) := by decide +kernel
theorem dX11_goFree_9 : decode cX11_goFree 9 = .ok (.istore_n 2, 1) := by decide +kernel
theorem dX11_goFree_10 : decode cX11_goFree 10 = .ok (.iconst 0, 1) := by decide +kernel
theorem dX11_goFree_11 : decode cX11_goFree 11 = .ok (.istore_n 3, 1) := by decide +kernel
theorem dX11_goFree_12 : decode cX11_goFree 12 = .ok (.iload_n 3, 1) := by decide +kernel
theorem dX11_goFree_13 : decode cX11_goFree 13 = .ok (.bipush 24, 2) := by decide +kernel
theorem dX11_goFree_15 : decode cX11_goFree 15 = .ok (.if_icmp .ge 44, 3) := by decide +kernel
theorem dX11_goFree_18 : decode cX11_goFree 18 = .ok (.aload_n 0, 1) := by decide +kernel
theorem dX11_goFree_19 : decode cX11_goFree 19 = .ok (.iload_n 3, 1) := by decide +kernel
theorem dX11_goFree_20 : decode cX11_goFree 20 = .ok (.invokestatic 88, 3) := by decide +kernel
theorem dX11_goFree_23 : decode cX11_goFree 23 = .ok (.ifCond .eq 30, 3) := by decide +kernel
theorem dX11_goFree_26 : decode cX11_goFree 26 = .ok (.aload_n 0, 1) := by decide +kernel
theorem dX11_goFree_27 : decode cX11_goFree 27 = .ok (.iload_n 3, 1) := by decide +kernel
theorem dX11_goFree_28 : decode cX11_goFree 28 = .ok (.invokestatic 109, 3) := by decide +kernel
theorem dX11_goFree_31 : decode cX11_goFree 31 = .ok (.ifCond .le 6, 3) := by decide +kernel
theorem dX11_goFree_34 : decode cX11_goFree 34 = .ok (.goto 19, 3) := by decide +kernel
theorem dX11_goFree_37 : decode cX11_goFree 37 = .ok (.aload_n 0, 1) := by decide +kernel
theorem dX11_goFree_38 : decode cX11_goFree 38 = .ok (.iload_n 3, 1) := by decide +kernel
theorem dX11_goFree_39 : decode cX11_goFree 39 = .ok (.iconst (-1), 1) := by decide +kernel
theorem dX11_goFree_40 : decode cX11_goFree 40 = .ok (.invokestatic 112, 3) := by decide +kernel
theorem dX11_goFree_43 : decode cX11_goFree 43 = .ok (.aload_n 0, 1) := by decide +kernel
theorem dX11_goFree_44 : decode cX11_goFree 44 = .ok (.iload_n 3, 1) := by decide +kernel
theorem dX11_goFree_45 : decode cX11_goFree 45 = .ok (.invokestatic 73, 3) := by decide +kernel
theorem dX11_goFree_48 : decode cX11_goFree 48 = .ok (.iinc 1 1, 3) := by decide +kernel
theorem dX11_goFree_51 : decode cX11_goFree 51 = .ok (.iconst 1, 1) := by decide +kernel
theorem dX11_goFree_52 : decode cX11_goFree 52 = .ok (.istore_n 2, 1) := by decide +kernel
theorem dX11_goFree_53 : decode cX11_goFree 53 = .ok (.iinc 3 1, 3) := by decide +kernel
theorem dX11_goFree_56 : decode cX11_goFree 56 = .ok (.goto (-44), 3) := by decide +kernel
theorem dX11_goFree_59 : decode cX11_goFree 59 = .ok (.goto (-55), 3) := by decide +kernel
theorem dX11_goFree_62 : decode cX11_goFree 62 = .ok (.iload_n 1, 1) := by decide +kernel
theorem dX11_goFree_63 : decode cX11_goFree 63 = .ok (.ireturn, 1) := by decide +kernel
def fX11_goFree_L12 (k59 : AH → Nat → Int32 → Int32 → Option (Int32 × AH)) : Nat → AH → Nat → Int32 → Int32 → Int32 → Option (Int32 × AH)
  | 0, _, _, _, _, _ => none
  | n + 1, h, v0, v1, v2, v3 =>
    if 24 ≤ v3 then (
      k59 h v0 v1 v2
    ) else (
      (fX11_isThere h v0 v3).bind fun q1 =>
      if q1 = true then (
        (fX11_holdersOf h v0 v3).bind fun q2 =>
        if q2 ≤ 0 then (
          (fX11_forgetCopy h v0 v3 ((-1))).bind fun q3 =>
          (fX11_clear q3 v0 v3).bind fun q4 =>
          letF (v1 + 1 : Int32) fun x5 =>
          letF (v3 + 1 : Int32) fun x6 =>
          fX11_goFree_L12 k59 n q4 v0 x5 1 x6
        ) else (
          letF (v3 + 1 : Int32) fun x7 =>
          fX11_goFree_L12 k59 n h v0 v1 v2 x7
        )
      ) else (
        letF (v3 + 1 : Int32) fun x8 =>
        fX11_goFree_L12 k59 n h v0 v1 v2 x8
      )
    )
def fX11_goFree_L4 : Nat → AH → Nat → Int32 → Int32 → Option (Int32 × AH)
  | 0, _, _, _, _ => none
  | n + 1, h, v0, v1, v2 =>
    if v2 = 0 then (
      some ((v1, h))
    ) else (
      fX11_goFree_L12
        (fun h12 x9 x10 x11 =>
          fX11_goFree_L4 n h12 x9 x10 x11)
        FU h v0 v1 0 0
    )
def fX11_goFree (h : AH) (a0 : Nat) : Option (Int32 × AH) :=
  fX11_goFree_L4 FU h a0 0 1
set_option maxHeartbeats 4000000 in
theorem gX11_goFree_L12 {Y : YT} {X : XT} (C : CT Y X RX11 cX11_goFree 4) (O : RO X 3 0 0) {r : Int32 × AH} (E : RX Y X (some .int) (some (.int r.1)) r.2 0 0) {k59 : AH → Nat → Int32 → Int32 → Option (Int32 × AH)} (hk59 : ∀ (h : AH) (v0 : Nat) (v1 : Int32) (v2 : Int32), GO Y X 4 r h 0 0 59 [(0, .ref v0), (1, .int v1), (2, .int v2)] [] (k59 h v0 v1 v2)) : ∀ (n : Nat) (h : AH) (v0 : Nat) (v1 : Int32) (v2 : Int32) (v3 : Int32), GO Y X 4 r h 0 0 12 [(0, .ref v0), (1, .int v1), (2, .int v2), (3, .int v3)] [] (fX11_goFree_L12 k59 n h v0 v1 v2 v3) := by
  intro n
  induction n with
  | zero => intros; exact go_none _ _ _
  | succ n ih =>
    intro h v0 v1 v2 v3
    rw [fX11_goFree_L12]
    refine go_iload_n (pc := 12) C 3 dX11_goFree_12 rfl ?_
    refine go_bipush (pc := 13) C dX11_goFree_13 kb_24 ?_
    refine go_icmp_ge (pc := 15) C 59 dX11_goFree_15 (by decide) (fun _ => ?_) (fun _ => ?_)
    · refine go_sub (ls' := [(0, .ref v0), (1, .int v1), (2, .int v2)]) [0, 1, 2] rfl ?_
      exact hk59 h v0 v1 v2
    · refine go_aload_n (pc := 18) C 0 dX11_goFree_18 rfl ?_
      refine go_iload_n (pc := 19) C 3 dX11_goFree_19 rfl ?_
      refine go_bind (fun q1 hq1 => ?_)
      refine go_callS (rest := []) (st' := [.int (b2i q1)]) (c' := 0) (s' := 0) (pc := 20) C O miX11_88 w_1485 [.ref v0, .int v3] rfl (mX11_isThere hq1) dX11_goFree_20 ⟨by decide, by decide, by decide, by decide⟩ rfl (Nat.le_of_ble_eq_true rfl) rfl ⟨rfl, rfl⟩ ?_
      refine go_ifZ_eq (pc := 23) C 53 dX11_goFree_23 (by decide) (fun _ => ?_) (fun _ => ?_)
      · refine go_aload_n (pc := 26) C 0 dX11_goFree_26 rfl ?_
        refine go_iload_n (pc := 27) C 3 dX11_goFree_27 rfl ?_
        refine go_bind (fun q2 hq2 => ?_)
        refine go_callS (rest := []) (st' := [.int q2]) (c' := 0) (s' := 0) (pc := 28) C O miX11_109 w_1578 [.ref v0, .int v3] rfl (mX11_holdersOf hq2) dX11_goFree_28 ⟨by decide, by decide, by decide, by decide⟩ rfl (Nat.le_of_ble_eq_true rfl) rfl ⟨rfl, rfl⟩ ?_
        refine go_if_le (pc := 31) C 37 dX11_goFree_31 (by decide) (fun _ => ?_) (fun _ => ?_)
        · refine go_aload_n (pc := 37) C 0 dX11_goFree_37 rfl ?_
          refine go_iload_n (pc := 38) C 3 dX11_goFree_38 rfl ?_
          refine go_iconst (pc := 39) C dX11_goFree_39 ki_m1 ?_
          refine go_bind (fun q3 hq3 => ?_)
          refine go_callS (rest := []) (st' := []) (c' := 0) (s' := 0) (pc := 40) C O miX11_112 w_1649 [.ref v0, .int v3, .int ((-1))] rfl (mX11_forgetCopy hq3) dX11_goFree_40 ⟨by decide, by decide, by decide, by decide⟩ rfl (Nat.le_of_ble_eq_true rfl) rfl ⟨rfl, rfl⟩ ?_
          refine go_aload_n (pc := 43) C 0 dX11_goFree_43 rfl ?_
          refine go_iload_n (pc := 44) C 3 dX11_goFree_44 rfl ?_
          refine go_bind (fun q4 hq4 => ?_)
          refine go_callS (rest := []) (st' := []) (c' := 0) (s' := 0) (pc := 45) C O miX11_73 w_1313 [.ref v0, .int v3] rfl (mX11_clear hq4) dX11_goFree_45 ⟨by decide, by decide, by decide, by decide⟩ rfl (Nat.le_of_ble_eq_true rfl) rfl ⟨rfl, rfl⟩ ?_
          refine go_iincL (pc := 48) C 1 dX11_goFree_48 rfl ki_1 (by decide) (fun x5 => [(1, .int x5), (0, .ref v0), (2, .int v2), (3, .int v3)]) (fun _ => rfl) (fun x5 => ?_)
          refine go_iconst (pc := 51) C dX11_goFree_51 ki_1 ?_
          refine go_istore_n (ls' := [(2, .int 1), (1, .int x5), (0, .ref v0), (3, .int v3)]) (pc := 52) C dX11_goFree_52 (by decide) rfl ?_
          refine go_iincL (pc := 53) C 3 dX11_goFree_53 rfl ki_1 (by decide) (fun x6 => [(3, .int x6), (2, .int 1), (1, .int x5), (0, .ref v0)]) (fun _ => rfl) (fun x6 => ?_)
          refine go_goto (pc := 56) C 12 dX11_goFree_56 (by decide) ?_
          refine go_sub (ls' := [(0, .ref v0), (1, .int x5), (2, .int 1), (3, .int x6)]) [3, 2, 1, 0] rfl ?_
          exact ih q4 v0 x5 1 x6
        · refine go_goto (pc := 34) C 53 dX11_goFree_34 (by decide) ?_
          refine go_iincL (pc := 53) C 3 dX11_goFree_53 rfl ki_1 (by decide) (fun x7 => [(3, .int x7), (0, .ref v0), (1, .int v1), (2, .int v2)]) (fun _ => rfl) (fun x7 => ?_)
          refine go_goto (pc := 56) C 12 dX11_goFree_56 (by decide) ?_
          refine go_sub (ls' := [(0, .ref v0), (1, .int v1), (2, .int v2), (3, .int x7)]) [1, 2, 3, 0] rfl ?_
          exact ih h v0 v1 v2 x7
      · refine go_iincL (pc := 53) C 3 dX11_goFree_53 rfl ki_1 (by decide) (fun x8 => [(3, .int x8), (0, .ref v0), (1, .int v1), (2, .int v2)]) (fun _ => rfl) (fun x8 => ?_)
        refine go_goto (pc := 56) C 12 dX11_goFree_56 (by decide) ?_
        refine go_sub (ls' := [(0, .ref v0), (1, .int v1), (2, .int v2), (3, .int x8)]) [1, 2, 3, 0] rfl ?_
        exact ih h v0 v1 v2 x8
set_option maxHeartbeats 4000000 in
theorem gX11_goFree_L4 {Y : YT} {X : XT} (C : CT Y X RX11 cX11_goFree 4) (O : RO X 3 0 0) {r : Int32 × AH} (E : RX Y X (some .int) (some (.int r.1)) r.2 0 0) : ∀ (n : Nat) (h : AH) (v0 : Nat) (v1 : Int32) (v2 : Int32), GO Y X 4 r h 0 0 4 [(0, .ref v0), (1, .int v1), (2, .int v2)] [] (fX11_goFree_L4 n h v0 v1 v2) := by
  intro n
  induction n with
  | zero => intros; exact go_none _ _ _
  | succ n ih =>
    intro h v0 v1 v2
    rw [fX11_goFree_L4]
    refine go_iload_n (pc := 4) C 2 dX11_goFree_4 rfl ?_
    refine go_if_eq (pc := 5) C 62 dX11_goFree_5 (by decide) (fun _ => ?_) (fun _ => ?_)
    · refine go_iload_n (pc := 62) C 1 dX11_goFree_62 rfl ?_
      exact go_iret (w := wIh) (pc := 63) C E ((v1, h)) v1 dX11_goFree_63 rfl
    · refine go_iconst (pc := 8) C dX11_goFree_8 ki_0 ?_
      refine go_istore_n (ls' := [(2, .int 0), (0, .ref v0), (1, .int v1)]) (pc := 9) C dX11_goFree_9 (by decide) rfl ?_
      refine go_iconst (pc := 10) C dX11_goFree_10 ki_0 ?_
      refine go_istore_n (ls' := [(3, .int 0), (2, .int 0), (0, .ref v0), (1, .int v1)]) (pc := 11) C dX11_goFree_11 (by decide) rfl ?_
      refine go_sub (ls' := [(0, .ref v0), (1, .int v1), (2, .int 0), (3, .int 0)]) [2, 3, 1, 0] rfl ?_
      refine gX11_goFree_L12 C O E (fun h12 x9 x10 x11 => ?_) FU h v0 v1 0 0
      · refine go_goto (pc := 59) C 4 dX11_goFree_59 (by decide) ?_
        refine go_sub (ls' := [(0, .ref x9), (1, .int x10), (2, .int x11)]) [0, 1, 2] rfl ?_
        exact ih h12 x9 x10 x11
set_option maxHeartbeats 4000000 in
theorem mX11_goFree {h : AH} {a0 : Nat} {r : Int32 × AH} (hr : fX11_goFree h a0 = some r) : MC yX11_goFree cX11_goFree 4 (some .int) 3 0 0 [.ref a0] h (some (.int r.1)) r.2 := by
  unfold fX11_goFree at hr
  refine mc_of (l0 := [(0, .ref a0)]) rfl pn_X11 (Nat.le_of_ble_eq_true rfl) (fun Y X C E O hnm => go_run hr ?_)
  have C : CT Y X RX11 cX11_goFree 4 := C
  refine go_iconst (pc := 0) C dX11_goFree_0 ki_0 ?_
  refine go_istore_n (ls' := [(1, .int 0), (0, .ref a0)]) (pc := 1) C dX11_goFree_1 (by decide) rfl ?_
  refine go_iconst (pc := 2) C dX11_goFree_2 ki_1 ?_
  refine go_istore_n (ls' := [(2, .int 1), (1, .int 0), (0, .ref a0)]) (pc := 3) C dX11_goFree_3 (by decide) rfl ?_
  refine go_sub (ls' := [(0, .ref a0), (1, .int 0), (2, .int 1)]) [2, 1, 0] rfl ?_
  refine gX11_goFree_L4 C O E FU h a0 0 1
theorem dX11_lengthOf_0 : decode cX11_lengthOf 0 = .ok (.iconst 0, 1) := by decide +kernel
theorem dX11_lengthOf_1 : decode cX11_lengthOf 1 = .ok (.istore_n 2, 1) := by decide +kernel
theorem dX11_lengthOf_2 : decode cX11_lengthOf 2 = .ok (.aload_n 0, 1) := by decide +kernel
theorem dX11_lengthOf_3 : decode cX11_lengthOf 3 = .ok (.sipush 312, 3) := by decide +kernel
theorem dX11_lengthOf_6 : decode cX11_lengthOf 6 = .ok (.iload_n 1, 1) := by decide +kernel
theorem dX11_lengthOf_7 : decode cX11_lengthOf 7 = .ok (.iadd, 1) := by decide +kernel
theorem dX11_lengthOf_8 : decode cX11_lengthOf 8 = .ok (.iaload, 1) := by decide +kernel
theorem dX11_lengthOf_9 : decode cX11_lengthOf 9 = .ok (.istore_n 3, 1) := by decide +kernel
theorem dX11_lengthOf_10 : decode cX11_lengthOf 10 = .ok (.iload_n 3, 1) := by decide +kernel
theorem dX11_lengthOf_11 : decode cX11_lengthOf 11 = .ok (.iconst (-1), 1) := by decide +kernel
theorem dX11_lengthOf_12 : decode cX11_lengthOf 12 = .ok (.if_icmp .eq 17, 3) := by decide +kernel
theorem dX11_lengthOf_15 : decode cX11_lengthOf 15 = .ok (.iinc 2 1, 3) := by decide +kernel
theorem dX11_lengthOf_18 : decode cX11_lengthOf 18 = .ok (.aload_n 0, 1) := by decide +kernel
theorem dX11_lengthOf_19 : decode cX11_lengthOf 19 = .ok (.sipush 192, 3) := by decide +kernel
theorem dX11_lengthOf_22 : decode cX11_lengthOf 22 = .ok (.iload_n 3, 1) := by decide +kernel
theorem dX11_lengthOf_23 : decode cX11_lengthOf 23 = .ok (.iadd, 1) := by decide +kernel
theorem dX11_lengthOf_24 : decode cX11_lengthOf 24 = .ok (.iaload, 1) := by decide +kernel
theorem dX11_lengthOf_25 : decode cX11_lengthOf 25 = .ok (.istore_n 3, 1) := by decide +kernel
theorem dX11_lengthOf_26 : decode cX11_lengthOf 26 = .ok (.goto (-16), 3) := by decide +kernel
theorem dX11_lengthOf_29 : decode cX11_lengthOf 29 = .ok (.iload_n 2, 1) := by decide +kernel
theorem dX11_lengthOf_30 : decode cX11_lengthOf 30 = .ok (.ireturn, 1) := by decide +kernel
def fX11_lengthOf_L10 (h : AH) : Nat → Nat → Int32 → Int32 → Option (Int32)
  | 0, _, _, _ => none
  | n + 1, v0, v2, v3 =>
    if v3 = ((-1)) then (
      some v2
    ) else (
      letF (v2 + 1 : Int32) fun x1 =>
      (aI h 0 v0 (192 + v3)).bind fun x2 =>
      fX11_lengthOf_L10 h n v0 x1 x2
    )
def fX11_lengthOf (h : AH) (a0 : Nat) (a1 : Int32) : Option (Int32) :=
  (aI h 0 a0 (312 + a1)).bind fun x3 =>
  fX11_lengthOf_L10 h FU a0 0 x3
set_option maxHeartbeats 4000000 in
theorem gX11_lengthOf_L10 {Y : YT} {X : XT} (C : CT Y X RX11 cX11_lengthOf 4) (O : RO X 1 0 0) {h : AH} {r : Int32} (E : RX Y X (some .int) (some (.int r)) h 0 0) : ∀ (n : Nat) (v0 : Nat) (v2 : Int32) (v3 : Int32), GO Y X 4 r h 0 0 10 [(0, .ref v0), (2, .int v2), (3, .int v3)] [] (fX11_lengthOf_L10 h n v0 v2 v3) := by
  intro n
  induction n with
  | zero => intros; exact go_none _ _ _
  | succ n ih =>
    intro v0 v2 v3
    rw [fX11_lengthOf_L10]
    refine go_iload_n (pc := 10) C 2 dX11_lengthOf_10 rfl ?_
    refine go_iconst (pc := 11) C dX11_lengthOf_11 ki_m1 ?_
    refine go_icmp_eq (pc := 12) C 29 dX11_lengthOf_12 (by decide) (fun _ => ?_) (fun _ => ?_)
    · refine go_iload_n (pc := 29) C 1 dX11_lengthOf_29 rfl ?_
      exact go_iret (w := (wI h)) (pc := 30) C E v2 v2 dX11_lengthOf_30 rfl
    · refine go_iincL (pc := 15) C 1 dX11_lengthOf_15 rfl ki_1 (by decide) (fun x1 => [(2, .int x1), (0, .ref v0), (3, .int v3)]) (fun _ => rfl) (fun x1 => ?_)
      refine go_aload_n (pc := 18) C 1 dX11_lengthOf_18 rfl ?_
      refine go_sipush (pc := 19) C dX11_lengthOf_19 ks_192 ?_
      refine go_iload_n (pc := 22) C 2 dX11_lengthOf_22 rfl ?_
      refine go_iadd (pc := 23) C dX11_lengthOf_23 ?_
      refine go_iald (pc := 24) C dX11_lengthOf_24 (fun x2 => ?_)
      refine go_istore_n (ls' := [(3, .int x2), (2, .int x1), (0, .ref v0)]) (pc := 25) C dX11_lengthOf_25 (by decide) rfl ?_
      refine go_goto (pc := 26) C 10 dX11_lengthOf_26 (by decide) ?_
      refine go_sub (ls' := [(0, .ref v0), (2, .int x1), (3, .int x2)]) [2, 1, 0] rfl ?_
      exact ih v0 x1 x2
set_option maxHeartbeats 4000000 in
theorem mX11_lengthOf {h : AH} {a0 : Nat} {a1 : Int32} {r : Int32} (hr : fX11_lengthOf h a0 a1 = some r) : MC yX11_lengthOf cX11_lengthOf 4 (some .int) 1 0 0 [.ref a0, .int a1] h (some (.int r)) h := by
  unfold fX11_lengthOf at hr
  refine mc_of (l0 := [(0, .ref a0), (1, .int a1)]) rfl pn_X11 (Nat.le_of_ble_eq_true rfl) (fun Y X C E O hnm => go_run hr ?_)
  have C : CT Y X RX11 cX11_lengthOf 4 := C
  refine go_iconst (pc := 0) C dX11_lengthOf_0 ki_0 ?_
  refine go_istore_n (ls' := [(2, .int 0), (0, .ref a0), (1, .int a1)]) (pc := 1) C dX11_lengthOf_1 (by decide) rfl ?_
  refine go_aload_n (pc := 2) C 1 dX11_lengthOf_2 rfl ?_
  refine go_sipush (pc := 3) C dX11_lengthOf_3 ks_312 ?_
  refine go_iload_n (pc := 6) C 2 dX11_lengthOf_6 rfl ?_
  refine go_iadd (pc := 7) C dX11_lengthOf_7 ?_
  refine go_iald (pc := 8) C dX11_lengthOf_8 (fun x3 => ?_)
  refine go_istore_n (ls' := [(3, .int x3), (2, .int 0), (0, .ref a0), (1, .int a1)]) (pc := 9) C dX11_lengthOf_9 (by decide) rfl ?_
  refine go_sub (ls' := [(0, .ref a0), (2, .int 0), (3, .int x3)]) [2, 1, 0] rfl ?_
  refine gX11_lengthOf_L10 C O E FU a0 0 x3
theorem dX11_objectAt_0 : decode cX11_objectAt 0 = .ok (.aload_n 0, 1) := by decide +kernel
theorem dX11_objectAt_1 : decode cX11_objectAt 1 = .ok (.sipush 312, 3) := by decide +kernel
theorem dX11_objectAt_4 : decode cX11_objectAt 4 = .ok (.iload_n 1, 1) := by decide +kernel
theorem dX11_objectAt_5 : decode cX11_objectAt 5 = .ok (.iadd, 1) := by decide +kernel
theorem dX11_objectAt_6 : decode cX11_objectAt 6 = .ok (.iaload, 1) := by decide +kernel
theorem dX11_objectAt_7 : decode cX11_objectAt 7 = .ok (.istore_n 3, 1) := by decide +kernel
theorem dX11_objectAt_8 : decode cX11_objectAt 8 = .ok (.iconst 0, 1) := by decide +kernel
theorem dX11_objectAt_9 : decode cX11_objectAt 9 = .ok (.istore 4, 2) := by decide +kernel
theorem dX11_objectAt_11 : decode cX11_objectAt 11 = .ok (.iload 4, 2) := by decide +kernel
theorem dX11_objectAt_13 : decode cX11_objectAt 13 = .ok (.iload_n 2, 1) := by decide +kernel
theorem dX11_objectAt_14 : decode cX11_objectAt 14 = .ok (.if_icmp .ge 17, 3) := by decide +kernel
theorem dX11_objectAt_17 : decode cX11_objectAt 17 = .ok (.aload_n 0, 1) := by decide +kernel
theorem dX11_objectAt_18 : decode cX11_objectAt 18 = .ok (.sipush 192, 3) := by decide +kernel
theorem dX11_objectAt_21 : decode cX11_objectAt 21 = .ok (.iload_n 3, 1) := by decide +kernel
theorem dX11_objectAt_22 : decode cX11_objectAt 22 = .ok (.iadd, 1) := by decide +kernel
theorem dX11_objectAt_23 : decode cX11_objectAt 23 = .ok (.iaload, 1) := by decide +kernel
theorem dX11_objectAt_24 : decode cX11_objectAt 24 = .ok (.istore_n 3, 1) := by decide +kernel
theorem dX11_objectAt_25 : decode cX11_objectAt 25 = .ok (.iinc 4 1, 3) := by decide +kernel
theorem dX11_objectAt_28 : decode cX11_objectAt 28 = .ok (.goto (-17), 3) := by decide +kernel
theorem dX11_objectAt_31 : decode cX11_objectAt 31 = .ok (.iload_n 3, 1) := by decide +kernel
theorem dX11_objectAt_32 : decode cX11_objectAt 32 = .ok (.ireturn, 1) := by decide +kernel
def fX11_objectAt_L11 (h : AH) : Nat → Nat → Int32 → Int32 → Int32 → Option (Int32)
  | 0, _, _, _, _ => none
  | n + 1, v0, v2, v3, v4 =>
    if v2 ≤ v4 then (
      some v3
    ) else (
      (aI h 0 v0 (192 + v3)).bind fun x1 =>
      letF (v4 + 1 : Int32) fun x2 =>
      fX11_objectAt_L11 h n v0 v2 x1 x2
    )
def fX11_objectAt (h : AH) (a0 : Nat) (a1 : Int32) (a2 : Int32) : Option (Int32) :=
  (aI h 0 a0 (312 + a1)).bind fun x3 =>
  fX11_objectAt_L11 h FU a0 a2 x3 0
set_option maxHeartbeats 4000000 in
theorem gX11_objectAt_L11 {Y : YT} {X : XT} (C : CT Y X RX11 cX11_objectAt 5) (O : RO X 1 0 0) {h : AH} {r : Int32} (E : RX Y X (some .int) (some (.int r)) h 0 0) : ∀ (n : Nat) (v0 : Nat) (v2 : Int32) (v3 : Int32) (v4 : Int32), GO Y X 5 r h 0 0 11 [(0, .ref v0), (2, .int v2), (3, .int v3), (4, .int v4)] [] (fX11_objectAt_L11 h n v0 v2 v3 v4) := by
  intro n
  induction n with
  | zero => intros; exact go_none _ _ _
  | succ n ih =>
    intro v0 v2 v3 v4
    rw [fX11_objectAt_L11]
    refine go_iload (pc := 11) C 3 dX11_objectAt_11 rfl ?_
    refine go_iload_n (pc := 13) C 1 dX11_objectAt_13 rfl ?_
    refine go_icmp_ge (pc := 14) C 31 dX11_objectAt_14 (by decide) (fun _ => ?_) (fun _ => ?_)
    · refine go_iload_n (pc := 31) C 2 dX11_objectAt_31 rfl ?_
      exact go_iret (w := (wI h)) (pc := 32) C E v3 v3 dX11_objectAt_32 rfl
    · refine go_aload_n (pc := 17) C 0 dX11_objectAt_17 rfl ?_
      refine go_sipush (pc := 18) C dX11_objectAt_18 ks_192 ?_
      refine go_iload_n (pc := 21) C 2 dX11_objectAt_21 rfl ?_
      refine go_iadd (pc := 22) C dX11_objectAt_22 ?_
      refine go_iald (pc := 23) C dX11_objectAt_23 (fun x1 => ?_)
      refine go_istore_n (ls' := [(3, .int x1), (0, .ref v0), (2, .int v2), (4, .int v4)]) (pc := 24) C dX11_objectAt_24 (by decide) rfl ?_
      refine go_iincL (pc := 25) C 3 dX11_objectAt_25 rfl ki_1 (by decide) (fun x2 => [(4, .int x2), (3, .int x1), (0, .ref v0), (2, .int v2)]) (fun _ => rfl) (fun x2 => ?_)
      refine go_goto (pc := 28) C 11 dX11_objectAt_28 (by decide) ?_
      refine go_sub (ls' := [(0, .ref v0), (2, .int v2), (3, .int x1), (4, .int x2)]) [2, 3, 1, 0] rfl ?_
      exact ih v0 v2 x1 x2
set_option maxHeartbeats 4000000 in
theorem mX11_objectAt {h : AH} {a0 : Nat} {a1 : Int32} {a2 : Int32} {r : Int32} (hr : fX11_objectAt h a0 a1 a2 = some r) : MC yX11_objectAt cX11_objectAt 5 (some .int) 1 0 0 [.ref a0, .int a1, .int a2] h (some (.int r)) h := by
  unfold fX11_objectAt at hr
  refine mc_of (l0 := [(0, .ref a0), (1, .int a1), (2, .int a2)]) rfl pn_X11 (Nat.le_of_ble_eq_true rfl) (fun Y X C E O hnm => go_run hr ?_)
  have C : CT Y X RX11 cX11_objectAt 5 := C
  refine go_aload_n (pc := 0) C 0 dX11_objectAt_0 rfl ?_
  refine go_sipush (pc := 1) C dX11_objectAt_1 ks_312 ?_
  refine go_iload_n (pc := 4) C 1 dX11_objectAt_4 rfl ?_
  refine go_iadd (pc := 5) C dX11_objectAt_5 ?_
  refine go_iald (pc := 6) C dX11_objectAt_6 (fun x3 => ?_)
  refine go_istore_n (ls' := [(3, .int x3), (0, .ref a0), (1, .int a1), (2, .int a2)]) (pc := 7) C dX11_objectAt_7 (by decide) rfl ?_
  refine go_iconst (pc := 8) C dX11_objectAt_8 ki_0 ?_
  refine go_istore (ls' := [(4, .int 0), (3, .int x3), (0, .ref a0), (1, .int a1), (2, .int a2)]) (pc := 9) C dX11_objectAt_9 (by decide) rfl ?_
  refine go_sub (ls' := [(0, .ref a0), (2, .int a2), (3, .int x3), (4, .int 0)]) [2, 4, 1, 0] rfl ?_
  refine gX11_objectAt_L11 C O E FU a0 a2 x3 0
theorem dX11_placeOf_0 : decode cX11_placeOf 0 = .ok (.iconst 0, 1) := by decide +kernel
theorem dX11_placeOf_1 : decode cX11_placeOf 1 = .ok (.istore_n 3, 1) := by decide +kernel
theorem dX11_placeOf_2 : decode cX11_placeOf 2 = .ok (.aload_n 0, 1) := by decide +kernel
theorem dX11_placeOf_3 : decode cX11_placeOf 3 = .ok (.sipush 312, 3) := by decide +kernel
theorem dX11_placeOf_6 : decode cX11_placeOf 6 = .ok (.iload_n 1, 1) := by decide +kernel
theorem dX11_placeOf_7 : decode cX11_placeOf 7 = .ok (.iadd, 1) := by decide +kernel
theorem dX11_placeOf_8 : decode cX11_placeOf 8 = .ok (.iaload, 1) := by decide +kernel
theorem dX11_placeOf_9 : decode cX11_placeOf 9 = .ok (.istore 4, 2) := by decide +kernel
theorem dX11_placeOf_11 : decode cX11_placeOf 11 = .ok (.iload 4, 2) := by decide +kernel
theorem dX11_placeOf_13 : decode cX11_placeOf 13 = .ok (.iconst (-1), 1) := by decide +kernel
theorem dX11_placeOf_14 : decode cX11_placeOf 14 = .ok (.if_icmp .eq 29, 3) := by decide +kernel
theorem dX11_placeOf_17 : decode cX11_placeOf 17 = .ok (.aload_n 0, 1) := by decide +kernel
theorem dX11_placeOf_18 : decode cX11_placeOf 18 = .ok (.iload 4, 2) := by decide +kernel
theorem dX11_placeOf_20 : decode cX11_placeOf 20 = .ok (.iload_n 2, 1) := by decide +kernel
theorem dX11_placeOf_21 : decode cX11_placeOf 21 = .ok (.invokestatic 92, 3) := by decide +kernel
theorem dX11_placeOf_24 : decode cX11_placeOf 24 = .ok (.ifCond .ne 19, 3) := by decide +kernel
theorem dX11_placeOf_27 : decode cX11_placeOf 27 = .ok (.iinc 3 1, 3) := by decide +kernel
theorem dX11_placeOf_30 : decode cX11_placeOf 30 = .ok (.aload_n 0, 1) := by decide +kernel
theorem dX11_placeOf_31 : decode cX11_placeOf 31 = .ok (.sipush 192, 3) := by decide +kernel
theorem dX11_placeOf_34 : decode cX11_placeOf 34 = .ok (.iload 4, 2) := by decide +kernel
theorem dX11_placeOf_36 : decode cX11_placeOf 36 = .ok (.iadd, 1) := by decide +kernel
theorem dX11_placeOf_37 : decode cX11_placeOf 37 = .ok (.iaload, 1) := by decide +kernel
theorem dX11_placeOf_38 : decode cX11_placeOf 38 = .ok (.istore 4, 2) := by decide +kernel
theorem dX11_placeOf_40 : decode cX11_placeOf 40 = .ok (.goto (-29), 3) := by decide +kernel
theorem dX11_placeOf_43 : decode cX11_placeOf 43 = .ok (.iload_n 3, 1) := by decide +kernel
theorem dX11_placeOf_44 : decode cX11_placeOf 44 = .ok (.ireturn, 1) := by decide +kernel
def fX11_placeOf_L11 (h : AH) : Nat → Nat → Int32 → Int32 → Int32 → Option (Int32)
  | 0, _, _, _, _ => none
  | n + 1, v0, v2, v3, v4 =>
    if v4 = ((-1)) then (
      some v3
    ) else (
      (fX11_holds h v0 v4 v2).bind fun q1 =>
      if q1 = true then (
        some v3
      ) else (
        letF (v3 + 1 : Int32) fun x2 =>
        (aI h 0 v0 (192 + v4)).bind fun x3 =>
        fX11_placeOf_L11 h n v0 v2 x2 x3
      )
    )
def fX11_placeOf (h : AH) (a0 : Nat) (a1 : Int32) (a2 : Int32) : Option (Int32) :=
  (aI h 0 a0 (312 + a1)).bind fun x4 =>
  fX11_placeOf_L11 h FU a0 a2 0 x4
set_option maxHeartbeats 4000000 in
theorem gX11_placeOf_L11 {Y : YT} {X : XT} (C : CT Y X RX11 cX11_placeOf 5) (O : RO X 2 0 0) {h : AH} {r : Int32} (E : RX Y X (some .int) (some (.int r)) h 0 0) : ∀ (n : Nat) (v0 : Nat) (v2 : Int32) (v3 : Int32) (v4 : Int32), GO Y X 5 r h 0 0 11 [(0, .ref v0), (2, .int v2), (3, .int v3), (4, .int v4)] [] (fX11_placeOf_L11 h n v0 v2 v3 v4) := by
  intro n
  induction n with
  | zero => intros; exact go_none _ _ _
  | succ n ih =>
    intro v0 v2 v3 v4
    rw [fX11_placeOf_L11]
    refine go_iload (pc := 11) C 3 dX11_placeOf_11 rfl ?_
    refine go_iconst (pc := 13) C dX11_placeOf_13 ki_m1 ?_
    refine go_icmp_eq (pc := 14) C 43 dX11_placeOf_14 (by decide) (fun _ => ?_) (fun _ => ?_)
    · refine go_iload_n (pc := 43) C 2 dX11_placeOf_43 rfl ?_
      exact go_iret (w := (wI h)) (pc := 44) C E v3 v3 dX11_placeOf_44 rfl
    · refine go_aload_n (pc := 17) C 0 dX11_placeOf_17 rfl ?_
      refine go_iload (pc := 18) C 3 dX11_placeOf_18 rfl ?_
      refine go_iload_n (pc := 20) C 1 dX11_placeOf_20 rfl ?_
      refine go_bind (fun q1 hq1 => ?_)
      refine go_callS (rest := []) (st' := [.int (b2i q1)]) (c' := 0) (s' := 0) (pc := 21) C O miX11_92 w_1494 [.ref v0, .int v4, .int v2] rfl (mX11_holds hq1) dX11_placeOf_21 ⟨by decide, by decide, by decide, by decide⟩ rfl (Nat.le_of_ble_eq_true rfl) rfl ⟨rfl, rfl⟩ ?_
      refine go_ifZ_ne (pc := 24) C 43 dX11_placeOf_24 (by decide) (fun _ => ?_) (fun _ => ?_)
      · refine go_iload_n (pc := 43) C 2 dX11_placeOf_43 rfl ?_
        exact go_iret (w := (wI h)) (pc := 44) C E v3 v3 dX11_placeOf_44 rfl
      · refine go_iincL (pc := 27) C 2 dX11_placeOf_27 rfl ki_1 (by decide) (fun x2 => [(3, .int x2), (0, .ref v0), (2, .int v2), (4, .int v4)]) (fun _ => rfl) (fun x2 => ?_)
        refine go_aload_n (pc := 30) C 1 dX11_placeOf_30 rfl ?_
        refine go_sipush (pc := 31) C dX11_placeOf_31 ks_192 ?_
        refine go_iload (pc := 34) C 3 dX11_placeOf_34 rfl ?_
        refine go_iadd (pc := 36) C dX11_placeOf_36 ?_
        refine go_iald (pc := 37) C dX11_placeOf_37 (fun x3 => ?_)
        refine go_istore (ls' := [(4, .int x3), (3, .int x2), (0, .ref v0), (2, .int v2)]) (pc := 38) C dX11_placeOf_38 (by decide) rfl ?_
        refine go_goto (pc := 40) C 11 dX11_placeOf_40 (by decide) ?_
        refine go_sub (ls' := [(0, .ref v0), (2, .int v2), (3, .int x2), (4, .int x3)]) [2, 3, 1, 0] rfl ?_
        exact ih v0 v2 x2 x3
set_option maxHeartbeats 4000000 in
theorem mX11_placeOf {h : AH} {a0 : Nat} {a1 : Int32} {a2 : Int32} {r : Int32} (hr : fX11_placeOf h a0 a1 a2 = some r) : MC yX11_placeOf cX11_placeOf 5 (some .int) 2 0 0 [.ref a0, .int a1, .int a2] h (some (.int r)) h := by
  unfold fX11_placeOf at hr
  refine mc_of (l0 := [(0, .ref a0), (1, .int a1), (2, .int a2)]) rfl pn_X11 (Nat.le_of_ble_eq_true rfl) (fun Y X C E O hnm => go_run hr ?_)
  have C : CT Y X RX11 cX11_placeOf 5 := C
  refine go_iconst (pc := 0) C dX11_placeOf_0 ki_0 ?_
  refine go_istore_n (ls' := [(3, .int 0), (0, .ref a0), (1, .int a1), (2, .int a2)]) (pc := 1) C dX11_placeOf_1 (by decide) rfl ?_
  refine go_aload_n (pc := 2) C 1 dX11_placeOf_2 rfl ?_
  refine go_sipush (pc := 3) C dX11_placeOf_3 ks_312 ?_
  refine go_iload_n (pc := 6) C 2 dX11_placeOf_6 rfl ?_
  refine go_iadd (pc := 7) C dX11_placeOf_7 ?_
  refine go_iald (pc := 8) C dX11_placeOf_8 (fun x4 => ?_)
  refine go_istore (ls' := [(4, .int x4), (3, .int 0), (0, .ref a0), (1, .int a1), (2, .int a2)]) (pc := 9) C dX11_placeOf_9 (by decide) rfl ?_
  refine go_sub (ls' := [(0, .ref a0), (2, .int a2), (3, .int 0), (4, .int x4)]) [2, 4, 1, 0] rfl ?_
  refine gX11_placeOf_L11 C O E FU a0 a2 0 x4
theorem dX11_lastOf_0 : decode cX11_lastOf 0 = .ok (.aload_n 0, 1) := by decide +kernel
theorem dX11_lastOf_1 : decode cX11_lastOf 1 = .ok (.iload_n 1, 1) := by decide +kernel
theorem dX11_lastOf_2 : decode cX11_lastOf 2 = .ok (.aload_n 0, 1) := by decide +kernel
theorem dX11_lastOf_3 : decode cX11_lastOf 3 = .ok (.iload_n 1, 1) := by decide +kernel
theorem dX11_lastOf_4 : decode cX11_lastOf 4 = .ok (.invokestatic 116, 3) := by decide +kernel
theorem dX11_lastOf_7 : decode cX11_lastOf 7 = .ok (.iconst 1, 1) := by decide +kernel
theorem dX11_lastOf_8 : decode cX11_lastOf 8 = .ok (.isub, 1) := by decide +kernel
theorem dX11_lastOf_9 : decode cX11_lastOf 9 = .ok (.invokestatic 119, 3) := by decide +kernel
theorem dX11_lastOf_12 : decode cX11_lastOf 12 = .ok (.ireturn, 1) := by decide +kernel
def fX11_lastOf (h : AH) (a0 : Nat) (a1 : Int32) : Option (Int32) :=
  (fX11_lengthOf h a0 a1).bind fun q1 =>
  (fX11_objectAt h a0 a1 (q1 - 1)).bind fun q2 =>
  some q2
set_option maxHeartbeats 4000000 in
theorem mX11_lastOf {h : AH} {a0 : Nat} {a1 : Int32} {r : Int32} (hr : fX11_lastOf h a0 a1 = some r) : MC yX11_lastOf cX11_lastOf 2 (some .int) 2 0 0 [.ref a0, .int a1] h (some (.int r)) h := by
  unfold fX11_lastOf at hr
  refine mc_of (l0 := [(0, .ref a0), (1, .int a1)]) rfl pn_X11 (Nat.le_of_ble_eq_true rfl) (fun Y X C E O hnm => go_run hr ?_)
  have C : CT Y X RX11 cX11_lastOf 2 := C
  refine go_aload_n (pc := 0) C 0 dX11_lastOf_0 rfl ?_
  refine go_iload_n (pc := 1) C 1 dX11_lastOf_1 rfl ?_
  refine go_aload_n (pc := 2) C 0 dX11_lastOf_2 rfl ?_
  refine go_iload_n (pc := 3) C 1 dX11_lastOf_3 rfl ?_
  refine go_bind (fun q1 hq1 => ?_)
  refine go_callS (rest := [.int a1, .ref a0]) (st' := [.int q1, .int a1, .ref a0]) (c' := 0) (s' := 0) (pc := 4) C O miX11_116 w_1555 [.ref a0, .int a1] rfl (mX11_lengthOf hq1) dX11_lastOf_4 ⟨by decide, by decide, by decide, by decide⟩ rfl (Nat.le_of_ble_eq_true rfl) rfl ⟨rfl, rfl⟩ ?_
  refine go_iconst (pc := 7) C dX11_lastOf_7 ki_1 ?_
  refine go_isub (pc := 8) C dX11_lastOf_8 ?_
  refine go_bind (fun q2 hq2 => ?_)
  refine go_callS (rest := []) (st' := [.int q2]) (c' := 0) (s' := 0) (pc := 9) C O miX11_119 w_1608 [.ref a0, .int a1, .int (q1 - 1)] rfl (mX11_objectAt hq2) dX11_lastOf_9 ⟨by decide, by decide, by decide, by decide⟩ rfl (Nat.le_of_ble_eq_true rfl) rfl ⟨rfl, rfl⟩ ?_
  exact go_iret (w := (wI h)) (pc := 12) C E q2 q2 dX11_lastOf_12 rfl
theorem dX11_sign_0 : decode cX11_sign 0 = .ok (.aload_n 0, 1) := by decide +kernel
theorem dX11_sign_1 : decode cX11_sign 1 = .ok (.iconst 0, 1) := by decide +kernel
theorem dX11_sign_2 : decode cX11_sign 2 = .ok (.putfield 77, 3) := by decide +kernel
theorem dX11_sign_5 : decode cX11_sign 5 = .ok (.aload_n 0, 1) := by decide +kernel
theorem dX11_sign_6 : decode cX11_sign 6 = .ok (.getfield 123, 3) := by decide +kernel
theorem dX11_sign_9 : decode cX11_sign 9 = .ok (.iconst 4, 1) := by decide +kernel
theorem dX11_sign_10 : decode cX11_sign 10 = .ok (.iadd, 1) := by decide +kernel
theorem dX11_sign_11 : decode cX11_sign 11 = .ok (.bipush 80, 2) := by decide +kernel
theorem dX11_sign_13 : decode cX11_sign 13 = .ok (.if_icmp .le 5, 3) := by decide +kernel
theorem dX11_sign_16 : decode cX11_sign 16 = .ok (.iconst (-1), 1) := by decide +kernel
theorem dX11_sign_17 : decode cX11_sign 17 = .ok (.ireturn, 1) := by decide +kernel
theorem dX11_sign_18 : decode cX11_sign 18 = .ok (.iconst 3, 1) := by decide +kernel
theorem dX11_sign_19 : decode cX11_sign 19 = .ok (.istore_n 2, 1) := by decide +kernel
theorem dX11_sign_20 : decode cX11_sign 20 = .ok (.iload_n 2, 1) := by decide +kernel
theorem dX11_sign_21 : decode cX11_sign 21 = .ok (.ifCond .lt 32, 3) := by decide +kernel
theorem dX11_sign_24 : decode cX11_sign 24 = .ok (.aload_n 0, 1) := by decide +kernel
theorem dX11_sign_25 : decode cX11_sign 25 = .ok (.getfield 13, 3) := by decide +kernel
theorem dX11_sign_28 : decode cX11_sign 28 = .ok (.aload_n 0, 1) := by decide +kernel
theorem dX11_sign_29 : decode cX11_sign 29 = .ok (.dup, 1) := by decide +kernel
theorem dX11_sign_30 : decode cX11_sign 30 = .ok (.getfield 123, 3) := by decide +kernel
theorem dX11_sign_33 : decode cX11_sign 33 = .ok (.dup_x1, 1) := by decide +kernel
theorem dX11_sign_34 : decode cX11_sign 34 = .ok (.iconst 1, 1) := by decide +kernel
theorem dX11_sign_35 : decode cX11_sign 35 = .ok (.iadd, 1) := by decide +kernel
theorem dX11_sign_36 : decode cX11_sign 36 = .ok (.putfield 123, 3) := by decide +kernel
theorem dX11_sign_39 : decode cX11_sign 39 = .ok (.iload_n 1, 1) := by decide +kernel
theorem dX11_sign_40 : decode cX11_sign 40 = .ok (.bipush 8, 2) := by decide +kernel
theorem dX11_sign_42 : decode cX11_sign 42 = .ok (.iload_n 2, 1) := by decide +kernel
theorem dX11_sign_43 : decode cX11_sign 43 = .ok (.imul, 1) := by decide +kernel
theorem dX11_sign_44 : decode cX11_sign 44 = .ok (.ishr, 1) := by decide +kernel
theorem dX11_sign_45 : decode cX11_sign 45 = .ok (.i2b, 1) := by decide +kernel
theorem dX11_sign_46 : decode cX11_sign 46 = .ok (.bastore, 1) := by decide +kernel
theorem dX11_sign_47 : decode cX11_sign 47 = .ok (.iinc 2 (-1), 3) := by decide +kernel
theorem dX11_sign_50 : decode cX11_sign 50 = .ok (.goto (-30), 3) := by decide +kernel
theorem dX11_sign_53 : decode cX11_sign 53 = .ok (.aload_n 0, 1) := by decide +kernel
theorem dX11_sign_54 : decode cX11_sign 54 = .ok (.getfield 123, 3) := by decide +kernel
theorem dX11_sign_57 : decode cX11_sign 57 = .ok (.ireturn, 1) := by decide +kernel
def fX11_sign_L20 : Nat → AH → Nat → Int32 → Int32 → Option (Int32 × AH)
  | 0, _, _, _, _ => none
  | n + 1, h, v0, v1, v2 =>
    if v2 < 0 then (
      (gI h 11 v0 2).bind fun x1 =>
      some ((x1, h))
    ) else (
      (gR h 11 v0 1).bind fun x2 =>
      (gI h 11 v0 2).bind fun x3 =>
      (pF h 11 v0 2 (.int (x3 + 1))).bind fun h4 =>
      (sI h4 3 x2 x3 (Int8.toInt32 (Int32.toInt8 (v1 >>> ((8 * v2) &&& 31))))).bind fun h5 =>
      letF (v2 + (-1) : Int32) fun x6 =>
      fX11_sign_L20 n h5 v0 v1 x6
    )
def fX11_sign (h : AH) (a0 : Nat) (a1 : Int32) : Option (Int32 × AH) :=
  if hasC h 11 a0 = true then (
    (pF h 11 a0 5 (.int 0)).bind fun h7 =>
    (gI h7 11 a0 2).bind fun x8 =>
    if (x8 + 4) ≤ 80 then (
      fX11_sign_L20 FU h7 a0 a1 3
    ) else (
      some (((-1), h7))
    )
  ) else none
set_option maxHeartbeats 4000000 in
theorem gX11_sign_L20 {Y : YT} {X : XT} (C : CT Y X RX11 cX11_sign 3) (O : RO X 1 0 0) {r : Int32 × AH} (E : RX Y X (some .int) (some (.int r.1)) r.2 0 0) : ∀ (n : Nat) (h : AH) (v0 : Nat) (v1 : Int32) (v2 : Int32), GO Y X 3 r h 0 0 20 [(0, .ref v0), (1, .int v1), (2, .int v2)] [] (fX11_sign_L20 n h v0 v1 v2) := by
  intro n
  induction n with
  | zero => intros; exact go_none _ _ _
  | succ n ih =>
    intro h v0 v1 v2
    rw [fX11_sign_L20]
    refine go_iload_n (pc := 20) C 2 dX11_sign_20 rfl ?_
    refine go_if_lt (pc := 21) C 53 dX11_sign_21 (by decide) (fun _ => ?_) (fun _ => ?_)
    · refine go_aload_n (pc := 53) C 0 dX11_sign_53 rfl ?_
      refine go_gI (pc := 54) C fdX11_123 dX11_sign_54 (fun x1 => ?_)
      exact go_iret (w := wIh) (pc := 57) C E ((x1, h)) x1 dX11_sign_57 rfl
    · refine go_aload_n (pc := 24) C 0 dX11_sign_24 rfl ?_
      refine go_gR (pc := 25) C fdX11_13 dX11_sign_25 (fun x2 => ?_)
      refine go_aload_n (pc := 28) C 0 dX11_sign_28 rfl ?_
      refine go_dup (pc := 29) C dX11_sign_29 rfl ?_
      refine go_gI (pc := 30) C fdX11_123 dX11_sign_30 (fun x3 => ?_)
      refine go_dup_x1 (pc := 33) C dX11_sign_33 rfl rfl ?_
      refine go_iconst (pc := 34) C dX11_sign_34 ki_1 ?_
      refine go_iadd (pc := 35) C dX11_sign_35 ?_
      refine go_pI (pc := 36) C fpX11_123 dX11_sign_36 (fun h4 => ?_)
      refine go_iload_n (pc := 39) C 1 dX11_sign_39 rfl ?_
      refine go_bipush (pc := 40) C dX11_sign_40 kb_8 ?_
      refine go_iload_n (pc := 42) C 2 dX11_sign_42 rfl ?_
      refine go_imul (pc := 43) C dX11_sign_43 ?_
      refine go_ishr (pc := 44) C dX11_sign_44 ?_
      refine go_i2b (pc := 45) C dX11_sign_45 ?_
      refine go_bast (pc := 46) C dX11_sign_46 (fun h5 => ?_)
      refine go_iincL (pc := 47) C 2 dX11_sign_47 rfl ki_m1 (by decide) (fun x6 => [(2, .int x6), (0, .ref v0), (1, .int v1)]) (fun _ => rfl) (fun x6 => ?_)
      refine go_goto (pc := 50) C 20 dX11_sign_50 (by decide) ?_
      refine go_sub (ls' := [(0, .ref v0), (1, .int v1), (2, .int x6)]) [1, 2, 0] rfl ?_
      exact ih h5 v0 v1 x6
set_option maxHeartbeats 4000000 in
theorem mX11_sign {h : AH} {a0 : Nat} {a1 : Int32} {r : Int32 × AH} (hr : fX11_sign h a0 a1 = some r) : hasC h 11 a0 = true ∧ MC yX11_sign cX11_sign 3 (some .int) 1 0 0 [.ref a0, .int a1] h (some (.int r.1)) r.2 := by
  unfold fX11_sign at hr
  obtain ⟨hc, hr⟩ := if_some hr
  refine ⟨hc, mc_of (l0 := [(0, .ref a0), (1, .int a1)]) rfl pn_X11 (Nat.le_of_ble_eq_true rfl) (fun Y X C E O hnm => go_run hr ?_)⟩
  have C : CT Y X RX11 cX11_sign 3 := C
  refine go_aload_n (pc := 0) C 0 dX11_sign_0 rfl ?_
  refine go_iconst (pc := 1) C dX11_sign_1 ki_0 ?_
  refine go_pI (pc := 2) C fpX11_77 dX11_sign_2 (fun h7 => ?_)
  refine go_aload_n (pc := 5) C 0 dX11_sign_5 rfl ?_
  refine go_gI (pc := 6) C fdX11_123 dX11_sign_6 (fun x8 => ?_)
  refine go_iconst (pc := 9) C dX11_sign_9 ki_4 ?_
  refine go_iadd (pc := 10) C dX11_sign_10 ?_
  refine go_bipush (pc := 11) C dX11_sign_11 kb_80 ?_
  refine go_icmp_le (pc := 13) C 18 dX11_sign_13 (by decide) (fun _ => ?_) (fun _ => ?_)
  · refine go_iconst (pc := 18) C dX11_sign_18 ki_3 ?_
    refine go_istore_n (ls' := [(2, .int 3), (0, .ref a0), (1, .int a1)]) (pc := 19) C dX11_sign_19 (by decide) rfl ?_
    refine go_sub (ls' := [(0, .ref a0), (1, .int a1), (2, .int 3)]) [1, 2, 0] rfl ?_
    refine gX11_sign_L20 C O E FU h7 a0 a1 3
  · refine go_iconst (pc := 16) C dX11_sign_16 ki_m1 ?_
    exact go_iret (w := wIh) (pc := 17) C E (((-1), h7)) ((-1)) dX11_sign_17 rfl
theorem dX11_end_0 : decode cX11_end 0 = .ok (.aload_n 0, 1) := by decide +kernel
theorem dX11_end_1 : decode cX11_end 1 = .ok (.iconst 0, 1) := by decide +kernel
theorem dX11_end_2 : decode cX11_end 2 = .ok (.putfield 77, 3) := by decide +kernel
theorem dX11_end_5 : decode cX11_end 5 = .ok (.iload_n 1, 1) := by decide +kernel
theorem dX11_end_6 : decode cX11_end 6 = .ok (.iconst 0, 1) := by decide +kernel
theorem dX11_end_7 : decode cX11_end 7 = .ok (.aload_n 0, 1) := by decide +kernel
theorem dX11_end_8 : decode cX11_end 8 = .ok (.getfield 123, 3) := by decide +kernel
theorem dX11_end_11 : decode cX11_end 11 = .ok (.invokestatic 84, 3) := by decide +kernel
theorem dX11_end_14 : decode cX11_end 14 = .ok (.ifCond .ne 5, 3) := by decide +kernel
theorem dX11_end_17 : decode cX11_end 17 = .ok (.iconst 0, 1) := by decide +kernel
theorem dX11_end_18 : decode cX11_end 18 = .ok (.ireturn, 1) := by decide +kernel
theorem dX11_end_19 : decode cX11_end 19 = .ok (.aload_n 0, 1) := by decide +kernel
theorem dX11_end_20 : decode cX11_end 20 = .ok (.iload_n 1, 1) := by decide +kernel
theorem dX11_end_21 : decode cX11_end 21 = .ok (.putfield 123, 3) := by decide +kernel
theorem dX11_end_24 : decode cX11_end 24 = .ok (.iconst 1, 1) := by decide +kernel
theorem dX11_end_25 : decode cX11_end 25 = .ok (.ireturn, 1) := by decide +kernel
def fX11_end (h : AH) (a0 : Nat) (a1 : Int32) : Option (Bool × AH) :=
  if hasC h 11 a0 = true then (
    (pF h 11 a0 5 (.int 0)).bind fun h1 =>
    (gI h1 11 a0 2).bind fun x2 =>
    (fX11_in h1 a1 0 x2).bind fun q3 =>
    if q3 = true then (
      (pF h1 11 a0 2 (.int a1)).bind fun h4 =>
      some ((true, h4))
    ) else (
      some ((false, h1))
    )
  ) else none
set_option maxHeartbeats 4000000 in
theorem mX11_end {h : AH} {a0 : Nat} {a1 : Int32} {r : Bool × AH} (hr : fX11_end h a0 a1 = some r) : hasC h 11 a0 = true ∧ MC yX11_end cX11_end 2 (some .boolean) 2 0 0 [.ref a0, .int a1] h (some (.int (b2i r.1))) r.2 := by
  unfold fX11_end at hr
  obtain ⟨hc, hr⟩ := if_some hr
  refine ⟨hc, mc_of (l0 := [(0, .ref a0), (1, .int a1)]) rfl pn_X11 (Nat.le_of_ble_eq_true rfl) (fun Y X C E O hnm => go_run hr ?_)⟩
  have C : CT Y X RX11 cX11_end 2 := C
  refine go_aload_n (pc := 0) C 0 dX11_end_0 rfl ?_
  refine go_iconst (pc := 1) C dX11_end_1 ki_0 ?_
  refine go_pI (pc := 2) C fpX11_77 dX11_end_2 (fun h1 => ?_)
  refine go_iload_n (pc := 5) C 1 dX11_end_5 rfl ?_
  refine go_iconst (pc := 6) C dX11_end_6 ki_0 ?_
  refine go_aload_n (pc := 7) C 0 dX11_end_7 rfl ?_
  refine go_gI (pc := 8) C fdX11_123 dX11_end_8 (fun x2 => ?_)
  refine go_bind (fun q3 hq3 => ?_)
  refine go_callS (rest := []) (st' := [.int (b2i q3)]) (c' := 0) (s' := 0) (pc := 11) C O miX11_84 w_1437 [.int a1, .int 0, .int x2] rfl (mX11_in hq3) dX11_end_11 ⟨by decide, by decide, by decide, by decide⟩ rfl (Nat.le_of_ble_eq_true rfl) rfl ⟨rfl, rfl⟩ ?_
  refine go_ifZ_ne (pc := 14) C 19 dX11_end_14 (by decide) (fun _ => ?_) (fun _ => ?_)
  · refine go_aload_n (pc := 19) C 0 dX11_end_19 rfl ?_
    refine go_iload_n (pc := 20) C 1 dX11_end_20 rfl ?_
    refine go_pI (pc := 21) C fpX11_123 dX11_end_21 (fun h4 => ?_)
    refine go_iconst (pc := 24) C dX11_end_24 ki_1 ?_
    exact go_bret (w := wZh) (pc := 25) C E ((true, h4)) 1 true rfl dX11_end_25 rfl
  · refine go_iconst (pc := 17) C dX11_end_17 ki_0 ?_
    exact go_bret (w := wZh) (pc := 18) C E ((false, h1)) 0 false rfl dX11_end_18 rfl
theorem dX11_begin_0 : decode cX11_begin 0 = .ok (.aload_n 0, 1) := by decide +kernel
theorem dX11_begin_1 : decode cX11_begin 1 = .ok (.aload_n 1, 1) := by decide +kernel
theorem dX11_begin_2 : decode cX11_begin 2 = .ok (.putfield 126, 3) := by decide +kernel
theorem dX11_begin_5 : decode cX11_begin 5 = .ok (.aload_n 0, 1) := by decide +kernel
theorem dX11_begin_6 : decode cX11_begin 6 = .ok (.iload_n 2, 1) := by decide +kernel
theorem dX11_begin_7 : decode cX11_begin 7 = .ok (.putfield 129, 3) := by decide +kernel
theorem dX11_begin_10 : decode cX11_begin 10 = .ok (.aload_n 0, 1) := by decide +kernel
theorem dX11_begin_11 : decode cX11_begin 11 = .ok (.iload_n 3, 1) := by decide +kernel
theorem dX11_begin_12 : decode cX11_begin 12 = .ok (.putfield 132, 3) := by decide +kernel
theorem dX11_begin_15 : decode cX11_begin 15 = .ok (.aload_n 0, 1) := by decide +kernel
theorem dX11_begin_16 : decode cX11_begin 16 = .ok (.iconst 0, 1) := by decide +kernel
theorem dX11_begin_17 : decode cX11_begin 17 = .ok (.putfield 135, 3) := by decide +kernel
theorem dX11_begin_20 : decode cX11_begin 20 = .ok (.aload_n 0, 1) := by decide +kernel
theorem dX11_begin_21 : decode cX11_begin 21 = .ok (.iconst (-1), 1) := by decide +kernel
theorem dX11_begin_22 : decode cX11_begin 22 = .ok (.putfield 138, 3) := by decide +kernel
theorem dX11_begin_25 : decode cX11_begin 25 = .ok (.return_, 1) := by decide +kernel
def fX11_begin (h : AH) (a0 : Nat) (a1 : Nat) (a2 : Int32) (a3 : Int32) : Option (AH) :=
  if hasC h 11 a0 = true then (
    (pF h 11 a0 6 (.ref a1)).bind fun h1 =>
    (pF h1 11 a0 7 (.int a2)).bind fun h2 =>
    (pF h2 11 a0 8 (.int a3)).bind fun h3 =>
    (pF h3 11 a0 9 (.int 0)).bind fun h4 =>
    (pF h4 11 a0 10 (.int ((-1)))).bind fun h5 =>
    some h5
  ) else none
set_option maxHeartbeats 4000000 in
theorem mX11_begin {h : AH} {a0 : Nat} {a1 : Nat} {a2 : Int32} {a3 : Int32} {r : AH} (hr : fX11_begin h a0 a1 a2 a3 = some r) : hasC h 11 a0 = true ∧ MC yX11_begin cX11_begin 4 none 1 0 0 [.ref a0, .ref a1, .int a2, .int a3] h none r := by
  unfold fX11_begin at hr
  obtain ⟨hc, hr⟩ := if_some hr
  refine ⟨hc, mc_of (l0 := [(0, .ref a0), (1, .ref a1), (2, .int a2), (3, .int a3)]) rfl pn_X11 (Nat.le_of_ble_eq_true rfl) (fun Y X C E O hnm => go_run hr ?_)⟩
  have C : CT Y X RX11 cX11_begin 4 := C
  refine go_aload_n (pc := 0) C 0 dX11_begin_0 rfl ?_
  refine go_aload_n (pc := 1) C 1 dX11_begin_1 rfl ?_
  refine go_pR (pc := 2) C fpX11_126 dX11_begin_2 (fun _ => rfl) (fun _ => rfl) (fun h1 => ?_)
  refine go_aload_n (pc := 5) C 0 dX11_begin_5 rfl ?_
  refine go_iload_n (pc := 6) C 2 dX11_begin_6 rfl ?_
  refine go_pI (pc := 7) C fpX11_129 dX11_begin_7 (fun h2 => ?_)
  refine go_aload_n (pc := 10) C 0 dX11_begin_10 rfl ?_
  refine go_iload_n (pc := 11) C 3 dX11_begin_11 rfl ?_
  refine go_pI (pc := 12) C fpX11_132 dX11_begin_12 (fun h3 => ?_)
  refine go_aload_n (pc := 15) C 0 dX11_begin_15 rfl ?_
  refine go_iconst (pc := 16) C dX11_begin_16 ki_0 ?_
  refine go_pI (pc := 17) C fpX11_135 dX11_begin_17 (fun h4 => ?_)
  refine go_aload_n (pc := 20) C 0 dX11_begin_20 rfl ?_
  refine go_iconst (pc := 21) C dX11_begin_21 ki_m1 ?_
  refine go_pI (pc := 22) C fpX11_138 dX11_begin_22 (fun h5 => ?_)
  exact go_vret (w := wV) (pc := 25) C E h5 dX11_begin_25 rfl
theorem dX11_beginText_0 : decode cX11_beginText 0 = .ok (.aload_n 0, 1) := by decide +kernel
theorem dX11_beginText_1 : decode cX11_beginText 1 = .ok (.aload_n 0, 1) := by decide +kernel
theorem dX11_beginText_2 : decode cX11_beginText 2 = .ok (.getfield 13, 3) := by decide +kernel
theorem dX11_beginText_5 : decode cX11_beginText 5 = .ok (.aload_n 0, 1) := by decide +kernel
theorem dX11_beginText_6 : decode cX11_beginText 6 = .ok (.getfield 123, 3) := by decide +kernel
theorem dX11_beginText_9 : decode cX11_beginText 9 = .ok (.iload_n 1, 1) := by decide +kernel
theorem dX11_beginText_10 : decode cX11_beginText 10 = .ok (.invokevirtual 141, 3) := by decide +kernel
theorem dX11_beginText_13 : decode cX11_beginText 13 = .ok (.aload_n 0, 1) := by decide +kernel
theorem dX11_beginText_14 : decode cX11_beginText 14 = .ok (.iconst 0, 1) := by decide +kernel
theorem dX11_beginText_15 : decode cX11_beginText 15 = .ok (.putfield 123, 3) := by decide +kernel
theorem dX11_beginText_18 : decode cX11_beginText 18 = .ok (.return_, 1) := by decide +kernel
def fX11_beginText (h : AH) (a0 : Nat) (a1 : Int32) : Option (AH) :=
  if hasC h 11 a0 = true then (
    (gR h 11 a0 1).bind fun x1 =>
    (gI h 11 a0 2).bind fun x2 =>
    (fX11_begin h a0 x1 x2 a1).bind fun q3 =>
    (pF q3 11 a0 2 (.int 0)).bind fun h4 =>
    some h4
  ) else none
set_option maxHeartbeats 4000000 in
theorem mX11_beginText {h : AH} {a0 : Nat} {a1 : Int32} {r : AH} (hr : fX11_beginText h a0 a1 = some r) : hasC h 11 a0 = true ∧ MC yX11_beginText cX11_beginText 2 none 2 0 0 [.ref a0, .int a1] h none r := by
  unfold fX11_beginText at hr
  obtain ⟨hc, hr⟩ := if_some hr
  refine ⟨hc, mc_of (l0 := [(0, .ref a0), (1, .int a1)]) rfl pn_X11 (Nat.le_of_ble_eq_true rfl) (fun Y X C E O hnm => go_run hr ?_)⟩
  have C : CT Y X RX11 cX11_beginText 2 := C
  refine go_aload_n (pc := 0) C 0 dX11_beginText_0 rfl ?_
  refine go_aload_n (pc := 1) C 0 dX11_beginText_1 rfl ?_
  refine go_gR (pc := 2) C fdX11_13 dX11_beginText_2 (fun x1 => ?_)
  refine go_aload_n (pc := 5) C 0 dX11_beginText_5 rfl ?_
  refine go_gI (pc := 6) C fdX11_123 dX11_beginText_6 (fun x2 => ?_)
  refine go_iload_n (pc := 9) C 1 dX11_beginText_9 rfl ?_
  refine go_bind (fun q3 hq3 => ?_)
  refine go_callV (rest := []) (st' := []) (c' := 0) (s' := 0) (pc := 10) C O miX11_141 mvX11_begin [.ref x1, .int x2, .int a1] rfl (mX11_begin hq3).1 (mX11_begin hq3).2 dX11_beginText_10 ⟨by decide, by decide, by decide, by decide⟩ rfl (Nat.le_of_ble_eq_true rfl) rfl ⟨rfl, rfl⟩ ?_
  refine go_aload_n (pc := 13) C 0 dX11_beginText_13 rfl ?_
  refine go_iconst (pc := 14) C dX11_beginText_14 ki_0 ?_
  refine go_pI (pc := 15) C fpX11_123 dX11_beginText_15 (fun h4 => ?_)
  exact go_vret (w := wV) (pc := 18) C E h4 dX11_beginText_18 rfl
