/-! walks, by program: X11_object X11_page X11_sheet X11_refusesFetch X11_isFetched X11_fetchOf X11_goFetch X11_goAwait X11_refusesRead X11_reads X11_isShared X11_refusesWrite X11_goBypass X11_goCollapse X11_isCopy X11_goTidy X11_goWrite X11_writes X11_refusesFork -/
theorem dX11_object_0 : decode cX11_object 0 = .ok (.aload_n 0, 1) := by decide +kernel
theorem dX11_object_1 : decode cX11_object 1 = .ok (.iconst 0, 1) := by decide +kernel
theorem dX11_object_2 : decode cX11_object 2 = .ok (.putfield 77, 3) := by decide +kernel
theorem dX11_object_5 : decode cX11_object 5 = .ok (.aload_n 0, 1) := by decide +kernel
theorem dX11_object_6 : decode cX11_object 6 = .ok (.iload_n 1, 1) := by decide +kernel
theorem dX11_object_7 : decode cX11_object 7 = .ok (.invokevirtual 242, 3) := by decide +kernel
theorem dX11_object_10 : decode cX11_object 10 = .ok (.ifCond .eq 13, 3) := by decide +kernel
theorem dX11_object_13 : decode cX11_object 13 = .ok (.iload_n 2, 1) := by decide +kernel
theorem dX11_object_14 : decode cX11_object 14 = .ok (.iconst 0, 1) := by decide +kernel
theorem dX11_object_15 : decode cX11_object 15 = .ok (.bipush 6, 2) := by decide +kernel
theorem dX11_object_17 : decode cX11_object 17 = .ok (.invokestatic 84, 3) := by decide +kernel
theorem dX11_object_20 : decode cX11_object 20 = .ok (.ifCond .ne 8, 3) := by decide +kernel
theorem dX11_object_23 : decode cX11_object 23 = .ok (.aload_n 0, 1) := by decide +kernel
theorem dX11_object_24 : decode cX11_object 24 = .ok (.invokevirtual 227, 3) := by decide +kernel
theorem dX11_object_27 : decode cX11_object 27 = .ok (.ireturn, 1) := by decide +kernel
theorem dX11_object_28 : decode cX11_object 28 = .ok (.iload_n 2, 1) := by decide +kernel
theorem dX11_object_29 : decode cX11_object 29 = .ok (.tableswitch 107 0 5 #[39, 48, 62, 76, 87, 98], 39) := by decide +kernel
theorem dX11_object_68 : decode cX11_object 68 = .ok (.aload_n 0, 1) := by decide +kernel
theorem dX11_object_69 : decode cX11_object 69 = .ok (.getfield 9, 3) := by decide +kernel
theorem dX11_object_72 : decode cX11_object 72 = .ok (.iload_n 1, 1) := by decide +kernel
theorem dX11_object_73 : decode cX11_object 73 = .ok (.invokestatic 96, 3) := by decide +kernel
theorem dX11_object_76 : decode cX11_object 76 = .ok (.ireturn, 1) := by decide +kernel
theorem dX11_object_77 : decode cX11_object 77 = .ok (.aload_n 0, 1) := by decide +kernel
theorem dX11_object_78 : decode cX11_object 78 = .ok (.getfield 9, 3) := by decide +kernel
theorem dX11_object_81 : decode cX11_object 81 = .ok (.sipush 192, 3) := by decide +kernel
theorem dX11_object_84 : decode cX11_object 84 = .ok (.iload_n 1, 1) := by decide +kernel
theorem dX11_object_85 : decode cX11_object 85 = .ok (.iadd, 1) := by decide +kernel
theorem dX11_object_86 : decode cX11_object 86 = .ok (.iaload, 1) := by decide +kernel
theorem dX11_object_87 : decode cX11_object 87 = .ok (.invokestatic 246, 3) := by decide +kernel
theorem dX11_object_90 : decode cX11_object 90 = .ok (.ireturn, 1) := by decide +kernel
theorem dX11_object_91 : decode cX11_object 91 = .ok (.aload_n 0, 1) := by decide +kernel
theorem dX11_object_92 : decode cX11_object 92 = .ok (.getfield 9, 3) := by decide +kernel
theorem dX11_object_95 : decode cX11_object 95 = .ok (.sipush 264, 3) := by decide +kernel
theorem dX11_object_98 : decode cX11_object 98 = .ok (.iload_n 1, 1) := by decide +kernel
theorem dX11_object_99 : decode cX11_object 99 = .ok (.iadd, 1) := by decide +kernel
theorem dX11_object_100 : decode cX11_object 100 = .ok (.iaload, 1) := by decide +kernel
theorem dX11_object_101 : decode cX11_object 101 = .ok (.invokestatic 246, 3) := by decide +kernel
theorem dX11_object_104 : decode cX11_object 104 = .ok (.ireturn, 1) := by decide +kernel
theorem dX11_object_105 : decode cX11_object 105 = .ok (.aload_n 0, 1) := by decide +kernel
theorem dX11_object_106 : decode cX11_object 106 = .ok (.getfield 9, 3) := by decide +kernel
theorem dX11_object_109 : decode cX11_object 109 = .ok (.sipush 216, 3) := by decide +kernel
theorem dX11_object_112 : decode cX11_object 112 = .ok (.iload_n 1, 1) := by decide +kernel
theorem dX11_object_113 : decode cX11_object 113 = .ok (.iadd, 1) := by decide +kernel
theorem dX11_object_114 : decode cX11_object 114 = .ok (.iaload, 1) := by decide +kernel
theorem dX11_object_115 : decode cX11_object 115 = .ok (.ireturn, 1) := by decide +kernel
theorem dX11_object_116 : decode cX11_object 116 = .ok (.aload_n 0, 1) := by decide +kernel
theorem dX11_object_117 : decode cX11_object 117 = .ok (.getfield 9, 3) := by decide +kernel
theorem dX11_object_120 : decode cX11_object 120 = .ok (.sipush 240, 3) := by decide +kernel
theorem dX11_object_123 : decode cX11_object 123 = .ok (.iload_n 1, 1) := by decide +kernel
theorem dX11_object_124 : decode cX11_object 124 = .ok (.iadd, 1) := by decide +kernel
theorem dX11_object_125 : decode cX11_object 125 = .ok (.iaload, 1) := by decide +kernel
theorem dX11_object_126 : decode cX11_object 126 = .ok (.ireturn, 1) := by decide +kernel
theorem dX11_object_127 : decode cX11_object 127 = .ok (.aload_n 0, 1) := by decide +kernel
theorem dX11_object_128 : decode cX11_object 128 = .ok (.getfield 9, 3) := by decide +kernel
theorem dX11_object_131 : decode cX11_object 131 = .ok (.iload_n 1, 1) := by decide +kernel
theorem dX11_object_132 : decode cX11_object 132 = .ok (.invokestatic 109, 3) := by decide +kernel
theorem dX11_object_135 : decode cX11_object 135 = .ok (.ireturn, 1) := by decide +kernel
theorem dX11_object_136 : decode cX11_object 136 = .ok (.aload_n 0, 1) := by decide +kernel
theorem dX11_object_137 : decode cX11_object 137 = .ok (.getfield 9, 3) := by decide +kernel
theorem dX11_object_140 : decode cX11_object 140 = .ok (.sipush 288, 3) := by decide +kernel
theorem dX11_object_143 : decode cX11_object 143 = .ok (.iload_n 1, 1) := by decide +kernel
theorem dX11_object_144 : decode cX11_object 144 = .ok (.iadd, 1) := by decide +kernel
theorem dX11_object_145 : decode cX11_object 145 = .ok (.iaload, 1) := by decide +kernel
theorem dX11_object_146 : decode cX11_object 146 = .ok (.ireturn, 1) := by decide +kernel
def fX11_object_J23 (h : AH) (v0 : Nat) : Option (Int32 × AH) :=
    (fX11_lost h v0).bind fun q1 =>
    some ((q1.1, q1.2))
def fX11_object (h : AH) (a0 : Nat) (a1 : Int32) (a2 : Int32) : Option (Int32 × AH) :=
  if hasC h 11 a0 = true then (
    (pF h 11 a0 5 (.int 0)).bind fun h2 =>
    (fX11_isObject h2 a0 a1).bind fun q3 =>
    if q3 = true then (
      (fX11_in h2 a2 0 6).bind fun q4 =>
      if q4 = true then (
        if a2 = 0 then (
          (gR h2 11 a0 0).bind fun x6 =>
          (fX11_pagesOf h2 x6 a1).bind fun q7 =>
          some ((q7, h2))
        ) else (
          if a2 = 1 then (
            (gR h2 11 a0 0).bind fun x9 =>
            (aI h2 0 x9 (192 + a1)).bind fun x10 =>
            (fX11_told24 h2 x10).bind fun q11 =>
            some ((q11, h2))
          ) else (
            if a2 = 2 then (
              (gR h2 11 a0 0).bind fun x13 =>
              (aI h2 0 x13 (264 + a1)).bind fun x14 =>
              (fX11_told24 h2 x14).bind fun q15 =>
              some ((q15, h2))
            ) else (
              if a2 = 3 then (
                (gR h2 11 a0 0).bind fun x17 =>
                (aI h2 0 x17 (216 + a1)).bind fun x18 =>
                some ((x18, h2))
              ) else (
                if a2 = 4 then (
                  (gR h2 11 a0 0).bind fun x20 =>
                  (aI h2 0 x20 (240 + a1)).bind fun x21 =>
                  some ((x21, h2))
                ) else (
                  if a2 = 5 then (
                    (gR h2 11 a0 0).bind fun x23 =>
                    (fX11_holdersOf h2 x23 a1).bind fun q24 =>
                    some ((q24, h2))
                  ) else (
                    (gR h2 11 a0 0).bind fun x25 =>
                    (aI h2 0 x25 (288 + a1)).bind fun x26 =>
                    some ((x26, h2))))))))
      ) else (
        fX11_object_J23 h2 a0
      )
    ) else (
      fX11_object_J23 h2 a0
    )
  ) else none
set_option maxHeartbeats 4000000 in
theorem gX11_object_J23 {Y : YT} {X : XT} (C : CT Y X RX11 cX11_object 3) (O : RO X 3 0 0) {r : Int32 × AH} (E : RX Y X (some .int) (some (.int r.1)) r.2 0 0) : ∀ (h : AH) (v0 : Nat), GO Y X 3 r h 0 0 23 [(0, .ref v0)] [] (fX11_object_J23 h v0) := by
  intro h v0
  unfold fX11_object_J23
  refine go_aload_n (pc := 23) C 0 dX11_object_23 rfl ?_
  refine go_bind (fun q1 hq1 => ?_)
  refine go_callV (rest := []) (st' := [.int q1.1]) (c' := 0) (s' := 0) (pc := 24) C O miX11_227 mvX11_lost [] rfl (mX11_lost hq1).1 (mX11_lost hq1).2 dX11_object_24 ⟨by decide, by decide, by decide, by decide⟩ rfl (Nat.le_of_ble_eq_true rfl) rfl ⟨rfl, rfl⟩ ?_
  exact go_iret (w := wIh) (pc := 27) C E ((q1.1, q1.2)) q1.1 dX11_object_27 rfl
set_option maxHeartbeats 4000000 in
theorem mX11_object {h : AH} {a0 : Nat} {a1 : Int32} {a2 : Int32} {r : Int32 × AH} (hr : fX11_object h a0 a1 a2 = some r) : hasC h 11 a0 = true ∧ MC yX11_object cX11_object 3 (some .int) 3 0 0 [.ref a0, .int a1, .int a2] h (some (.int r.1)) r.2 := by
  unfold fX11_object at hr
  obtain ⟨hc, hr⟩ := if_some hr
  refine ⟨hc, mc_of (l0 := [(0, .ref a0), (1, .int a1), (2, .int a2)]) rfl pn_X11 (Nat.le_of_ble_eq_true rfl) (fun Y X C E O hnm => go_run hr ?_)⟩
  have C : CT Y X RX11 cX11_object 3 := C
  refine go_aload_n (pc := 0) C 0 dX11_object_0 rfl ?_
  refine go_iconst (pc := 1) C dX11_object_1 ki_0 ?_
  refine go_pI (pc := 2) C fpX11_77 dX11_object_2 (fun h2 => ?_)
  refine go_aload_n (pc := 5) C 0 dX11_object_5 rfl ?_
  refine go_iload_n (pc := 6) C 1 dX11_object_6 rfl ?_
  refine go_bind (fun q3 hq3 => ?_)
  refine go_callV (rest := []) (st' := [.int (b2i q3)]) (c' := 0) (s' := 0) (pc := 7) C O miX11_242 mvX11_isObject [.int a1] rfl (mX11_isObject hq3).1 (mX11_isObject hq3).2 dX11_object_7 ⟨by decide, by decide, by decide, by decide⟩ rfl (Nat.le_of_ble_eq_true rfl) rfl ⟨rfl, rfl⟩ ?_
  refine go_ifZ_eq (pc := 10) C 23 dX11_object_10 (by decide) (fun _ => ?_) (fun _ => ?_)
  · refine go_iload_n (pc := 13) C 2 dX11_object_13 rfl ?_
    refine go_iconst (pc := 14) C dX11_object_14 ki_0 ?_
    refine go_bipush (pc := 15) C dX11_object_15 kb_6 ?_
    refine go_bind (fun q4 hq4 => ?_)
    refine go_callS (rest := []) (st' := [.int (b2i q4)]) (c' := 0) (s' := 0) (pc := 17) C O miX11_84 w_1437 [.int a2, .int 0, .int 6] rfl (mX11_in hq4) dX11_object_17 ⟨by decide, by decide, by decide, by decide⟩ rfl (Nat.le_of_ble_eq_true rfl) rfl ⟨rfl, rfl⟩ ?_
    refine go_ifZ_ne (pc := 20) C 28 dX11_object_20 (by decide) (fun _ => ?_) (fun _ => ?_)
    · refine go_iload_n (pc := 28) C 2 dX11_object_28 rfl ?_
      refine go_ite (fun hc5 => ?_) (fun hc5 => ?_)
      · refine go_tsw (pc := 29) C 68 0 hc5 dX11_object_29 (by decide) (by decide) rfl (by decide) ?_
        refine go_aload_n (pc := 68) C 0 dX11_object_68 rfl ?_
        refine go_gR (pc := 69) C fdX11_9 dX11_object_69 (fun x6 => ?_)
        refine go_iload_n (pc := 72) C 1 dX11_object_72 rfl ?_
        refine go_bind (fun q7 hq7 => ?_)
        refine go_callS (rest := []) (st' := [.int q7]) (c' := 0) (s' := 0) (pc := 73) C O miX11_96 w_1491 [.ref x6, .int a1] rfl (mX11_pagesOf hq7) dX11_object_73 ⟨by decide, by decide, by decide, by decide⟩ rfl (Nat.le_of_ble_eq_true rfl) rfl ⟨rfl, rfl⟩ ?_
        exact go_iret (w := wIh) (pc := 76) C E ((q7, h2)) q7 dX11_object_76 rfl
      · refine go_ite (fun hc8 => ?_) (fun hc8 => ?_)
        · refine go_tsw (pc := 29) C 77 1 hc8 dX11_object_29 (by decide) (by decide) rfl (by decide) ?_
          refine go_aload_n (pc := 77) C 0 dX11_object_77 rfl ?_
          refine go_gR (pc := 78) C fdX11_9 dX11_object_78 (fun x9 => ?_)
          refine go_sipush (pc := 81) C dX11_object_81 ks_192 ?_
          refine go_iload_n (pc := 84) C 1 dX11_object_84 rfl ?_
          refine go_iadd (pc := 85) C dX11_object_85 ?_
          refine go_iald (pc := 86) C dX11_object_86 (fun x10 => ?_)
          refine go_bind (fun q11 hq11 => ?_)
          refine go_callS (rest := []) (st' := [.int q11]) (c' := 0) (s' := 0) (pc := 87) C O miX11_246 w_1575 [.int x10] rfl (mX11_told24 hq11) dX11_object_87 ⟨by decide, by decide, by decide, by decide⟩ rfl (Nat.le_of_ble_eq_true rfl) rfl ⟨rfl, rfl⟩ ?_
          exact go_iret (w := wIh) (pc := 90) C E ((q11, h2)) q11 dX11_object_90 rfl
        · refine go_ite (fun hc12 => ?_) (fun hc12 => ?_)
          · refine go_tsw (pc := 29) C 91 2 hc12 dX11_object_29 (by decide) (by decide) rfl (by decide) ?_
            refine go_aload_n (pc := 91) C 0 dX11_object_91 rfl ?_
            refine go_gR (pc := 92) C fdX11_9 dX11_object_92 (fun x13 => ?_)
            refine go_sipush (pc := 95) C dX11_object_95 ks_264 ?_
            refine go_iload_n (pc := 98) C 1 dX11_object_98 rfl ?_
            refine go_iadd (pc := 99) C dX11_object_99 ?_
            refine go_iald (pc := 100) C dX11_object_100 (fun x14 => ?_)
            refine go_bind (fun q15 hq15 => ?_)
            refine go_callS (rest := []) (st' := [.int q15]) (c' := 0) (s' := 0) (pc := 101) C O miX11_246 w_1575 [.int x14] rfl (mX11_told24 hq15) dX11_object_101 ⟨by decide, by decide, by decide, by decide⟩ rfl (Nat.le_of_ble_eq_true rfl) rfl ⟨rfl, rfl⟩ ?_
            exact go_iret (w := wIh) (pc := 104) C E ((q15, h2)) q15 dX11_object_104 rfl
          · refine go_ite (fun hc16 => ?_) (fun hc16 => ?_)
            · refine go_tsw (pc := 29) C 105 3 hc16 dX11_object_29 (by decide) (by decide) rfl (by decide) ?_
              refine go_aload_n (pc := 105) C 0 dX11_object_105 rfl ?_
              refine go_gR (pc := 106) C fdX11_9 dX11_object_106 (fun x17 => ?_)
              refine go_sipush (pc := 109) C dX11_object_109 ks_216 ?_
              refine go_iload_n (pc := 112) C 1 dX11_object_112 rfl ?_
              refine go_iadd (pc := 113) C dX11_object_113 ?_
              refine go_iald (pc := 114) C dX11_object_114 (fun x18 => ?_)
              exact go_iret (w := wIh) (pc := 115) C E ((x18, h2)) x18 dX11_object_115 rfl
            · refine go_ite (fun hc19 => ?_) (fun hc19 => ?_)
              · refine go_tsw (pc := 29) C 116 4 hc19 dX11_object_29 (by decide) (by decide) rfl (by decide) ?_
                refine go_aload_n (pc := 116) C 0 dX11_object_116 rfl ?_
                refine go_gR (pc := 117) C fdX11_9 dX11_object_117 (fun x20 => ?_)
                refine go_sipush (pc := 120) C dX11_object_120 ks_240 ?_
                refine go_iload_n (pc := 123) C 1 dX11_object_123 rfl ?_
                refine go_iadd (pc := 124) C dX11_object_124 ?_
                refine go_iald (pc := 125) C dX11_object_125 (fun x21 => ?_)
                exact go_iret (w := wIh) (pc := 126) C E ((x21, h2)) x21 dX11_object_126 rfl
              · refine go_ite (fun hc22 => ?_) (fun hc22 => ?_)
                · refine go_tsw (pc := 29) C 127 5 hc22 dX11_object_29 (by decide) (by decide) rfl (by decide) ?_
                  refine go_aload_n (pc := 127) C 0 dX11_object_127 rfl ?_
                  refine go_gR (pc := 128) C fdX11_9 dX11_object_128 (fun x23 => ?_)
                  refine go_iload_n (pc := 131) C 1 dX11_object_131 rfl ?_
                  refine go_bind (fun q24 hq24 => ?_)
                  refine go_callS (rest := []) (st' := [.int q24]) (c' := 0) (s' := 0) (pc := 132) C O miX11_109 w_1578 [.ref x23, .int a1] rfl (mX11_holdersOf hq24) dX11_object_132 ⟨by decide, by decide, by decide, by decide⟩ rfl (Nat.le_of_ble_eq_true rfl) rfl ⟨rfl, rfl⟩ ?_
                  exact go_iret (w := wIh) (pc := 135) C E ((q24, h2)) q24 dX11_object_135 rfl
                · refine go_tsw_else (pc := 29) C 136 [0, 1, 2, 3, 4, 5] dX11_object_29 (fun v hv => by simp only [List.mem_cons, List.not_mem_nil, or_false] at hv; rcases hv with rfl | rfl | rfl | rfl | rfl | rfl <;> first | exact i32_ne hc5 (by decide) | exact i32_ne hc8 (by decide) | exact i32_ne hc12 (by decide) | exact i32_ne hc16 (by decide) | exact i32_ne hc19 (by decide) | exact i32_ne hc22 (by decide)) (by decide) (by decide) (by decide) ?_
                  refine go_aload_n (pc := 136) C 0 dX11_object_136 rfl ?_
                  refine go_gR (pc := 137) C fdX11_9 dX11_object_137 (fun x25 => ?_)
                  refine go_sipush (pc := 140) C dX11_object_140 ks_288 ?_
                  refine go_iload_n (pc := 143) C 1 dX11_object_143 rfl ?_
                  refine go_iadd (pc := 144) C dX11_object_144 ?_
                  refine go_iald (pc := 145) C dX11_object_145 (fun x26 => ?_)
                  exact go_iret (w := wIh) (pc := 146) C E ((x26, h2)) x26 dX11_object_146 rfl
    · refine go_sub (ls' := [(0, .ref a0)]) [0] rfl ?_
      refine gX11_object_J23 C O E h2 a0
  · refine go_sub (ls' := [(0, .ref a0)]) [0] rfl ?_
    refine gX11_object_J23 C O E h2 a0
theorem dX11_page_0 : decode cX11_page 0 = .ok (.aload_n 0, 1) := by decide +kernel
theorem dX11_page_1 : decode cX11_page 1 = .ok (.iconst 0, 1) := by decide +kernel
theorem dX11_page_2 : decode cX11_page 2 = .ok (.putfield 77, 3) := by decide +kernel
theorem dX11_page_5 : decode cX11_page 5 = .ok (.aload_n 0, 1) := by decide +kernel
theorem dX11_page_6 : decode cX11_page 6 = .ok (.iload_n 1, 1) := by decide +kernel
theorem dX11_page_7 : decode cX11_page 7 = .ok (.invokevirtual 242, 3) := by decide +kernel
theorem dX11_page_10 : decode cX11_page 10 = .ok (.ifCond .eq 36, 3) := by decide +kernel
theorem dX11_page_13 : decode cX11_page 13 = .ok (.iload_n 2, 1) := by decide +kernel
theorem dX11_page_14 : decode cX11_page 14 = .ok (.invokestatic 249, 3) := by decide +kernel
theorem dX11_page_17 : decode cX11_page 17 = .ok (.ifCond .eq 29, 3) := by decide +kernel
theorem dX11_page_20 : decode cX11_page 20 = .ok (.aload_n 0, 1) := by decide +kernel
theorem dX11_page_21 : decode cX11_page 21 = .ok (.getfield 9, 3) := by decide +kernel
theorem dX11_page_24 : decode cX11_page 24 = .ok (.iload_n 1, 1) := by decide +kernel
theorem dX11_page_25 : decode cX11_page 25 = .ok (.iload_n 2, 1) := by decide +kernel
theorem dX11_page_26 : decode cX11_page 26 = .ok (.invokestatic 92, 3) := by decide +kernel
theorem dX11_page_29 : decode cX11_page 29 = .ok (.ifCond .eq 17, 3) := by decide +kernel
theorem dX11_page_32 : decode cX11_page 32 = .ok (.aload_n 0, 1) := by decide +kernel
theorem dX11_page_33 : decode cX11_page 33 = .ok (.getfield 9, 3) := by decide +kernel
theorem dX11_page_36 : decode cX11_page 36 = .ok (.bipush 8, 2) := by decide +kernel
theorem dX11_page_38 : decode cX11_page 38 = .ok (.iload_n 1, 1) := by decide +kernel
theorem dX11_page_39 : decode cX11_page 39 = .ok (.imul, 1) := by decide +kernel
theorem dX11_page_40 : decode cX11_page 40 = .ok (.iload_n 2, 1) := by decide +kernel
theorem dX11_page_41 : decode cX11_page 41 = .ok (.iadd, 1) := by decide +kernel
theorem dX11_page_42 : decode cX11_page 42 = .ok (.iaload, 1) := by decide +kernel
theorem dX11_page_43 : decode cX11_page 43 = .ok (.goto 7, 3) := by decide +kernel
theorem dX11_page_46 : decode cX11_page 46 = .ok (.aload_n 0, 1) := by decide +kernel
theorem dX11_page_47 : decode cX11_page 47 = .ok (.invokevirtual 227, 3) := by decide +kernel
theorem dX11_page_50 : decode cX11_page 50 = .ok (.ireturn, 1) := by decide +kernel
def fX11_page_J46 (h : AH) (v0 : Nat) : Option (Int32 × AH) :=
    (fX11_lost h v0).bind fun q1 =>
    some ((q1.1, q1.2))
def fX11_page (h : AH) (a0 : Nat) (a1 : Int32) (a2 : Int32) : Option (Int32 × AH) :=
  if hasC h 11 a0 = true then (
    (pF h 11 a0 5 (.int 0)).bind fun h2 =>
    (fX11_isObject h2 a0 a1).bind fun q3 =>
    if q3 = true then (
      (fX11_isPage h2 a2).bind fun q4 =>
      if q4 = true then (
        (gR h2 11 a0 0).bind fun x5 =>
        (fX11_holds h2 x5 a1 a2).bind fun q6 =>
        if q6 = true then (
          (gR h2 11 a0 0).bind fun x7 =>
          (aI h2 0 x7 ((8 * a1) + a2)).bind fun x8 =>
          some ((x8, h2))
        ) else (
          fX11_page_J46 h2 a0
        )
      ) else (
        fX11_page_J46 h2 a0
      )
    ) else (
      fX11_page_J46 h2 a0
    )
  ) else none
set_option maxHeartbeats 4000000 in
theorem gX11_page_J46 {Y : YT} {X : XT} (C : CT Y X RX11 cX11_page 3) (O : RO X 3 0 0) {r : Int32 × AH} (E : RX Y X (some .int) (some (.int r.1)) r.2 0 0) : ∀ (h : AH) (v0 : Nat), GO Y X 3 r h 0 0 46 [(0, .ref v0)] [] (fX11_page_J46 h v0) := by
  intro h v0
  unfold fX11_page_J46
  refine go_aload_n (pc := 46) C 0 dX11_page_46 rfl ?_
  refine go_bind (fun q1 hq1 => ?_)
  refine go_callV (rest := []) (st' := [.int q1.1]) (c' := 0) (s' := 0) (pc := 47) C O miX11_227 mvX11_lost [] rfl (mX11_lost hq1).1 (mX11_lost hq1).2 dX11_page_47 ⟨by decide, by decide, by decide, by decide⟩ rfl (Nat.le_of_ble_eq_true rfl) rfl ⟨rfl, rfl⟩ ?_
  exact go_iret (w := wIh) (pc := 50) C E ((q1.1, q1.2)) q1.1 dX11_page_50 rfl
set_option maxHeartbeats 4000000 in
theorem mX11_page {h : AH} {a0 : Nat} {a1 : Int32} {a2 : Int32} {r : Int32 × AH} (hr : fX11_page h a0 a1 a2 = some r) : hasC h 11 a0 = true ∧ MC yX11_page cX11_page 3 (some .int) 3 0 0 [.ref a0, .int a1, .int a2] h (some (.int r.1)) r.2 := by
  unfold fX11_page at hr
  obtain ⟨hc, hr⟩ := if_some hr
  refine ⟨hc, mc_of (l0 := [(0, .ref a0), (1, .int a1), (2, .int a2)]) rfl pn_X11 (Nat.le_of_ble_eq_true rfl) (fun Y X C E O hnm => go_run hr ?_)⟩
  have C : CT Y X RX11 cX11_page 3 := C
  refine go_aload_n (pc := 0) C 0 dX11_page_0 rfl ?_
  refine go_iconst (pc := 1) C dX11_page_1 ki_0 ?_
  refine go_pI (pc := 2) C fpX11_77 dX11_page_2 (fun h2 => ?_)
  refine go_aload_n (pc := 5) C 0 dX11_page_5 rfl ?_
  refine go_iload_n (pc := 6) C 1 dX11_page_6 rfl ?_
  refine go_bind (fun q3 hq3 => ?_)
  refine go_callV (rest := []) (st' := [.int (b2i q3)]) (c' := 0) (s' := 0) (pc := 7) C O miX11_242 mvX11_isObject [.int a1] rfl (mX11_isObject hq3).1 (mX11_isObject hq3).2 dX11_page_7 ⟨by decide, by decide, by decide, by decide⟩ rfl (Nat.le_of_ble_eq_true rfl) rfl ⟨rfl, rfl⟩ ?_
  refine go_ifZ_eq (pc := 10) C 46 dX11_page_10 (by decide) (fun _ => ?_) (fun _ => ?_)
  · refine go_iload_n (pc := 13) C 2 dX11_page_13 rfl ?_
    refine go_bind (fun q4 hq4 => ?_)
    refine go_callS (rest := []) (st' := [.int (b2i q4)]) (c' := 0) (s' := 0) (pc := 14) C O miX11_249 w_1585 [.int a2] rfl (mX11_isPage hq4) dX11_page_14 ⟨by decide, by decide, by decide, by decide⟩ rfl (Nat.le_of_ble_eq_true rfl) rfl ⟨rfl, rfl⟩ ?_
    refine go_ifZ_eq (pc := 17) C 46 dX11_page_17 (by decide) (fun _ => ?_) (fun _ => ?_)
    · refine go_aload_n (pc := 20) C 0 dX11_page_20 rfl ?_
      refine go_gR (pc := 21) C fdX11_9 dX11_page_21 (fun x5 => ?_)
      refine go_iload_n (pc := 24) C 1 dX11_page_24 rfl ?_
      refine go_iload_n (pc := 25) C 2 dX11_page_25 rfl ?_
      refine go_bind (fun q6 hq6 => ?_)
      refine go_callS (rest := []) (st' := [.int (b2i q6)]) (c' := 0) (s' := 0) (pc := 26) C O miX11_92 w_1494 [.ref x5, .int a1, .int a2] rfl (mX11_holds hq6) dX11_page_26 ⟨by decide, by decide, by decide, by decide⟩ rfl (Nat.le_of_ble_eq_true rfl) rfl ⟨rfl, rfl⟩ ?_
      refine go_ifZ_eq (pc := 29) C 46 dX11_page_29 (by decide) (fun _ => ?_) (fun _ => ?_)
      · refine go_aload_n (pc := 32) C 0 dX11_page_32 rfl ?_
        refine go_gR (pc := 33) C fdX11_9 dX11_page_33 (fun x7 => ?_)
        refine go_bipush (pc := 36) C dX11_page_36 kb_8 ?_
        refine go_iload_n (pc := 38) C 1 dX11_page_38 rfl ?_
        refine go_imul (pc := 39) C dX11_page_39 ?_
        refine go_iload_n (pc := 40) C 2 dX11_page_40 rfl ?_
        refine go_iadd (pc := 41) C dX11_page_41 ?_
        refine go_iald (pc := 42) C dX11_page_42 (fun x8 => ?_)
        refine go_goto (pc := 43) C 50 dX11_page_43 (by decide) ?_
        exact go_iret (w := wIh) (pc := 50) C E ((x8, h2)) x8 dX11_page_50 rfl
      · refine go_sub (ls' := [(0, .ref a0)]) [0] rfl ?_
        refine gX11_page_J46 C O E h2 a0
    · refine go_sub (ls' := [(0, .ref a0)]) [0] rfl ?_
      refine gX11_page_J46 C O E h2 a0
  · refine go_sub (ls' := [(0, .ref a0)]) [0] rfl ?_
    refine gX11_page_J46 C O E h2 a0
theorem dX11_sheet_0 : decode cX11_sheet 0 = .ok (.aload_n 0, 1) := by decide +kernel
theorem dX11_sheet_1 : decode cX11_sheet 1 = .ok (.iconst 0, 1) := by decide +kernel
theorem dX11_sheet_2 : decode cX11_sheet 2 = .ok (.putfield 77, 3) := by decide +kernel
theorem dX11_sheet_5 : decode cX11_sheet 5 = .ok (.iload_n 1, 1) := by decide +kernel
theorem dX11_sheet_6 : decode cX11_sheet 6 = .ok (.iconst 0, 1) := by decide +kernel
theorem dX11_sheet_7 : decode cX11_sheet 7 = .ok (.iconst 3, 1) := by decide +kernel
theorem dX11_sheet_8 : decode cX11_sheet 8 = .ok (.invokestatic 84, 3) := by decide +kernel
theorem dX11_sheet_11 : decode cX11_sheet 11 = .ok (.ifCond .eq 9, 3) := by decide +kernel
theorem dX11_sheet_14 : decode cX11_sheet 14 = .ok (.iload_n 2, 1) := by decide +kernel
theorem dX11_sheet_15 : decode cX11_sheet 15 = .ok (.bipush 24, 2) := by decide +kernel
theorem dX11_sheet_17 : decode cX11_sheet 17 = .ok (.if_icmp .le 5, 3) := by decide +kernel
theorem dX11_sheet_20 : decode cX11_sheet 20 = .ok (.iconst (-1), 1) := by decide +kernel
theorem dX11_sheet_21 : decode cX11_sheet 21 = .ok (.ireturn, 1) := by decide +kernel
theorem dX11_sheet_22 : decode cX11_sheet 22 = .ok (.iload_n 1, 1) := by decide +kernel
theorem dX11_sheet_23 : decode cX11_sheet 23 = .ok (.iconst 3, 1) := by decide +kernel
theorem dX11_sheet_24 : decode cX11_sheet 24 = .ok (.if_icmp .ge 10, 3) := by decide +kernel
theorem dX11_sheet_27 : decode cX11_sheet 27 = .ok (.iload_n 2, 1) := by decide +kernel
theorem dX11_sheet_28 : decode cX11_sheet 28 = .ok (.ifCond .ge 6, 3) := by decide +kernel
theorem dX11_sheet_31 : decode cX11_sheet 31 = .ok (.bipush (-2), 2) := by decide +kernel
theorem dX11_sheet_33 : decode cX11_sheet 33 = .ok (.ireturn, 1) := by decide +kernel
theorem dX11_sheet_34 : decode cX11_sheet 34 = .ok (.iload_n 3, 1) := by decide +kernel
theorem dX11_sheet_35 : decode cX11_sheet 35 = .ok (.istore 5, 2) := by decide +kernel
theorem dX11_sheet_37 : decode cX11_sheet 37 = .ok (.iconst 0, 1) := by decide +kernel
theorem dX11_sheet_38 : decode cX11_sheet 38 = .ok (.istore 6, 2) := by decide +kernel
theorem dX11_sheet_40 : decode cX11_sheet 40 = .ok (.iconst 0, 1) := by decide +kernel
theorem dX11_sheet_41 : decode cX11_sheet 41 = .ok (.istore 7, 2) := by decide +kernel
theorem dX11_sheet_43 : decode cX11_sheet 43 = .ok (.iconst 0, 1) := by decide +kernel
theorem dX11_sheet_44 : decode cX11_sheet 44 = .ok (.istore 8, 2) := by decide +kernel
theorem dX11_sheet_46 : decode cX11_sheet 46 = .ok (.iload 8, 2) := by decide +kernel
theorem dX11_sheet_48 : decode cX11_sheet 48 = .ok (.bipush 24, 2) := by decide +kernel
theorem dX11_sheet_50 : decode cX11_sheet 50 = .ok (.if_icmp .ge 112, 3) := by decide +kernel
theorem dX11_sheet_53 : decode cX11_sheet 53 = .ok (.aload_n 0, 1) := by decide +kernel
theorem dX11_sheet_54 : decode cX11_sheet 54 = .ok (.getfield 9, 3) := by decide +kernel
theorem dX11_sheet_57 : decode cX11_sheet 57 = .ok (.iload 8, 2) := by decide +kernel
theorem dX11_sheet_59 : decode cX11_sheet 59 = .ok (.invokestatic 88, 3) := by decide +kernel
theorem dX11_sheet_62 : decode cX11_sheet 62 = .ok (.ifCond .ne 6, 3) := by decide +kernel
theorem dX11_sheet_65 : decode cX11_sheet 65 = .ok (.goto 91, 3) := by decide +kernel
theorem dX11_sheet_68 : decode cX11_sheet 68 = .ok (.iload_n 1, 1) := by decide +kernel
theorem dX11_sheet_69 : decode cX11_sheet 69 = .ok (.ifCond .ne 9, 3) := by decide +kernel
theorem dX11_sheet_72 : decode cX11_sheet 72 = .ok (.iload 5, 2) := by decide +kernel
theorem dX11_sheet_74 : decode cX11_sheet 74 = .ok (.i2b, 1) := by decide +kernel
theorem dX11_sheet_75 : decode cX11_sheet 75 = .ok (.goto 16, 3) := by decide +kernel
theorem dX11_sheet_78 : decode cX11_sheet 78 = .ok (.iload_n 1, 1) := by decide +kernel
theorem dX11_sheet_79 : decode cX11_sheet 79 = .ok (.iconst 1, 1) := by decide +kernel
theorem dX11_sheet_80 : decode cX11_sheet 80 = .ok (.if_icmp .ne 9, 3) := by decide +kernel
theorem dX11_sheet_83 : decode cX11_sheet 83 = .ok (.iload 5, 2) := by decide +kernel
theorem dX11_sheet_85 : decode cX11_sheet 85 = .ok (.i2s, 1) := by decide +kernel
theorem dX11_sheet_86 : decode cX11_sheet 86 = .ok (.goto 5, 3) := by decide +kernel
theorem dX11_sheet_89 : decode cX11_sheet 89 = .ok (.iload 5, 2) := by decide +kernel
theorem dX11_sheet_91 : decode cX11_sheet 91 = .ok (.istore 9, 2) := by decide +kernel
theorem dX11_sheet_93 : decode cX11_sheet 93 = .ok (.aload_n 0, 1) := by decide +kernel
theorem dX11_sheet_94 : decode cX11_sheet 94 = .ok (.getfield 9, 3) := by decide +kernel
theorem dX11_sheet_97 : decode cX11_sheet 97 = .ok (.sipush 240, 3) := by decide +kernel
theorem dX11_sheet_100 : decode cX11_sheet 100 = .ok (.iload 8, 2) := by decide +kernel
theorem dX11_sheet_102 : decode cX11_sheet 102 = .ok (.iadd, 1) := by decide +kernel
theorem dX11_sheet_103 : decode cX11_sheet 103 = .ok (.iload_n 1, 1) := by decide +kernel
theorem dX11_sheet_104 : decode cX11_sheet 104 = .ok (.iconst 3, 1) := by decide +kernel
theorem dX11_sheet_105 : decode cX11_sheet 105 = .ok (.if_icmp .eq 9, 3) := by decide +kernel
theorem dX11_sheet_108 : decode cX11_sheet 108 = .ok (.iload 6, 2) := by decide +kernel
theorem dX11_sheet_110 : decode cX11_sheet 110 = .ok (.iload_n 2, 1) := by decide +kernel
theorem dX11_sheet_111 : decode cX11_sheet 111 = .ok (.if_icmp .lt 7, 3) := by decide +kernel
theorem dX11_sheet_114 : decode cX11_sheet 114 = .ok (.iconst 0, 1) := by decide +kernel
theorem dX11_sheet_115 : decode cX11_sheet 115 = .ok (.goto 14, 3) := by decide +kernel
theorem dX11_sheet_118 : decode cX11_sheet 118 = .ok (.iconst 0, 1) := by decide +kernel
theorem dX11_sheet_119 : decode cX11_sheet 119 = .ok (.bipush 9, 2) := by decide +kernel
theorem dX11_sheet_121 : decode cX11_sheet 121 = .ok (.iload 9, 2) := by decide +kernel
theorem dX11_sheet_123 : decode cX11_sheet 123 = .ok (.invokestatic 233, 3) := by decide +kernel
theorem dX11_sheet_126 : decode cX11_sheet 126 = .ok (.invokestatic 239, 3) := by decide +kernel
theorem dX11_sheet_129 : decode cX11_sheet 129 = .ok (.iastore, 1) := by decide +kernel
theorem dX11_sheet_130 : decode cX11_sheet 130 = .ok (.iload 7, 2) := by decide +kernel
theorem dX11_sheet_132 : decode cX11_sheet 132 = .ok (.aload_n 0, 1) := by decide +kernel
theorem dX11_sheet_133 : decode cX11_sheet 133 = .ok (.getfield 9, 3) := by decide +kernel
theorem dX11_sheet_136 : decode cX11_sheet 136 = .ok (.sipush 240, 3) := by decide +kernel
theorem dX11_sheet_139 : decode cX11_sheet 139 = .ok (.iload 8, 2) := by decide +kernel
theorem dX11_sheet_141 : decode cX11_sheet 141 = .ok (.iadd, 1) := by decide +kernel
theorem dX11_sheet_142 : decode cX11_sheet 142 = .ok (.iaload, 1) := by decide +kernel
theorem dX11_sheet_143 : decode cX11_sheet 143 = .ok (.iadd, 1) := by decide +kernel
theorem dX11_sheet_144 : decode cX11_sheet 144 = .ok (.istore 7, 2) := by decide +kernel
theorem dX11_sheet_146 : decode cX11_sheet 146 = .ok (.iload 5, 2) := by decide +kernel
theorem dX11_sheet_148 : decode cX11_sheet 148 = .ok (.iload 4, 2) := by decide +kernel
theorem dX11_sheet_150 : decode cX11_sheet 150 = .ok (.iadd, 1) := by decide +kernel
theorem dX11_sheet_151 : decode cX11_sheet 151 = .ok (.istore 5, 2) := by decide +kernel
theorem dX11_sheet_153 : decode cX11_sheet 153 = .ok (.iinc 6 1, 3) := by decide +kernel
theorem dX11_sheet_156 : decode cX11_sheet 156 = .ok (.iinc 8 1, 3) := by decide +kernel
theorem dX11_sheet_159 : decode cX11_sheet 159 = .ok (.goto (-113), 3) := by decide +kernel
theorem dX11_sheet_162 : decode cX11_sheet 162 = .ok (.iload_n 1, 1) := by decide +kernel
theorem dX11_sheet_163 : decode cX11_sheet 163 = .ok (.iconst 3, 1) := by decide +kernel
theorem dX11_sheet_164 : decode cX11_sheet 164 = .ok (.if_icmp .ne 8, 3) := by decide +kernel
theorem dX11_sheet_167 : decode cX11_sheet 167 = .ok (.bipush (-3), 2) := by decide +kernel
theorem dX11_sheet_169 : decode cX11_sheet 169 = .ok (.goto 5, 3) := by decide +kernel
theorem dX11_sheet_172 : decode cX11_sheet 172 = .ok (.iload 7, 2) := by decide +kernel
theorem dX11_sheet_174 : decode cX11_sheet 174 = .ok (.ireturn, 1) := by decide +kernel
def fX11_sheet_J129 (k156 : AH → Nat → Int32 → Int32 → Int32 → Int32 → Int32 → Int32 → Int32 → Option (Int32 × AH)) (h : AH) (v0 : Nat) (v1 : Int32) (v2 : Int32) (v4 : Int32) (v5 : Int32) (v6 : Int32) (v7 : Int32) (v8 : Int32) (s0 : Int32) (s1 : Int32) (s2 : Nat) : Option (Int32 × AH) :=
    (sI h 0 s2 s1 s0).bind fun h1 =>
    (gR h1 11 v0 0).bind fun x2 =>
    (aI h1 0 x2 (240 + v8)).bind fun x3 =>
    letF (v7 + x3 : Int32) fun x4 =>
    letF (v5 + v4 : Int32) fun x5 =>
    letF (v6 + 1 : Int32) fun x6 =>
    k156 h1 v0 v1 v2 v4 x5 x6 x4 v8
def fX11_sheet_J91 (k156 : AH → Nat → Int32 → Int32 → Int32 → Int32 → Int32 → Int32 → Int32 → Option (Int32 × AH)) (h : AH) (v0 : Nat) (v1 : Int32) (v2 : Int32) (v4 : Int32) (v5 : Int32) (v6 : Int32) (v7 : Int32) (v8 : Int32) (s0 : Int32) : Option (Int32 × AH) :=
    (gR h 11 v0 0).bind fun x7 =>
    if v1 = 3 then (
      fX11_sheet_J129 k156 h v0 v1 v2 v4 v5 v6 v7 v8 0 (240 + v8) x7
    ) else (
      if v6 < v2 then (
        fX11_sheet_J129 k156 h v0 v1 v2 v4 v5 v6 v7 v8 (jmax 0 (jmin 9 s0)) (240 + v8) x7
      ) else (
        fX11_sheet_J129 k156 h v0 v1 v2 v4 v5 v6 v7 v8 0 (240 + v8) x7
      )
    )
def fX11_sheet_L46 (k162 : AH → Int32 → Int32 → Option (Int32 × AH)) : Nat → AH → Nat → Int32 → Int32 → Int32 → Int32 → Int32 → Int32 → Int32 → Option (Int32 × AH)
  | 0, _, _, _, _, _, _, _, _, _ => none
  | n + 1, h, v0, v1, v2, v4, v5, v6, v7, v8 =>
    if 24 ≤ v8 then (
      k162 h v1 v7
    ) else (
      (gR h 11 v0 0).bind fun x8 =>
      (fX11_isThere h x8 v8).bind fun q9 =>
      if q9 = true then (
        if v1 = 0 then (
          fX11_sheet_J91
            (fun h18 x10 x11 x12 x13 x14 x15 x16 x17 =>
              letF (x17 + 1 : Int32) fun x19 =>
              fX11_sheet_L46 k162 n h18 x10 x11 x12 x13 x14 x15 x16 x19)
            h v0 v1 v2 v4 v5 v6 v7 v8 (Int8.toInt32 (Int32.toInt8 v5))
        ) else (
          if v1 = 1 then (
            fX11_sheet_J91
              (fun h28 x20 x21 x22 x23 x24 x25 x26 x27 =>
                letF (x27 + 1 : Int32) fun x29 =>
                fX11_sheet_L46 k162 n h28 x20 x21 x22 x23 x24 x25 x26 x29)
              h v0 v1 v2 v4 v5 v6 v7 v8 (Int16.toInt32 (Int32.toInt16 v5))
          ) else (
            fX11_sheet_J91
              (fun h38 x30 x31 x32 x33 x34 x35 x36 x37 =>
                letF (x37 + 1 : Int32) fun x39 =>
                fX11_sheet_L46 k162 n h38 x30 x31 x32 x33 x34 x35 x36 x39)
              h v0 v1 v2 v4 v5 v6 v7 v8 v5
          )
        )
      ) else (
        letF (v8 + 1 : Int32) fun x40 =>
        fX11_sheet_L46 k162 n h v0 v1 v2 v4 v5 v6 v7 x40
      )
    )
def fX11_sheet_J34 (h : AH) (v0 : Nat) (v1 : Int32) (v2 : Int32) (v3 : Int32) (v4 : Int32) : Option (Int32 × AH) :=
    fX11_sheet_L46
      (fun h43 x41 x42 =>
        if x41 = 3 then (
          some (((-3), h43))
        ) else (
          some ((x42, h43))
        ))
      FU h v0 v1 v2 v4 v3 0 0 0
def fX11_sheet (h : AH) (a0 : Nat) (a1 : Int32) (a2 : Int32) (a3 : Int32) (a4 : Int32) : Option (Int32 × AH) :=
  if hasC h 11 a0 = true then (
    (pF h 11 a0 5 (.int 0)).bind fun h44 =>
    (fX11_in h44 a1 0 3).bind fun q45 =>
    if q45 = true then (
      if a2 ≤ 24 then (
        if 3 ≤ a1 then (
          fX11_sheet_J34 h44 a0 a1 a2 a3 a4
        ) else (
          if 0 ≤ a2 then (
            fX11_sheet_J34 h44 a0 a1 a2 a3 a4
          ) else (
            some (((-2), h44))
          )
        )
      ) else (
        some (((-1), h44))
      )
    ) else (
      some (((-1), h44))
    )
  ) else none
set_option maxHeartbeats 4000000 in
theorem gX11_sheet_J129 {Y : YT} {X : XT} (C : CT Y X RX11 cX11_sheet 10) (O : RO X 2 0 0) {r : Int32 × AH} (E : RX Y X (some .int) (some (.int r.1)) r.2 0 0) {k156 : AH → Nat → Int32 → Int32 → Int32 → Int32 → Int32 → Int32 → Int32 → Option (Int32 × AH)} (hk156 : ∀ (h : AH) (v0 : Nat) (v1 : Int32) (v2 : Int32) (v4 : Int32) (v5 : Int32) (v6 : Int32) (v7 : Int32) (v8 : Int32), GO Y X 10 r h 0 0 156 [(0, .ref v0), (1, .int v1), (2, .int v2), (4, .int v4), (5, .int v5), (6, .int v6), (7, .int v7), (8, .int v8)] [] (k156 h v0 v1 v2 v4 v5 v6 v7 v8)) : ∀ (h : AH) (v0 : Nat) (v1 : Int32) (v2 : Int32) (v4 : Int32) (v5 : Int32) (v6 : Int32) (v7 : Int32) (v8 : Int32) (s0 : Int32) (s1 : Int32) (s2 : Nat), GO Y X 10 r h 0 0 129 [(0, .ref v0), (1, .int v1), (2, .int v2), (4, .int v4), (5, .int v5), (6, .int v6), (7, .int v7), (8, .int v8)] [.int s0, .int s1, .ref s2] (fX11_sheet_J129 k156 h v0 v1 v2 v4 v5 v6 v7 v8 s0 s1 s2) := by
  intro h v0 v1 v2 v4 v5 v6 v7 v8 s0 s1 s2
  unfold fX11_sheet_J129
  refine go_iast (pc := 129) C dX11_sheet_129 (fun h1 => ?_)
  refine go_iload (pc := 130) C 6 dX11_sheet_130 rfl ?_
  refine go_aload_n (pc := 132) C 0 dX11_sheet_132 rfl ?_
  refine go_gR (pc := 133) C fdX11_9 dX11_sheet_133 (fun x2 => ?_)
  refine go_sipush (pc := 136) C dX11_sheet_136 ks_240 ?_
  refine go_iload (pc := 139) C 7 dX11_sheet_139 rfl ?_
  refine go_iadd (pc := 141) C dX11_sheet_141 ?_
  refine go_iald (pc := 142) C dX11_sheet_142 (fun x3 => ?_)
  refine go_iadd (pc := 143) C dX11_sheet_143 ?_
  refine go_istoreL (pc := 144) C dX11_sheet_144 (by decide) (fun x4 => [(7, .int x4), (0, .ref v0), (1, .int v1), (2, .int v2), (4, .int v4), (5, .int v5), (6, .int v6), (8, .int v8)]) (fun _ => rfl) (fun x4 => ?_)
  refine go_iload (pc := 146) C 5 dX11_sheet_146 rfl ?_
  refine go_iload (pc := 148) C 4 dX11_sheet_148 rfl ?_
  refine go_iadd (pc := 150) C dX11_sheet_150 ?_
  refine go_istoreL (pc := 151) C dX11_sheet_151 (by decide) (fun x5 => [(5, .int x5), (7, .int x4), (0, .ref v0), (1, .int v1), (2, .int v2), (4, .int v4), (6, .int v6), (8, .int v8)]) (fun _ => rfl) (fun x5 => ?_)
  refine go_iincL (pc := 153) C 6 dX11_sheet_153 rfl ki_1 (by decide) (fun x6 => [(6, .int x6), (5, .int x5), (7, .int x4), (0, .ref v0), (1, .int v1), (2, .int v2), (4, .int v4), (8, .int v8)]) (fun _ => rfl) (fun x6 => ?_)
  refine go_sub (ls' := [(0, .ref v0), (1, .int v1), (2, .int v2), (4, .int v4), (5, .int x5), (6, .int x6), (7, .int x4), (8, .int v8)]) [3, 4, 5, 6, 1, 0, 2, 7] rfl ?_
  exact hk156 h1 v0 v1 v2 v4 x5 x6 x4 v8
set_option maxHeartbeats 4000000 in
theorem gX11_sheet_J91 {Y : YT} {X : XT} (C : CT Y X RX11 cX11_sheet 10) (O : RO X 2 0 0) {r : Int32 × AH} (E : RX Y X (some .int) (some (.int r.1)) r.2 0 0) {k156 : AH → Nat → Int32 → Int32 → Int32 → Int32 → Int32 → Int32 → Int32 → Option (Int32 × AH)} (hk156 : ∀ (h : AH) (v0 : Nat) (v1 : Int32) (v2 : Int32) (v4 : Int32) (v5 : Int32) (v6 : Int32) (v7 : Int32) (v8 : Int32), GO Y X 10 r h 0 0 156 [(0, .ref v0), (1, .int v1), (2, .int v2), (4, .int v4), (5, .int v5), (6, .int v6), (7, .int v7), (8, .int v8)] [] (k156 h v0 v1 v2 v4 v5 v6 v7 v8)) : ∀ (h : AH) (v0 : Nat) (v1 : Int32) (v2 : Int32) (v4 : Int32) (v5 : Int32) (v6 : Int32) (v7 : Int32) (v8 : Int32) (s0 : Int32), GO Y X 10 r h 0 0 91 [(0, .ref v0), (1, .int v1), (2, .int v2), (4, .int v4), (5, .int v5), (6, .int v6), (7, .int v7), (8, .int v8)] [.int s0] (fX11_sheet_J91 k156 h v0 v1 v2 v4 v5 v6 v7 v8 s0) := by
  intro h v0 v1 v2 v4 v5 v6 v7 v8 s0
  unfold fX11_sheet_J91
  refine go_istore (ls' := [(9, .int s0), (0, .ref v0), (1, .int v1), (2, .int v2), (4, .int v4), (5, .int v5), (6, .int v6), (7, .int v7), (8, .int v8)]) (pc := 91) C dX11_sheet_91 (by decide) rfl ?_
  refine go_aload_n (pc := 93) C 1 dX11_sheet_93 rfl ?_
  refine go_gR (pc := 94) C fdX11_9 dX11_sheet_94 (fun x7 => ?_)
  refine go_sipush (pc := 97) C dX11_sheet_97 ks_240 ?_
  refine go_iload (pc := 100) C 8 dX11_sheet_100 rfl ?_
  refine go_iadd (pc := 102) C dX11_sheet_102 ?_
  refine go_iload_n (pc := 103) C 2 dX11_sheet_103 rfl ?_
  refine go_iconst (pc := 104) C dX11_sheet_104 ki_3 ?_
  refine go_icmp_eq (pc := 105) C 114 dX11_sheet_105 (by decide) (fun _ => ?_) (fun _ => ?_)
  · refine go_iconst (pc := 114) C dX11_sheet_114 ki_0 ?_
    refine go_goto (pc := 115) C 129 dX11_sheet_115 (by decide) ?_
    refine go_sub (ls' := [(0, .ref v0), (1, .int v1), (2, .int v2), (4, .int v4), (5, .int v5), (6, .int v6), (7, .int v7), (8, .int v8)]) [1, 2, 3, 4, 5, 6, 7, 8] rfl ?_
    refine gX11_sheet_J129 C O E (hk156) h v0 v1 v2 v4 v5 v6 v7 v8 0 (240 + v8) x7
  · refine go_iload (pc := 108) C 6 dX11_sheet_108 rfl ?_
    refine go_iload_n (pc := 110) C 3 dX11_sheet_110 rfl ?_
    refine go_icmp_lt (pc := 111) C 118 dX11_sheet_111 (by decide) (fun _ => ?_) (fun _ => ?_)
    · refine go_iconst (pc := 118) C dX11_sheet_118 ki_0 ?_
      refine go_bipush (pc := 119) C dX11_sheet_119 kb_9 ?_
      refine go_iload (pc := 121) C 0 dX11_sheet_121 rfl ?_
      refine go_mmin (pc := 123) C O w_1564 w_441 w_102 w_442 ⟨by decide, by decide, by decide⟩ (Nat.le_of_ble_eq_true rfl) dX11_sheet_123 ?_
      refine go_mmax (pc := 126) C O w_1565 w_524 w_102 w_525 ⟨by decide, by decide, by decide⟩ (Nat.le_of_ble_eq_true rfl) dX11_sheet_126 ?_
      refine go_sub (ls' := [(0, .ref v0), (1, .int v1), (2, .int v2), (4, .int v4), (5, .int v5), (6, .int v6), (7, .int v7), (8, .int v8)]) [1, 2, 3, 4, 5, 6, 7, 8] rfl ?_
      refine gX11_sheet_J129 C O E (hk156) h v0 v1 v2 v4 v5 v6 v7 v8 (jmax 0 (jmin 9 s0)) (240 + v8) x7
    · refine go_iconst (pc := 114) C dX11_sheet_114 ki_0 ?_
      refine go_goto (pc := 115) C 129 dX11_sheet_115 (by decide) ?_
      refine go_sub (ls' := [(0, .ref v0), (1, .int v1), (2, .int v2), (4, .int v4), (5, .int v5), (6, .int v6), (7, .int v7), (8, .int v8)]) [1, 2, 3, 4, 5, 6, 7, 8] rfl ?_
      refine gX11_sheet_J129 C O E (hk156) h v0 v1 v2 v4 v5 v6 v7 v8 0 (240 + v8) x7
set_option maxHeartbeats 4000000 in
theorem gX11_sheet_L46 {Y : YT} {X : XT} (C : CT Y X RX11 cX11_sheet 10) (O : RO X 2 0 0) {r : Int32 × AH} (E : RX Y X (some .int) (some (.int r.1)) r.2 0 0) {k162 : AH → Int32 → Int32 → Option (Int32 × AH)} (hk162 : ∀ (h : AH) (v1 : Int32) (v7 : Int32), GO Y X 10 r h 0 0 162 [(1, .int v1), (7, .int v7)] [] (k162 h v1 v7)) : ∀ (n : Nat) (h : AH) (v0 : Nat) (v1 : Int32) (v2 : Int32) (v4 : Int32) (v5 : Int32) (v6 : Int32) (v7 : Int32) (v8 : Int32), GO Y X 10 r h 0 0 46 [(0, .ref v0), (1, .int v1), (2, .int v2), (4, .int v4), (5, .int v5), (6, .int v6), (7, .int v7), (8, .int v8)] [] (fX11_sheet_L46 k162 n h v0 v1 v2 v4 v5 v6 v7 v8) := by
  intro n
  induction n with
  | zero => intros; exact go_none _ _ _
  | succ n ih =>
    intro h v0 v1 v2 v4 v5 v6 v7 v8
    rw [fX11_sheet_L46]
    refine go_iload (pc := 46) C 7 dX11_sheet_46 rfl ?_
    refine go_bipush (pc := 48) C dX11_sheet_48 kb_24 ?_
    refine go_icmp_ge (pc := 50) C 162 dX11_sheet_50 (by decide) (fun _ => ?_) (fun _ => ?_)
    · refine go_sub (ls' := [(1, .int v1), (7, .int v7)]) [1, 6] rfl ?_
      exact hk162 h v1 v7
    · refine go_aload_n (pc := 53) C 0 dX11_sheet_53 rfl ?_
      refine go_gR (pc := 54) C fdX11_9 dX11_sheet_54 (fun x8 => ?_)
      refine go_iload (pc := 57) C 7 dX11_sheet_57 rfl ?_
      refine go_bind (fun q9 hq9 => ?_)
      refine go_callS (rest := []) (st' := [.int (b2i q9)]) (c' := 0) (s' := 0) (pc := 59) C O miX11_88 w_1485 [.ref x8, .int v8] rfl (mX11_isThere hq9) dX11_sheet_59 ⟨by decide, by decide, by decide, by decide⟩ rfl (Nat.le_of_ble_eq_true rfl) rfl ⟨rfl, rfl⟩ ?_
      refine go_ifZ_ne (pc := 62) C 68 dX11_sheet_62 (by decide) (fun _ => ?_) (fun _ => ?_)
      · refine go_iload_n (pc := 68) C 1 dX11_sheet_68 rfl ?_
        refine go_if_ne (pc := 69) C 78 dX11_sheet_69 (by decide) (fun _ => ?_) (fun _ => ?_)
        · refine go_iload (pc := 72) C 4 dX11_sheet_72 rfl ?_
          refine go_i2b (pc := 74) C dX11_sheet_74 ?_
          refine go_goto (pc := 75) C 91 dX11_sheet_75 (by decide) ?_
          refine go_sub (ls' := [(0, .ref v0), (1, .int v1), (2, .int v2), (4, .int v4), (5, .int v5), (6, .int v6), (7, .int v7), (8, .int v8)]) [0, 1, 2, 3, 4, 5, 6, 7] rfl ?_
          refine gX11_sheet_J91 C O E (fun h18 x10 x11 x12 x13 x14 x15 x16 x17 => ?_) h v0 v1 v2 v4 v5 v6 v7 v8 (Int8.toInt32 (Int32.toInt8 v5))
          · refine go_iincL (pc := 156) C 7 dX11_sheet_156 rfl ki_1 (by decide) (fun x19 => [(8, .int x19), (0, .ref x10), (1, .int x11), (2, .int x12), (4, .int x13), (5, .int x14), (6, .int x15), (7, .int x16)]) (fun _ => rfl) (fun x19 => ?_)
            refine go_goto (pc := 159) C 46 dX11_sheet_159 (by decide) ?_
            refine go_sub (ls' := [(0, .ref x10), (1, .int x11), (2, .int x12), (4, .int x13), (5, .int x14), (6, .int x15), (7, .int x16), (8, .int x19)]) [1, 2, 3, 4, 5, 6, 7, 0] rfl ?_
            exact ih h18 x10 x11 x12 x13 x14 x15 x16 x19
        · refine go_iload_n (pc := 78) C 1 dX11_sheet_78 rfl ?_
          refine go_iconst (pc := 79) C dX11_sheet_79 ki_1 ?_
          refine go_icmp_ne (pc := 80) C 89 dX11_sheet_80 (by decide) (fun _ => ?_) (fun _ => ?_)
          · refine go_iload (pc := 83) C 4 dX11_sheet_83 rfl ?_
            refine go_i2s (pc := 85) C dX11_sheet_85 ?_
            refine go_goto (pc := 86) C 91 dX11_sheet_86 (by decide) ?_
            refine go_sub (ls' := [(0, .ref v0), (1, .int v1), (2, .int v2), (4, .int v4), (5, .int v5), (6, .int v6), (7, .int v7), (8, .int v8)]) [0, 1, 2, 3, 4, 5, 6, 7] rfl ?_
            refine gX11_sheet_J91 C O E (fun h28 x20 x21 x22 x23 x24 x25 x26 x27 => ?_) h v0 v1 v2 v4 v5 v6 v7 v8 (Int16.toInt32 (Int32.toInt16 v5))
            · refine go_iincL (pc := 156) C 7 dX11_sheet_156 rfl ki_1 (by decide) (fun x29 => [(8, .int x29), (0, .ref x20), (1, .int x21), (2, .int x22), (4, .int x23), (5, .int x24), (6, .int x25), (7, .int x26)]) (fun _ => rfl) (fun x29 => ?_)
              refine go_goto (pc := 159) C 46 dX11_sheet_159 (by decide) ?_
              refine go_sub (ls' := [(0, .ref x20), (1, .int x21), (2, .int x22), (4, .int x23), (5, .int x24), (6, .int x25), (7, .int x26), (8, .int x29)]) [1, 2, 3, 4, 5, 6, 7, 0] rfl ?_
              exact ih h28 x20 x21 x22 x23 x24 x25 x26 x29
          · refine go_iload (pc := 89) C 4 dX11_sheet_89 rfl ?_
            refine go_sub (ls' := [(0, .ref v0), (1, .int v1), (2, .int v2), (4, .int v4), (5, .int v5), (6, .int v6), (7, .int v7), (8, .int v8)]) [0, 1, 2, 3, 4, 5, 6, 7] rfl ?_
            refine gX11_sheet_J91 C O E (fun h38 x30 x31 x32 x33 x34 x35 x36 x37 => ?_) h v0 v1 v2 v4 v5 v6 v7 v8 v5
            · refine go_iincL (pc := 156) C 7 dX11_sheet_156 rfl ki_1 (by decide) (fun x39 => [(8, .int x39), (0, .ref x30), (1, .int x31), (2, .int x32), (4, .int x33), (5, .int x34), (6, .int x35), (7, .int x36)]) (fun _ => rfl) (fun x39 => ?_)
              refine go_goto (pc := 159) C 46 dX11_sheet_159 (by decide) ?_
              refine go_sub (ls' := [(0, .ref x30), (1, .int x31), (2, .int x32), (4, .int x33), (5, .int x34), (6, .int x35), (7, .int x36), (8, .int x39)]) [1, 2, 3, 4, 5, 6, 7, 0] rfl ?_
              exact ih h38 x30 x31 x32 x33 x34 x35 x36 x39
      · refine go_goto (pc := 65) C 156 dX11_sheet_65 (by decide) ?_
        refine go_iincL (pc := 156) C 7 dX11_sheet_156 rfl ki_1 (by decide) (fun x40 => [(8, .int x40), (0, .ref v0), (1, .int v1), (2, .int v2), (4, .int v4), (5, .int v5), (6, .int v6), (7, .int v7)]) (fun _ => rfl) (fun x40 => ?_)
        refine go_goto (pc := 159) C 46 dX11_sheet_159 (by decide) ?_
        refine go_sub (ls' := [(0, .ref v0), (1, .int v1), (2, .int v2), (4, .int v4), (5, .int v5), (6, .int v6), (7, .int v7), (8, .int x40)]) [1, 2, 3, 4, 5, 6, 7, 0] rfl ?_
        exact ih h v0 v1 v2 v4 v5 v6 v7 x40
set_option maxHeartbeats 4000000 in
theorem gX11_sheet_J34 {Y : YT} {X : XT} (C : CT Y X RX11 cX11_sheet 10) (O : RO X 2 0 0) {r : Int32 × AH} (E : RX Y X (some .int) (some (.int r.1)) r.2 0 0) : ∀ (h : AH) (v0 : Nat) (v1 : Int32) (v2 : Int32) (v3 : Int32) (v4 : Int32), GO Y X 10 r h 0 0 34 [(0, .ref v0), (1, .int v1), (2, .int v2), (3, .int v3), (4, .int v4)] [] (fX11_sheet_J34 h v0 v1 v2 v3 v4) := by
  intro h v0 v1 v2 v3 v4
  unfold fX11_sheet_J34
  refine go_iload_n (pc := 34) C 3 dX11_sheet_34 rfl ?_
  refine go_istore (ls' := [(5, .int v3), (0, .ref v0), (1, .int v1), (2, .int v2), (3, .int v3), (4, .int v4)]) (pc := 35) C dX11_sheet_35 (by decide) rfl ?_
  refine go_iconst (pc := 37) C dX11_sheet_37 ki_0 ?_
  refine go_istore (ls' := [(6, .int 0), (5, .int v3), (0, .ref v0), (1, .int v1), (2, .int v2), (3, .int v3), (4, .int v4)]) (pc := 38) C dX11_sheet_38 (by decide) rfl ?_
  refine go_iconst (pc := 40) C dX11_sheet_40 ki_0 ?_
  refine go_istore (ls' := [(7, .int 0), (6, .int 0), (5, .int v3), (0, .ref v0), (1, .int v1), (2, .int v2), (3, .int v3), (4, .int v4)]) (pc := 41) C dX11_sheet_41 (by decide) rfl ?_
  refine go_iconst (pc := 43) C dX11_sheet_43 ki_0 ?_
  refine go_istore (ls' := [(8, .int 0), (7, .int 0), (6, .int 0), (5, .int v3), (0, .ref v0), (1, .int v1), (2, .int v2), (3, .int v3), (4, .int v4)]) (pc := 44) C dX11_sheet_44 (by decide) rfl ?_
  refine go_sub (ls' := [(0, .ref v0), (1, .int v1), (2, .int v2), (4, .int v4), (5, .int v3), (6, .int 0), (7, .int 0), (8, .int 0)]) [4, 5, 6, 8, 3, 2, 1, 0] rfl ?_
  refine gX11_sheet_L46 C O E (fun h43 x41 x42 => ?_) FU h v0 v1 v2 v4 v3 0 0 0
  · refine go_iload_n (pc := 162) C 0 dX11_sheet_162 rfl ?_
    refine go_iconst (pc := 163) C dX11_sheet_163 ki_3 ?_
    refine go_icmp_ne (pc := 164) C 172 dX11_sheet_164 (by decide) (fun _ => ?_) (fun _ => ?_)
    · refine go_bipush (pc := 167) C dX11_sheet_167 kb_m3 ?_
      refine go_goto (pc := 169) C 174 dX11_sheet_169 (by decide) ?_
      exact go_iret (w := wIh) (pc := 174) C E (((-3), h43)) ((-3)) dX11_sheet_174 rfl
    · refine go_iload (pc := 172) C 1 dX11_sheet_172 rfl ?_
      exact go_iret (w := wIh) (pc := 174) C E ((x42, h43)) x42 dX11_sheet_174 rfl
set_option maxHeartbeats 4000000 in
theorem mX11_sheet {h : AH} {a0 : Nat} {a1 : Int32} {a2 : Int32} {a3 : Int32} {a4 : Int32} {r : Int32 × AH} (hr : fX11_sheet h a0 a1 a2 a3 a4 = some r) : hasC h 11 a0 = true ∧ MC yX11_sheet cX11_sheet 10 (some .int) 2 0 0 [.ref a0, .int a1, .int a2, .int a3, .int a4] h (some (.int r.1)) r.2 := by
  unfold fX11_sheet at hr
  obtain ⟨hc, hr⟩ := if_some hr
  refine ⟨hc, mc_of (l0 := [(0, .ref a0), (1, .int a1), (2, .int a2), (3, .int a3), (4, .int a4)]) rfl pn_X11 (Nat.le_of_ble_eq_true rfl) (fun Y X C E O hnm => go_run hr ?_)⟩
  have C : CT Y X RX11 cX11_sheet 10 := C
  refine go_aload_n (pc := 0) C 0 dX11_sheet_0 rfl ?_
  refine go_iconst (pc := 1) C dX11_sheet_1 ki_0 ?_
  refine go_pI (pc := 2) C fpX11_77 dX11_sheet_2 (fun h44 => ?_)
  refine go_iload_n (pc := 5) C 1 dX11_sheet_5 rfl ?_
  refine go_iconst (pc := 6) C dX11_sheet_6 ki_0 ?_
  refine go_iconst (pc := 7) C dX11_sheet_7 ki_3 ?_
  refine go_bind (fun q45 hq45 => ?_)
  refine go_callS (rest := []) (st' := [.int (b2i q45)]) (c' := 0) (s' := 0) (pc := 8) C O miX11_84 w_1437 [.int a1, .int 0, .int 3] rfl (mX11_in hq45) dX11_sheet_8 ⟨by decide, by decide, by decide, by decide⟩ rfl (Nat.le_of_ble_eq_true rfl) rfl ⟨rfl, rfl⟩ ?_
  refine go_ifZ_eq (pc := 11) C 20 dX11_sheet_11 (by decide) (fun _ => ?_) (fun _ => ?_)
  · refine go_iload_n (pc := 14) C 2 dX11_sheet_14 rfl ?_
    refine go_bipush (pc := 15) C dX11_sheet_15 kb_24 ?_
    refine go_icmp_le (pc := 17) C 22 dX11_sheet_17 (by decide) (fun _ => ?_) (fun _ => ?_)
    · refine go_iload_n (pc := 22) C 1 dX11_sheet_22 rfl ?_
      refine go_iconst (pc := 23) C dX11_sheet_23 ki_3 ?_
      refine go_icmp_ge (pc := 24) C 34 dX11_sheet_24 (by decide) (fun _ => ?_) (fun _ => ?_)
      · refine go_sub (ls' := [(0, .ref a0), (1, .int a1), (2, .int a2), (3, .int a3), (4, .int a4)]) [0, 1, 2, 3, 4] rfl ?_
        refine gX11_sheet_J34 C O E h44 a0 a1 a2 a3 a4
      · refine go_iload_n (pc := 27) C 2 dX11_sheet_27 rfl ?_
        refine go_if_ge (pc := 28) C 34 dX11_sheet_28 (by decide) (fun _ => ?_) (fun _ => ?_)
        · refine go_sub (ls' := [(0, .ref a0), (1, .int a1), (2, .int a2), (3, .int a3), (4, .int a4)]) [0, 1, 2, 3, 4] rfl ?_
          refine gX11_sheet_J34 C O E h44 a0 a1 a2 a3 a4
        · refine go_bipush (pc := 31) C dX11_sheet_31 kb_m2 ?_
          exact go_iret (w := wIh) (pc := 33) C E (((-2), h44)) ((-2)) dX11_sheet_33 rfl
    · refine go_iconst (pc := 20) C dX11_sheet_20 ki_m1 ?_
      exact go_iret (w := wIh) (pc := 21) C E (((-1), h44)) ((-1)) dX11_sheet_21 rfl
  · refine go_iconst (pc := 20) C dX11_sheet_20 ki_m1 ?_
    exact go_iret (w := wIh) (pc := 21) C E (((-1), h44)) ((-1)) dX11_sheet_21 rfl
theorem dX11_refusesFetch_0 : decode cX11_refusesFetch 0 = .ok (.aload_n 0, 1) := by decide +kernel
theorem dX11_refusesFetch_1 : decode cX11_refusesFetch 1 = .ok (.iload_n 1, 1) := by decide +kernel
theorem dX11_refusesFetch_2 : decode cX11_refusesFetch 2 = .ok (.iload_n 2, 1) := by decide +kernel
theorem dX11_refusesFetch_3 : decode cX11_refusesFetch 3 = .ok (.invokestatic 259, 3) := by decide +kernel
theorem dX11_refusesFetch_6 : decode cX11_refusesFetch 6 = .ok (.aload_n 0, 1) := by decide +kernel
theorem dX11_refusesFetch_7 : decode cX11_refusesFetch 7 = .ok (.iload_n 1, 1) := by decide +kernel
theorem dX11_refusesFetch_8 : decode cX11_refusesFetch 8 = .ok (.invokestatic 116, 3) := by decide +kernel
theorem dX11_refusesFetch_11 : decode cX11_refusesFetch 11 = .ok (.if_icmp .ge 5, 3) := by decide +kernel
theorem dX11_refusesFetch_14 : decode cX11_refusesFetch 14 = .ok (.iconst 0, 1) := by decide +kernel
theorem dX11_refusesFetch_15 : decode cX11_refusesFetch 15 = .ok (.ireturn, 1) := by decide +kernel
theorem dX11_refusesFetch_16 : decode cX11_refusesFetch 16 = .ok (.aload_n 0, 1) := by decide +kernel
theorem dX11_refusesFetch_17 : decode cX11_refusesFetch 17 = .ok (.sipush 216, 3) := by decide +kernel
theorem dX11_refusesFetch_20 : decode cX11_refusesFetch 20 = .ok (.aload_n 0, 1) := by decide +kernel
theorem dX11_refusesFetch_21 : decode cX11_refusesFetch 21 = .ok (.iload_n 1, 1) := by decide +kernel
theorem dX11_refusesFetch_22 : decode cX11_refusesFetch 22 = .ok (.invokestatic 262, 3) := by decide +kernel
theorem dX11_refusesFetch_25 : decode cX11_refusesFetch 25 = .ok (.iadd, 1) := by decide +kernel
theorem dX11_refusesFetch_26 : decode cX11_refusesFetch 26 = .ok (.iaload, 1) := by decide +kernel
theorem dX11_refusesFetch_27 : decode cX11_refusesFetch 27 = .ok (.istore_n 3, 1) := by decide +kernel
theorem dX11_refusesFetch_28 : decode cX11_refusesFetch 28 = .ok (.iload_n 3, 1) := by decide +kernel
theorem dX11_refusesFetch_29 : decode cX11_refusesFetch 29 = .ok (.iconst 2, 1) := by decide +kernel
theorem dX11_refusesFetch_30 : decode cX11_refusesFetch 30 = .ok (.if_icmp .ne 8, 3) := by decide +kernel
theorem dX11_refusesFetch_33 : decode cX11_refusesFetch 33 = .ok (.bipush (-3), 2) := by decide +kernel
theorem dX11_refusesFetch_35 : decode cX11_refusesFetch 35 = .ok (.goto 14, 3) := by decide +kernel
theorem dX11_refusesFetch_38 : decode cX11_refusesFetch 38 = .ok (.iload_n 3, 1) := by decide +kernel
theorem dX11_refusesFetch_39 : decode cX11_refusesFetch 39 = .ok (.iconst 3, 1) := by decide +kernel
theorem dX11_refusesFetch_40 : decode cX11_refusesFetch 40 = .ok (.if_icmp .ne 8, 3) := by decide +kernel
theorem dX11_refusesFetch_43 : decode cX11_refusesFetch 43 = .ok (.bipush (-4), 2) := by decide +kernel
theorem dX11_refusesFetch_45 : decode cX11_refusesFetch 45 = .ok (.goto 4, 3) := by decide +kernel
theorem dX11_refusesFetch_48 : decode cX11_refusesFetch 48 = .ok (.iconst 0, 1) := by decide +kernel
theorem dX11_refusesFetch_49 : decode cX11_refusesFetch 49 = .ok (.ireturn, 1) := by decide +kernel
def fX11_refusesFetch (h : AH) (a0 : Nat) (a1 : Int32) (a2 : Int32) : Option (Int32) :=
  (fX11_placeOf h a0 a1 a2).bind fun q1 =>
  (fX11_lengthOf h a0 a1).bind fun q2 =>
  if q2 ≤ q1 then (
    (fX11_lastOf h a0 a1).bind fun q3 =>
    (aI h 0 a0 (216 + q3)).bind fun x4 =>
    if x4 = 2 then (
      some ((-3))
    ) else (
      if x4 = 3 then (
        some ((-4))
      ) else (
        some 0
      )
    )
  ) else (
    some 0
  )
set_option maxHeartbeats 4000000 in
theorem mX11_refusesFetch {h : AH} {a0 : Nat} {a1 : Int32} {a2 : Int32} {r : Int32} (hr : fX11_refusesFetch h a0 a1 a2 = some r) : MC yX11_refusesFetch cX11_refusesFetch 4 (some .int) 3 0 0 [.ref a0, .int a1, .int a2] h (some (.int r)) h := by
  unfold fX11_refusesFetch at hr
  refine mc_of (l0 := [(0, .ref a0), (1, .int a1), (2, .int a2)]) rfl pn_X11 (Nat.le_of_ble_eq_true rfl) (fun Y X C E O hnm => go_run hr ?_)
  have C : CT Y X RX11 cX11_refusesFetch 4 := C
  refine go_aload_n (pc := 0) C 0 dX11_refusesFetch_0 rfl ?_
  refine go_iload_n (pc := 1) C 1 dX11_refusesFetch_1 rfl ?_
  refine go_iload_n (pc := 2) C 2 dX11_refusesFetch_2 rfl ?_
  refine go_bind (fun q1 hq1 => ?_)
  refine go_callS (rest := []) (st' := [.int q1]) (c' := 0) (s' := 0) (pc := 3) C O miX11_259 w_1602 [.ref a0, .int a1, .int a2] rfl (mX11_placeOf hq1) dX11_refusesFetch_3 ⟨by decide, by decide, by decide, by decide⟩ rfl (Nat.le_of_ble_eq_true rfl) rfl ⟨rfl, rfl⟩ ?_
  refine go_aload_n (pc := 6) C 0 dX11_refusesFetch_6 rfl ?_
  refine go_iload_n (pc := 7) C 1 dX11_refusesFetch_7 rfl ?_
  refine go_bind (fun q2 hq2 => ?_)
  refine go_callS (rest := [.int q1]) (st' := [.int q2, .int q1]) (c' := 0) (s' := 0) (pc := 8) C O miX11_116 w_1555 [.ref a0, .int a1] rfl (mX11_lengthOf hq2) dX11_refusesFetch_8 ⟨by decide, by decide, by decide, by decide⟩ rfl (Nat.le_of_ble_eq_true rfl) rfl ⟨rfl, rfl⟩ ?_
  refine go_icmp_ge (pc := 11) C 16 dX11_refusesFetch_11 (by decide) (fun _ => ?_) (fun _ => ?_)
  · refine go_aload_n (pc := 16) C 0 dX11_refusesFetch_16 rfl ?_
    refine go_sipush (pc := 17) C dX11_refusesFetch_17 ks_216 ?_
    refine go_aload_n (pc := 20) C 0 dX11_refusesFetch_20 rfl ?_
    refine go_iload_n (pc := 21) C 1 dX11_refusesFetch_21 rfl ?_
    refine go_bind (fun q3 hq3 => ?_)
    refine go_callS (rest := [.int 216, .ref a0]) (st' := [.int q3, .int 216, .ref a0]) (c' := 0) (s' := 0) (pc := 22) C O miX11_262 w_1605 [.ref a0, .int a1] rfl (mX11_lastOf hq3) dX11_refusesFetch_22 ⟨by decide, by decide, by decide, by decide⟩ rfl (Nat.le_of_ble_eq_true rfl) rfl ⟨rfl, rfl⟩ ?_
    refine go_iadd (pc := 25) C dX11_refusesFetch_25 ?_
    refine go_iald (pc := 26) C dX11_refusesFetch_26 (fun x4 => ?_)
    refine go_istore_n (ls' := [(3, .int x4), (0, .ref a0), (1, .int a1), (2, .int a2)]) (pc := 27) C dX11_refusesFetch_27 (by decide) rfl ?_
    refine go_iload_n (pc := 28) C 0 dX11_refusesFetch_28 rfl ?_
    refine go_iconst (pc := 29) C dX11_refusesFetch_29 ki_2 ?_
    refine go_icmp_ne (pc := 30) C 38 dX11_refusesFetch_30 (by decide) (fun _ => ?_) (fun _ => ?_)
    · refine go_bipush (pc := 33) C dX11_refusesFetch_33 kb_m3 ?_
      refine go_goto (pc := 35) C 49 dX11_refusesFetch_35 (by decide) ?_
      exact go_iret (w := (wI h)) (pc := 49) C E ((-3)) ((-3)) dX11_refusesFetch_49 rfl
    · refine go_iload_n (pc := 38) C 0 dX11_refusesFetch_38 rfl ?_
      refine go_iconst (pc := 39) C dX11_refusesFetch_39 ki_3 ?_
      refine go_icmp_ne (pc := 40) C 48 dX11_refusesFetch_40 (by decide) (fun _ => ?_) (fun _ => ?_)
      · refine go_bipush (pc := 43) C dX11_refusesFetch_43 kb_m4 ?_
        refine go_goto (pc := 45) C 49 dX11_refusesFetch_45 (by decide) ?_
        exact go_iret (w := (wI h)) (pc := 49) C E ((-4)) ((-4)) dX11_refusesFetch_49 rfl
      · refine go_iconst (pc := 48) C dX11_refusesFetch_48 ki_0 ?_
        exact go_iret (w := (wI h)) (pc := 49) C E 0 0 dX11_refusesFetch_49 rfl
  · refine go_iconst (pc := 14) C dX11_refusesFetch_14 ki_0 ?_
    exact go_iret (w := (wI h)) (pc := 15) C E 0 0 dX11_refusesFetch_15 rfl
theorem dX11_isFetched_0 : decode cX11_isFetched 0 = .ok (.aload_n 0, 1) := by decide +kernel
theorem dX11_isFetched_1 : decode cX11_isFetched 1 = .ok (.iload_n 1, 1) := by decide +kernel
theorem dX11_isFetched_2 : decode cX11_isFetched 2 = .ok (.iload_n 2, 1) := by decide +kernel
theorem dX11_isFetched_3 : decode cX11_isFetched 3 = .ok (.invokestatic 259, 3) := by decide +kernel
theorem dX11_isFetched_6 : decode cX11_isFetched 6 = .ok (.aload_n 0, 1) := by decide +kernel
theorem dX11_isFetched_7 : decode cX11_isFetched 7 = .ok (.iload_n 1, 1) := by decide +kernel
theorem dX11_isFetched_8 : decode cX11_isFetched 8 = .ok (.invokestatic 116, 3) := by decide +kernel
theorem dX11_isFetched_11 : decode cX11_isFetched 11 = .ok (.if_icmp .ne 22, 3) := by decide +kernel
theorem dX11_isFetched_14 : decode cX11_isFetched 14 = .ok (.aload_n 0, 1) := by decide +kernel
theorem dX11_isFetched_15 : decode cX11_isFetched 15 = .ok (.sipush 216, 3) := by decide +kernel
theorem dX11_isFetched_18 : decode cX11_isFetched 18 = .ok (.aload_n 0, 1) := by decide +kernel
theorem dX11_isFetched_19 : decode cX11_isFetched 19 = .ok (.iload_n 1, 1) := by decide +kernel
theorem dX11_isFetched_20 : decode cX11_isFetched 20 = .ok (.invokestatic 262, 3) := by decide +kernel
theorem dX11_isFetched_23 : decode cX11_isFetched 23 = .ok (.iadd, 1) := by decide +kernel
theorem dX11_isFetched_24 : decode cX11_isFetched 24 = .ok (.iaload, 1) := by decide +kernel
theorem dX11_isFetched_25 : decode cX11_isFetched 25 = .ok (.iconst 1, 1) := by decide +kernel
theorem dX11_isFetched_26 : decode cX11_isFetched 26 = .ok (.if_icmp .ne 7, 3) := by decide +kernel
theorem dX11_isFetched_29 : decode cX11_isFetched 29 = .ok (.iconst 1, 1) := by decide +kernel
theorem dX11_isFetched_30 : decode cX11_isFetched 30 = .ok (.goto 4, 3) := by decide +kernel
theorem dX11_isFetched_33 : decode cX11_isFetched 33 = .ok (.iconst 0, 1) := by decide +kernel
theorem dX11_isFetched_34 : decode cX11_isFetched 34 = .ok (.ireturn, 1) := by decide +kernel
def fX11_isFetched (h : AH) (a0 : Nat) (a1 : Int32) (a2 : Int32) : Option (Bool) :=
  (fX11_placeOf h a0 a1 a2).bind fun q1 =>
  (fX11_lengthOf h a0 a1).bind fun q2 =>
  if q1 = q2 then (
    (fX11_lastOf h a0 a1).bind fun q3 =>
    (aI h 0 a0 (216 + q3)).bind fun x4 =>
    if x4 = 1 then (
      some true
    ) else (
      some false
    )
  ) else (
    some false
  )
set_option maxHeartbeats 4000000 in
theorem mX11_isFetched {h : AH} {a0 : Nat} {a1 : Int32} {a2 : Int32} {r : Bool} (hr : fX11_isFetched h a0 a1 a2 = some r) : MC yX11_isFetched cX11_isFetched 3 (some .boolean) 3 0 0 [.ref a0, .int a1, .int a2] h (some (.int (b2i r))) h := by
  unfold fX11_isFetched at hr
  refine mc_of (l0 := [(0, .ref a0), (1, .int a1), (2, .int a2)]) rfl pn_X11 (Nat.le_of_ble_eq_true rfl) (fun Y X C E O hnm => go_run hr ?_)
  have C : CT Y X RX11 cX11_isFetched 3 := C
  refine go_aload_n (pc := 0) C 0 dX11_isFetched_0 rfl ?_
  refine go_iload_n (pc := 1) C 1 dX11_isFetched_1 rfl ?_
  refine go_iload_n (pc := 2) C 2 dX11_isFetched_2 rfl ?_
  refine go_bind (fun q1 hq1 => ?_)
  refine go_callS (rest := []) (st' := [.int q1]) (c' := 0) (s' := 0) (pc := 3) C O miX11_259 w_1602 [.ref a0, .int a1, .int a2] rfl (mX11_placeOf hq1) dX11_isFetched_3 ⟨by decide, by decide, by decide, by decide⟩ rfl (Nat.le_of_ble_eq_true rfl) rfl ⟨rfl, rfl⟩ ?_
  refine go_aload_n (pc := 6) C 0 dX11_isFetched_6 rfl ?_
  refine go_iload_n (pc := 7) C 1 dX11_isFetched_7 rfl ?_
  refine go_bind (fun q2 hq2 => ?_)
  refine go_callS (rest := [.int q1]) (st' := [.int q2, .int q1]) (c' := 0) (s' := 0) (pc := 8) C O miX11_116 w_1555 [.ref a0, .int a1] rfl (mX11_lengthOf hq2) dX11_isFetched_8 ⟨by decide, by decide, by decide, by decide⟩ rfl (Nat.le_of_ble_eq_true rfl) rfl ⟨rfl, rfl⟩ ?_
  refine go_icmp_ne (pc := 11) C 33 dX11_isFetched_11 (by decide) (fun _ => ?_) (fun _ => ?_)
  · refine go_aload_n (pc := 14) C 0 dX11_isFetched_14 rfl ?_
    refine go_sipush (pc := 15) C dX11_isFetched_15 ks_216 ?_
    refine go_aload_n (pc := 18) C 0 dX11_isFetched_18 rfl ?_
    refine go_iload_n (pc := 19) C 1 dX11_isFetched_19 rfl ?_
    refine go_bind (fun q3 hq3 => ?_)
    refine go_callS (rest := [.int 216, .ref a0]) (st' := [.int q3, .int 216, .ref a0]) (c' := 0) (s' := 0) (pc := 20) C O miX11_262 w_1605 [.ref a0, .int a1] rfl (mX11_lastOf hq3) dX11_isFetched_20 ⟨by decide, by decide, by decide, by decide⟩ rfl (Nat.le_of_ble_eq_true rfl) rfl ⟨rfl, rfl⟩ ?_
    refine go_iadd (pc := 23) C dX11_isFetched_23 ?_
    refine go_iald (pc := 24) C dX11_isFetched_24 (fun x4 => ?_)
    refine go_iconst (pc := 25) C dX11_isFetched_25 ki_1 ?_
    refine go_icmp_ne (pc := 26) C 33 dX11_isFetched_26 (by decide) (fun _ => ?_) (fun _ => ?_)
    · refine go_iconst (pc := 29) C dX11_isFetched_29 ki_1 ?_
      refine go_goto (pc := 30) C 34 dX11_isFetched_30 (by decide) ?_
      exact go_bret (w := (wZ h)) (pc := 34) C E true 1 true rfl dX11_isFetched_34 rfl
    · refine go_iconst (pc := 33) C dX11_isFetched_33 ki_0 ?_
      exact go_bret (w := (wZ h)) (pc := 34) C E false 0 false rfl dX11_isFetched_34 rfl
  · refine go_iconst (pc := 33) C dX11_isFetched_33 ki_0 ?_
    exact go_bret (w := (wZ h)) (pc := 34) C E false 0 false rfl dX11_isFetched_34 rfl
theorem dX11_fetchOf_0 : decode cX11_fetchOf 0 = .ok (.aload_n 0, 1) := by decide +kernel
theorem dX11_fetchOf_1 : decode cX11_fetchOf 1 = .ok (.iload_n 1, 1) := by decide +kernel
theorem dX11_fetchOf_2 : decode cX11_fetchOf 2 = .ok (.iload_n 2, 1) := by decide +kernel
theorem dX11_fetchOf_3 : decode cX11_fetchOf 3 = .ok (.invokestatic 259, 3) := by decide +kernel
theorem dX11_fetchOf_6 : decode cX11_fetchOf 6 = .ok (.istore_n 3, 1) := by decide +kernel
theorem dX11_fetchOf_7 : decode cX11_fetchOf 7 = .ok (.iload_n 3, 1) := by decide +kernel
theorem dX11_fetchOf_8 : decode cX11_fetchOf 8 = .ok (.aload_n 0, 1) := by decide +kernel
theorem dX11_fetchOf_9 : decode cX11_fetchOf 9 = .ok (.iload_n 1, 1) := by decide +kernel
theorem dX11_fetchOf_10 : decode cX11_fetchOf 10 = .ok (.invokestatic 116, 3) := by decide +kernel
theorem dX11_fetchOf_13 : decode cX11_fetchOf 13 = .ok (.if_icmp .ge 17, 3) := by decide +kernel
theorem dX11_fetchOf_16 : decode cX11_fetchOf 16 = .ok (.aload_n 0, 1) := by decide +kernel
theorem dX11_fetchOf_17 : decode cX11_fetchOf 17 = .ok (.bipush 8, 2) := by decide +kernel
theorem dX11_fetchOf_19 : decode cX11_fetchOf 19 = .ok (.aload_n 0, 1) := by decide +kernel
theorem dX11_fetchOf_20 : decode cX11_fetchOf 20 = .ok (.iload_n 1, 1) := by decide +kernel
theorem dX11_fetchOf_21 : decode cX11_fetchOf 21 = .ok (.iload_n 3, 1) := by decide +kernel
theorem dX11_fetchOf_22 : decode cX11_fetchOf 22 = .ok (.invokestatic 119, 3) := by decide +kernel
theorem dX11_fetchOf_25 : decode cX11_fetchOf 25 = .ok (.imul, 1) := by decide +kernel
theorem dX11_fetchOf_26 : decode cX11_fetchOf 26 = .ok (.iload_n 2, 1) := by decide +kernel
theorem dX11_fetchOf_27 : decode cX11_fetchOf 27 = .ok (.iadd, 1) := by decide +kernel
theorem dX11_fetchOf_28 : decode cX11_fetchOf 28 = .ok (.iaload, 1) := by decide +kernel
theorem dX11_fetchOf_29 : decode cX11_fetchOf 29 = .ok (.ireturn, 1) := by decide +kernel
theorem dX11_fetchOf_30 : decode cX11_fetchOf 30 = .ok (.aload_n 0, 1) := by decide +kernel
theorem dX11_fetchOf_31 : decode cX11_fetchOf 31 = .ok (.iload_n 1, 1) := by decide +kernel
theorem dX11_fetchOf_32 : decode cX11_fetchOf 32 = .ok (.invokestatic 262, 3) := by decide +kernel
theorem dX11_fetchOf_35 : decode cX11_fetchOf 35 = .ok (.istore 4, 2) := by decide +kernel
theorem dX11_fetchOf_37 : decode cX11_fetchOf 37 = .ok (.aload_n 0, 1) := by decide +kernel
theorem dX11_fetchOf_38 : decode cX11_fetchOf 38 = .ok (.sipush 216, 3) := by decide +kernel
theorem dX11_fetchOf_41 : decode cX11_fetchOf 41 = .ok (.iload 4, 2) := by decide +kernel
theorem dX11_fetchOf_43 : decode cX11_fetchOf 43 = .ok (.iadd, 1) := by decide +kernel
theorem dX11_fetchOf_44 : decode cX11_fetchOf 44 = .ok (.iaload, 1) := by decide +kernel
theorem dX11_fetchOf_45 : decode cX11_fetchOf 45 = .ok (.iconst 1, 1) := by decide +kernel
theorem dX11_fetchOf_46 : decode cX11_fetchOf 46 = .ok (.if_icmp .ne 19, 3) := by decide +kernel
theorem dX11_fetchOf_49 : decode cX11_fetchOf 49 = .ok (.bipush 10, 2) := by decide +kernel
theorem dX11_fetchOf_51 : decode cX11_fetchOf 51 = .ok (.aload_n 0, 1) := by decide +kernel
theorem dX11_fetchOf_52 : decode cX11_fetchOf 52 = .ok (.sipush 240, 3) := by decide +kernel
theorem dX11_fetchOf_55 : decode cX11_fetchOf 55 = .ok (.iload 4, 2) := by decide +kernel
theorem dX11_fetchOf_57 : decode cX11_fetchOf 57 = .ok (.iadd, 1) := by decide +kernel
theorem dX11_fetchOf_58 : decode cX11_fetchOf 58 = .ok (.iaload, 1) := by decide +kernel
theorem dX11_fetchOf_59 : decode cX11_fetchOf 59 = .ok (.imul, 1) := by decide +kernel
theorem dX11_fetchOf_60 : decode cX11_fetchOf 60 = .ok (.iload_n 2, 1) := by decide +kernel
theorem dX11_fetchOf_61 : decode cX11_fetchOf 61 = .ok (.iadd, 1) := by decide +kernel
theorem dX11_fetchOf_62 : decode cX11_fetchOf 62 = .ok (.goto 4, 3) := by decide +kernel
theorem dX11_fetchOf_65 : decode cX11_fetchOf 65 = .ok (.iconst 0, 1) := by decide +kernel
theorem dX11_fetchOf_66 : decode cX11_fetchOf 66 = .ok (.ireturn, 1) := by decide +kernel
def fX11_fetchOf (h : AH) (a0 : Nat) (a1 : Int32) (a2 : Int32) : Option (Int32) :=
  (fX11_placeOf h a0 a1 a2).bind fun q1 =>
  (fX11_lengthOf h a0 a1).bind fun q2 =>
  if q2 ≤ q1 then (
    (fX11_lastOf h a0 a1).bind fun q3 =>
    (aI h 0 a0 (216 + q3)).bind fun x4 =>
    if x4 = 1 then (
      (aI h 0 a0 (240 + q3)).bind fun x5 =>
      some ((10 * x5) + a2)
    ) else (
      some 0
    )
  ) else (
    (fX11_objectAt h a0 a1 q1).bind fun q6 =>
    (aI h 0 a0 ((8 * q6) + a2)).bind fun x7 =>
    some x7
  )
set_option maxHeartbeats 4000000 in
theorem mX11_fetchOf {h : AH} {a0 : Nat} {a1 : Int32} {a2 : Int32} {r : Int32} (hr : fX11_fetchOf h a0 a1 a2 = some r) : MC yX11_fetchOf cX11_fetchOf 5 (some .int) 3 0 0 [.ref a0, .int a1, .int a2] h (some (.int r)) h := by
  unfold fX11_fetchOf at hr
  refine mc_of (l0 := [(0, .ref a0), (1, .int a1), (2, .int a2)]) rfl pn_X11 (Nat.le_of_ble_eq_true rfl) (fun Y X C E O hnm => go_run hr ?_)
  have C : CT Y X RX11 cX11_fetchOf 5 := C
  refine go_aload_n (pc := 0) C 0 dX11_fetchOf_0 rfl ?_
  refine go_iload_n (pc := 1) C 1 dX11_fetchOf_1 rfl ?_
  refine go_iload_n (pc := 2) C 2 dX11_fetchOf_2 rfl ?_
  refine go_bind (fun q1 hq1 => ?_)
  refine go_callS (rest := []) (st' := [.int q1]) (c' := 0) (s' := 0) (pc := 3) C O miX11_259 w_1602 [.ref a0, .int a1, .int a2] rfl (mX11_placeOf hq1) dX11_fetchOf_3 ⟨by decide, by decide, by decide, by decide⟩ rfl (Nat.le_of_ble_eq_true rfl) rfl ⟨rfl, rfl⟩ ?_
  refine go_istore_n (ls' := [(3, .int q1), (0, .ref a0), (1, .int a1), (2, .int a2)]) (pc := 6) C dX11_fetchOf_6 (by decide) rfl ?_
  refine go_iload_n (pc := 7) C 0 dX11_fetchOf_7 rfl ?_
  refine go_aload_n (pc := 8) C 1 dX11_fetchOf_8 rfl ?_
  refine go_iload_n (pc := 9) C 2 dX11_fetchOf_9 rfl ?_
  refine go_bind (fun q2 hq2 => ?_)
  refine go_callS (rest := [.int q1]) (st' := [.int q2, .int q1]) (c' := 0) (s' := 0) (pc := 10) C O miX11_116 w_1555 [.ref a0, .int a1] rfl (mX11_lengthOf hq2) dX11_fetchOf_10 ⟨by decide, by decide, by decide, by decide⟩ rfl (Nat.le_of_ble_eq_true rfl) rfl ⟨rfl, rfl⟩ ?_
  refine go_icmp_ge (pc := 13) C 30 dX11_fetchOf_13 (by decide) (fun _ => ?_) (fun _ => ?_)
  · refine go_aload_n (pc := 30) C 1 dX11_fetchOf_30 rfl ?_
    refine go_iload_n (pc := 31) C 2 dX11_fetchOf_31 rfl ?_
    refine go_bind (fun q3 hq3 => ?_)
    refine go_callS (rest := []) (st' := [.int q3]) (c' := 0) (s' := 0) (pc := 32) C O miX11_262 w_1605 [.ref a0, .int a1] rfl (mX11_lastOf hq3) dX11_fetchOf_32 ⟨by decide, by decide, by decide, by decide⟩ rfl (Nat.le_of_ble_eq_true rfl) rfl ⟨rfl, rfl⟩ ?_
    refine go_istore (ls' := [(4, .int q3), (3, .int q1), (0, .ref a0), (1, .int a1), (2, .int a2)]) (pc := 35) C dX11_fetchOf_35 (by decide) rfl ?_
    refine go_aload_n (pc := 37) C 2 dX11_fetchOf_37 rfl ?_
    refine go_sipush (pc := 38) C dX11_fetchOf_38 ks_216 ?_
    refine go_iload (pc := 41) C 0 dX11_fetchOf_41 rfl ?_
    refine go_iadd (pc := 43) C dX11_fetchOf_43 ?_
    refine go_iald (pc := 44) C dX11_fetchOf_44 (fun x4 => ?_)
    refine go_iconst (pc := 45) C dX11_fetchOf_45 ki_1 ?_
    refine go_icmp_ne (pc := 46) C 65 dX11_fetchOf_46 (by decide) (fun _ => ?_) (fun _ => ?_)
    · refine go_bipush (pc := 49) C dX11_fetchOf_49 kb_10 ?_
      refine go_aload_n (pc := 51) C 2 dX11_fetchOf_51 rfl ?_
      refine go_sipush (pc := 52) C dX11_fetchOf_52 ks_240 ?_
      refine go_iload (pc := 55) C 0 dX11_fetchOf_55 rfl ?_
      refine go_iadd (pc := 57) C dX11_fetchOf_57 ?_
      refine go_iald (pc := 58) C dX11_fetchOf_58 (fun x5 => ?_)
      refine go_imul (pc := 59) C dX11_fetchOf_59 ?_
      refine go_iload_n (pc := 60) C 4 dX11_fetchOf_60 rfl ?_
      refine go_iadd (pc := 61) C dX11_fetchOf_61 ?_
      refine go_goto (pc := 62) C 66 dX11_fetchOf_62 (by decide) ?_
      exact go_iret (w := (wI h)) (pc := 66) C E ((10 * x5) + a2) ((10 * x5) + a2) dX11_fetchOf_66 rfl
    · refine go_iconst (pc := 65) C dX11_fetchOf_65 ki_0 ?_
      exact go_iret (w := (wI h)) (pc := 66) C E 0 0 dX11_fetchOf_66 rfl
  · refine go_aload_n (pc := 16) C 1 dX11_fetchOf_16 rfl ?_
    refine go_bipush (pc := 17) C dX11_fetchOf_17 kb_8 ?_
    refine go_aload_n (pc := 19) C 1 dX11_fetchOf_19 rfl ?_
    refine go_iload_n (pc := 20) C 2 dX11_fetchOf_20 rfl ?_
    refine go_iload_n (pc := 21) C 0 dX11_fetchOf_21 rfl ?_
    refine go_bind (fun q6 hq6 => ?_)
    refine go_callS (rest := [.int 8, .ref a0]) (st' := [.int q6, .int 8, .ref a0]) (c' := 0) (s' := 0) (pc := 22) C O miX11_119 w_1608 [.ref a0, .int a1, .int q1] rfl (mX11_objectAt hq6) dX11_fetchOf_22 ⟨by decide, by decide, by decide, by decide⟩ rfl (Nat.le_of_ble_eq_true rfl) rfl ⟨rfl, rfl⟩ ?_
    refine go_imul (pc := 25) C dX11_fetchOf_25 ?_
    refine go_iload_n (pc := 26) C 3 dX11_fetchOf_26 rfl ?_
    refine go_iadd (pc := 27) C dX11_fetchOf_27 ?_
    refine go_iald (pc := 28) C dX11_fetchOf_28 (fun x7 => ?_)
    exact go_iret (w := (wI h)) (pc := 29) C E x7 x7 dX11_fetchOf_29 rfl
theorem dX11_goFetch_0 : decode cX11_goFetch 0 = .ok (.aload_n 0, 1) := by decide +kernel
theorem dX11_goFetch_1 : decode cX11_goFetch 1 = .ok (.iload_n 1, 1) := by decide +kernel
theorem dX11_goFetch_2 : decode cX11_goFetch 2 = .ok (.iload_n 2, 1) := by decide +kernel
theorem dX11_goFetch_3 : decode cX11_goFetch 3 = .ok (.invokestatic 265, 3) := by decide +kernel
theorem dX11_goFetch_6 : decode cX11_goFetch 6 = .ok (.ifCond .eq 21, 3) := by decide +kernel
theorem dX11_goFetch_9 : decode cX11_goFetch 9 = .ok (.aload_n 0, 1) := by decide +kernel
theorem dX11_goFetch_10 : decode cX11_goFetch 10 = .ok (.bipush 8, 2) := by decide +kernel
theorem dX11_goFetch_12 : decode cX11_goFetch 12 = .ok (.aload_n 0, 1) := by decide +kernel
theorem dX11_goFetch_13 : decode cX11_goFetch 13 = .ok (.iload_n 1, 1) := by decide +kernel
theorem dX11_goFetch_14 : decode cX11_goFetch 14 = .ok (.invokestatic 262, 3) := by decide +kernel
theorem dX11_goFetch_17 : decode cX11_goFetch 17 = .ok (.imul, 1) := by decide +kernel
theorem dX11_goFetch_18 : decode cX11_goFetch 18 = .ok (.iload_n 2, 1) := by decide +kernel
theorem dX11_goFetch_19 : decode cX11_goFetch 19 = .ok (.iadd, 1) := by decide +kernel
theorem dX11_goFetch_20 : decode cX11_goFetch 20 = .ok (.aload_n 0, 1) := by decide +kernel
theorem dX11_goFetch_21 : decode cX11_goFetch 21 = .ok (.iload_n 1, 1) := by decide +kernel
theorem dX11_goFetch_22 : decode cX11_goFetch 22 = .ok (.iload_n 2, 1) := by decide +kernel
theorem dX11_goFetch_23 : decode cX11_goFetch 23 = .ok (.invokestatic 268, 3) := by decide +kernel
theorem dX11_goFetch_26 : decode cX11_goFetch 26 = .ok (.iastore, 1) := by decide +kernel
theorem dX11_goFetch_27 : decode cX11_goFetch 27 = .ok (.return_, 1) := by decide +kernel
def fX11_goFetch (h : AH) (a0 : Nat) (a1 : Int32) (a2 : Int32) : Option (AH) :=
  (fX11_isFetched h a0 a1 a2).bind fun q1 =>
  if q1 = true then (
    (fX11_lastOf h a0 a1).bind fun q2 =>
    (fX11_fetchOf h a0 a1 a2).bind fun q3 =>
    (sI h 0 a0 ((8 * q2) + a2) q3).bind fun h4 =>
    some h4
  ) else (
    some h
  )
set_option maxHeartbeats 4000000 in
theorem mX11_goFetch {h : AH} {a0 : Nat} {a1 : Int32} {a2 : Int32} {r : AH} (hr : fX11_goFetch h a0 a1 a2 = some r) : MC yX11_goFetch cX11_goFetch 3 none 4 0 0 [.ref a0, .int a1, .int a2] h none r := by
  unfold fX11_goFetch at hr
  refine mc_of (l0 := [(0, .ref a0), (1, .int a1), (2, .int a2)]) rfl pn_X11 (Nat.le_of_ble_eq_true rfl) (fun Y X C E O hnm => go_run hr ?_)
  have C : CT Y X RX11 cX11_goFetch 3 := C
  refine go_aload_n (pc := 0) C 0 dX11_goFetch_0 rfl ?_
  refine go_iload_n (pc := 1) C 1 dX11_goFetch_1 rfl ?_
  refine go_iload_n (pc := 2) C 2 dX11_goFetch_2 rfl ?_
  refine go_bind (fun q1 hq1 => ?_)
  refine go_callS (rest := []) (st' := [.int (b2i q1)]) (c' := 0) (s' := 0) (pc := 3) C O miX11_265 w_1611 [.ref a0, .int a1, .int a2] rfl (mX11_isFetched hq1) dX11_goFetch_3 ⟨by decide, by decide, by decide, by decide⟩ rfl (Nat.le_of_ble_eq_true rfl) rfl ⟨rfl, rfl⟩ ?_
  refine go_ifZ_eq (pc := 6) C 27 dX11_goFetch_6 (by decide) (fun _ => ?_) (fun _ => ?_)
  · refine go_aload_n (pc := 9) C 0 dX11_goFetch_9 rfl ?_
    refine go_bipush (pc := 10) C dX11_goFetch_10 kb_8 ?_
    refine go_aload_n (pc := 12) C 0 dX11_goFetch_12 rfl ?_
    refine go_iload_n (pc := 13) C 1 dX11_goFetch_13 rfl ?_
    refine go_bind (fun q2 hq2 => ?_)
    refine go_callS (rest := [.int 8, .ref a0]) (st' := [.int q2, .int 8, .ref a0]) (c' := 0) (s' := 0) (pc := 14) C O miX11_262 w_1605 [.ref a0, .int a1] rfl (mX11_lastOf hq2) dX11_goFetch_14 ⟨by decide, by decide, by decide, by decide⟩ rfl (Nat.le_of_ble_eq_true rfl) rfl ⟨rfl, rfl⟩ ?_
    refine go_imul (pc := 17) C dX11_goFetch_17 ?_
    refine go_iload_n (pc := 18) C 2 dX11_goFetch_18 rfl ?_
    refine go_iadd (pc := 19) C dX11_goFetch_19 ?_
    refine go_aload_n (pc := 20) C 0 dX11_goFetch_20 rfl ?_
    refine go_iload_n (pc := 21) C 1 dX11_goFetch_21 rfl ?_
    refine go_iload_n (pc := 22) C 2 dX11_goFetch_22 rfl ?_
    refine go_bind (fun q3 hq3 => ?_)
    refine go_callS (rest := [.int ((8 * q2) + a2), .ref a0]) (st' := [.int q3, .int ((8 * q2) + a2), .ref a0]) (c' := 0) (s' := 0) (pc := 23) C O miX11_268 w_1617 [.ref a0, .int a1, .int a2] rfl (mX11_fetchOf hq3) dX11_goFetch_23 ⟨by decide, by decide, by decide, by decide⟩ rfl (Nat.le_of_ble_eq_true rfl) rfl ⟨rfl, rfl⟩ ?_
    refine go_iast (pc := 26) C dX11_goFetch_26 (fun h4 => ?_)
    exact go_vret (w := wV) (pc := 27) C E h4 dX11_goFetch_27 rfl
  · exact go_vret (w := wV) (pc := 27) C E h dX11_goFetch_27 rfl
theorem dX11_goAwait_0 : decode cX11_goAwait 0 = .ok (.aload_n 0, 1) := by decide +kernel
theorem dX11_goAwait_1 : decode cX11_goAwait 1 = .ok (.sipush 288, 3) := by decide +kernel
theorem dX11_goAwait_4 : decode cX11_goAwait 4 = .ok (.aload_n 0, 1) := by decide +kernel
theorem dX11_goAwait_5 : decode cX11_goAwait 5 = .ok (.iload_n 1, 1) := by decide +kernel
theorem dX11_goAwait_6 : decode cX11_goAwait 6 = .ok (.invokestatic 262, 3) := by decide +kernel
theorem dX11_goAwait_9 : decode cX11_goAwait 9 = .ok (.iadd, 1) := by decide +kernel
theorem dX11_goAwait_10 : decode cX11_goAwait 10 = .ok (.dup2, 1) := by decide +kernel
theorem dX11_goAwait_11 : decode cX11_goAwait 11 = .ok (.iaload, 1) := by decide +kernel
theorem dX11_goAwait_12 : decode cX11_goAwait 12 = .ok (.iconst 1, 1) := by decide +kernel
theorem dX11_goAwait_13 : decode cX11_goAwait 13 = .ok (.iload_n 2, 1) := by decide +kernel
theorem dX11_goAwait_14 : decode cX11_goAwait 14 = .ok (.ishl, 1) := by decide +kernel
theorem dX11_goAwait_15 : decode cX11_goAwait 15 = .ok (.ior, 1) := by decide +kernel
theorem dX11_goAwait_16 : decode cX11_goAwait 16 = .ok (.iastore, 1) := by decide +kernel
theorem dX11_goAwait_17 : decode cX11_goAwait 17 = .ok (.return_, 1) := by decide +kernel
def fX11_goAwait (h : AH) (a0 : Nat) (a1 : Int32) (a2 : Int32) : Option (AH) :=
  (fX11_lastOf h a0 a1).bind fun q1 =>
  (aI h 0 a0 (288 + q1)).bind fun x2 =>
  (sI h 0 a0 (288 + q1) (x2 ||| (1 <<< (a2 &&& 31)))).bind fun h3 =>
  some h3
set_option maxHeartbeats 4000000 in
theorem mX11_goAwait {h : AH} {a0 : Nat} {a1 : Int32} {a2 : Int32} {r : AH} (hr : fX11_goAwait h a0 a1 a2 = some r) : MC yX11_goAwait cX11_goAwait 3 none 3 0 0 [.ref a0, .int a1, .int a2] h none r := by
  unfold fX11_goAwait at hr
  refine mc_of (l0 := [(0, .ref a0), (1, .int a1), (2, .int a2)]) rfl pn_X11 (Nat.le_of_ble_eq_true rfl) (fun Y X C E O hnm => go_run hr ?_)
  have C : CT Y X RX11 cX11_goAwait 3 := C
  refine go_aload_n (pc := 0) C 0 dX11_goAwait_0 rfl ?_
  refine go_sipush (pc := 1) C dX11_goAwait_1 ks_288 ?_
  refine go_aload_n (pc := 4) C 0 dX11_goAwait_4 rfl ?_
  refine go_iload_n (pc := 5) C 1 dX11_goAwait_5 rfl ?_
  refine go_bind (fun q1 hq1 => ?_)
  refine go_callS (rest := [.int 288, .ref a0]) (st' := [.int q1, .int 288, .ref a0]) (c' := 0) (s' := 0) (pc := 6) C O miX11_262 w_1605 [.ref a0, .int a1] rfl (mX11_lastOf hq1) dX11_goAwait_6 ⟨by decide, by decide, by decide, by decide⟩ rfl (Nat.le_of_ble_eq_true rfl) rfl ⟨rfl, rfl⟩ ?_
  refine go_iadd (pc := 9) C dX11_goAwait_9 ?_
  refine go_dup2 (pc := 10) C dX11_goAwait_10 rfl rfl ?_
  refine go_iald (pc := 11) C dX11_goAwait_11 (fun x2 => ?_)
  refine go_iconst (pc := 12) C dX11_goAwait_12 ki_1 ?_
  refine go_iload_n (pc := 13) C 2 dX11_goAwait_13 rfl ?_
  refine go_ishl (pc := 14) C dX11_goAwait_14 ?_
  refine go_ior (pc := 15) C dX11_goAwait_15 ?_
  refine go_iast (pc := 16) C dX11_goAwait_16 (fun h3 => ?_)
  exact go_vret (w := wV) (pc := 17) C E h3 dX11_goAwait_17 rfl
theorem dX11_refusesRead_0 : decode cX11_refusesRead 0 = .ok (.aload_n 0, 1) := by decide +kernel
theorem dX11_refusesRead_1 : decode cX11_refusesRead 1 = .ok (.iload_n 1, 1) := by decide +kernel
theorem dX11_refusesRead_2 : decode cX11_refusesRead 2 = .ok (.iload_n 2, 1) := by decide +kernel
theorem dX11_refusesRead_3 : decode cX11_refusesRead 3 = .ok (.invokestatic 271, 3) := by decide +kernel
theorem dX11_refusesRead_6 : decode cX11_refusesRead 6 = .ok (.istore_n 3, 1) := by decide +kernel
theorem dX11_refusesRead_7 : decode cX11_refusesRead 7 = .ok (.iload_n 3, 1) := by decide +kernel
theorem dX11_refusesRead_8 : decode cX11_refusesRead 8 = .ok (.ifCond .ge 5, 3) := by decide +kernel
theorem dX11_refusesRead_11 : decode cX11_refusesRead 11 = .ok (.iload_n 3, 1) := by decide +kernel
theorem dX11_refusesRead_12 : decode cX11_refusesRead 12 = .ok (.ireturn, 1) := by decide +kernel
theorem dX11_refusesRead_13 : decode cX11_refusesRead 13 = .ok (.aload_n 0, 1) := by decide +kernel
theorem dX11_refusesRead_14 : decode cX11_refusesRead 14 = .ok (.iload_n 1, 1) := by decide +kernel
theorem dX11_refusesRead_15 : decode cX11_refusesRead 15 = .ok (.iload_n 2, 1) := by decide +kernel
theorem dX11_refusesRead_16 : decode cX11_refusesRead 16 = .ok (.invokestatic 265, 3) := by decide +kernel
theorem dX11_refusesRead_19 : decode cX11_refusesRead 19 = .ok (.ifCond .eq 17, 3) := by decide +kernel
theorem dX11_refusesRead_22 : decode cX11_refusesRead 22 = .ok (.aload_n 0, 1) := by decide +kernel
theorem dX11_refusesRead_23 : decode cX11_refusesRead 23 = .ok (.invokestatic 181, 3) := by decide +kernel
theorem dX11_refusesRead_26 : decode cX11_refusesRead 26 = .ok (.bipush 64, 2) := by decide +kernel
theorem dX11_refusesRead_28 : decode cX11_refusesRead 28 = .ok (.if_icmp .ne 8, 3) := by decide +kernel
theorem dX11_refusesRead_31 : decode cX11_refusesRead 31 = .ok (.bipush (-5), 2) := by decide +kernel
theorem dX11_refusesRead_33 : decode cX11_refusesRead 33 = .ok (.goto 4, 3) := by decide +kernel
theorem dX11_refusesRead_36 : decode cX11_refusesRead 36 = .ok (.iconst 0, 1) := by decide +kernel
theorem dX11_refusesRead_37 : decode cX11_refusesRead 37 = .ok (.ireturn, 1) := by decide +kernel
def fX11_refusesRead (h : AH) (a0 : Nat) (a1 : Int32) (a2 : Int32) : Option (Int32) :=
  (fX11_refusesFetch h a0 a1 a2).bind fun q1 =>
  if 0 ≤ q1 then (
    (fX11_isFetched h a0 a1 a2).bind fun q2 =>
    if q2 = true then (
      (fX11_framesOf h a0).bind fun q3 =>
      if q3 = 64 then (
        some ((-5))
      ) else (
        some 0
      )
    ) else (
      some 0
    )
  ) else (
    some q1
  )
set_option maxHeartbeats 4000000 in
theorem mX11_refusesRead {h : AH} {a0 : Nat} {a1 : Int32} {a2 : Int32} {r : Int32} (hr : fX11_refusesRead h a0 a1 a2 = some r) : MC yX11_refusesRead cX11_refusesRead 4 (some .int) 4 0 0 [.ref a0, .int a1, .int a2] h (some (.int r)) h := by
  unfold fX11_refusesRead at hr
  refine mc_of (l0 := [(0, .ref a0), (1, .int a1), (2, .int a2)]) rfl pn_X11 (Nat.le_of_ble_eq_true rfl) (fun Y X C E O hnm => go_run hr ?_)
  have C : CT Y X RX11 cX11_refusesRead 4 := C
  refine go_aload_n (pc := 0) C 0 dX11_refusesRead_0 rfl ?_
  refine go_iload_n (pc := 1) C 1 dX11_refusesRead_1 rfl ?_
  refine go_iload_n (pc := 2) C 2 dX11_refusesRead_2 rfl ?_
  refine go_bind (fun q1 hq1 => ?_)
  refine go_callS (rest := []) (st' := [.int q1]) (c' := 0) (s' := 0) (pc := 3) C O miX11_271 w_1599 [.ref a0, .int a1, .int a2] rfl (mX11_refusesFetch hq1) dX11_refusesRead_3 ⟨by decide, by decide, by decide, by decide⟩ rfl (Nat.le_of_ble_eq_true rfl) rfl ⟨rfl, rfl⟩ ?_
  refine go_istore_n (ls' := [(3, .int q1), (0, .ref a0), (1, .int a1), (2, .int a2)]) (pc := 6) C dX11_refusesRead_6 (by decide) rfl ?_
  refine go_iload_n (pc := 7) C 0 dX11_refusesRead_7 rfl ?_
  refine go_if_ge (pc := 8) C 13 dX11_refusesRead_8 (by decide) (fun _ => ?_) (fun _ => ?_)
  · refine go_aload_n (pc := 13) C 1 dX11_refusesRead_13 rfl ?_
    refine go_iload_n (pc := 14) C 2 dX11_refusesRead_14 rfl ?_
    refine go_iload_n (pc := 15) C 3 dX11_refusesRead_15 rfl ?_
    refine go_bind (fun q2 hq2 => ?_)
    refine go_callS (rest := []) (st' := [.int (b2i q2)]) (c' := 0) (s' := 0) (pc := 16) C O miX11_265 w_1611 [.ref a0, .int a1, .int a2] rfl (mX11_isFetched hq2) dX11_refusesRead_16 ⟨by decide, by decide, by decide, by decide⟩ rfl (Nat.le_of_ble_eq_true rfl) rfl ⟨rfl, rfl⟩ ?_
    refine go_ifZ_eq (pc := 19) C 36 dX11_refusesRead_19 (by decide) (fun _ => ?_) (fun _ => ?_)
    · refine go_aload_n (pc := 22) C 1 dX11_refusesRead_22 rfl ?_
      refine go_bind (fun q3 hq3 => ?_)
      refine go_callS (rest := []) (st' := [.int q3]) (c' := 0) (s' := 0) (pc := 23) C O miX11_181 w_1488 [.ref a0] rfl (mX11_framesOf hq3) dX11_refusesRead_23 ⟨by decide, by decide, by decide, by decide⟩ rfl (Nat.le_of_ble_eq_true rfl) rfl ⟨rfl, rfl⟩ ?_
      refine go_bipush (pc := 26) C dX11_refusesRead_26 kb_64 ?_
      refine go_icmp_ne (pc := 28) C 36 dX11_refusesRead_28 (by decide) (fun _ => ?_) (fun _ => ?_)
      · refine go_bipush (pc := 31) C dX11_refusesRead_31 kb_m5 ?_
        refine go_goto (pc := 33) C 37 dX11_refusesRead_33 (by decide) ?_
        exact go_iret (w := (wI h)) (pc := 37) C E ((-5)) ((-5)) dX11_refusesRead_37 rfl
      · refine go_iconst (pc := 36) C dX11_refusesRead_36 ki_0 ?_
        exact go_iret (w := (wI h)) (pc := 37) C E 0 0 dX11_refusesRead_37 rfl
    · refine go_iconst (pc := 36) C dX11_refusesRead_36 ki_0 ?_
      exact go_iret (w := (wI h)) (pc := 37) C E 0 0 dX11_refusesRead_37 rfl
  · refine go_iload_n (pc := 11) C 0 dX11_refusesRead_11 rfl ?_
    exact go_iret (w := (wI h)) (pc := 12) C E q1 q1 dX11_refusesRead_12 rfl
theorem dX11_reads_0 : decode cX11_reads 0 = .ok (.aload_n 0, 1) := by decide +kernel
theorem dX11_reads_1 : decode cX11_reads 1 = .ok (.iconst 0, 1) := by decide +kernel
theorem dX11_reads_2 : decode cX11_reads 2 = .ok (.putfield 77, 3) := by decide +kernel
theorem dX11_reads_5 : decode cX11_reads 5 = .ok (.aload_n 0, 1) := by decide +kernel
theorem dX11_reads_6 : decode cX11_reads 6 = .ok (.getfield 9, 3) := by decide +kernel
theorem dX11_reads_9 : decode cX11_reads 9 = .ok (.iload_n 1, 1) := by decide +kernel
theorem dX11_reads_10 : decode cX11_reads 10 = .ok (.invokestatic 106, 3) := by decide +kernel
theorem dX11_reads_13 : decode cX11_reads 13 = .ok (.ifCond .eq 10, 3) := by decide +kernel
theorem dX11_reads_16 : decode cX11_reads 16 = .ok (.iload_n 2, 1) := by decide +kernel
theorem dX11_reads_17 : decode cX11_reads 17 = .ok (.invokestatic 249, 3) := by decide +kernel
theorem dX11_reads_20 : decode cX11_reads 20 = .ok (.ifCond .ne 5, 3) := by decide +kernel
theorem dX11_reads_23 : decode cX11_reads 23 = .ok (.iconst (-1), 1) := by decide +kernel
theorem dX11_reads_24 : decode cX11_reads 24 = .ok (.ireturn, 1) := by decide +kernel
theorem dX11_reads_25 : decode cX11_reads 25 = .ok (.aload_n 0, 1) := by decide +kernel
theorem dX11_reads_26 : decode cX11_reads 26 = .ok (.getfield 9, 3) := by decide +kernel
theorem dX11_reads_29 : decode cX11_reads 29 = .ok (.iload_n 1, 1) := by decide +kernel
theorem dX11_reads_30 : decode cX11_reads 30 = .ok (.iload_n 2, 1) := by decide +kernel
theorem dX11_reads_31 : decode cX11_reads 31 = .ok (.invokestatic 274, 3) := by decide +kernel
theorem dX11_reads_34 : decode cX11_reads 34 = .ok (.istore_n 3, 1) := by decide +kernel
theorem dX11_reads_35 : decode cX11_reads 35 = .ok (.iload_n 3, 1) := by decide +kernel
theorem dX11_reads_36 : decode cX11_reads 36 = .ok (.bipush (-3), 2) := by decide +kernel
theorem dX11_reads_38 : decode cX11_reads 38 = .ok (.if_icmp .ne 20, 3) := by decide +kernel
theorem dX11_reads_41 : decode cX11_reads 41 = .ok (.aload_n 0, 1) := by decide +kernel
theorem dX11_reads_42 : decode cX11_reads 42 = .ok (.aload_n 0, 1) := by decide +kernel
theorem dX11_reads_43 : decode cX11_reads 43 = .ok (.getfield 9, 3) := by decide +kernel
theorem dX11_reads_46 : decode cX11_reads 46 = .ok (.invokevirtual 184, 3) := by decide +kernel
theorem dX11_reads_49 : decode cX11_reads 49 = .ok (.aload_n 0, 1) := by decide +kernel
theorem dX11_reads_50 : decode cX11_reads 50 = .ok (.getfield 9, 3) := by decide +kernel
theorem dX11_reads_53 : decode cX11_reads 53 = .ok (.iload_n 1, 1) := by decide +kernel
theorem dX11_reads_54 : decode cX11_reads 54 = .ok (.iload_n 2, 1) := by decide +kernel
theorem dX11_reads_55 : decode cX11_reads 55 = .ok (.invokestatic 277, 3) := by decide +kernel
theorem dX11_reads_58 : decode cX11_reads 58 = .ok (.iload_n 3, 1) := by decide +kernel
theorem dX11_reads_59 : decode cX11_reads 59 = .ok (.ifCond .ge 5, 3) := by decide +kernel
theorem dX11_reads_62 : decode cX11_reads 62 = .ok (.iload_n 3, 1) := by decide +kernel
theorem dX11_reads_63 : decode cX11_reads 63 = .ok (.ireturn, 1) := by decide +kernel
theorem dX11_reads_64 : decode cX11_reads 64 = .ok (.aload_n 0, 1) := by decide +kernel
theorem dX11_reads_65 : decode cX11_reads 65 = .ok (.aload_n 0, 1) := by decide +kernel
theorem dX11_reads_66 : decode cX11_reads 66 = .ok (.getfield 9, 3) := by decide +kernel
theorem dX11_reads_69 : decode cX11_reads 69 = .ok (.invokevirtual 184, 3) := by decide +kernel
theorem dX11_reads_72 : decode cX11_reads 72 = .ok (.aload_n 0, 1) := by decide +kernel
theorem dX11_reads_73 : decode cX11_reads 73 = .ok (.getfield 9, 3) := by decide +kernel
theorem dX11_reads_76 : decode cX11_reads 76 = .ok (.iload_n 1, 1) := by decide +kernel
theorem dX11_reads_77 : decode cX11_reads 77 = .ok (.iload_n 2, 1) := by decide +kernel
theorem dX11_reads_78 : decode cX11_reads 78 = .ok (.invokestatic 259, 3) := by decide +kernel
theorem dX11_reads_81 : decode cX11_reads 81 = .ok (.istore 4, 2) := by decide +kernel
theorem dX11_reads_83 : decode cX11_reads 83 = .ok (.aload_n 0, 1) := by decide +kernel
theorem dX11_reads_84 : decode cX11_reads 84 = .ok (.getfield 9, 3) := by decide +kernel
theorem dX11_reads_87 : decode cX11_reads 87 = .ok (.iload_n 1, 1) := by decide +kernel
theorem dX11_reads_88 : decode cX11_reads 88 = .ok (.iload_n 2, 1) := by decide +kernel
theorem dX11_reads_89 : decode cX11_reads 89 = .ok (.invokestatic 268, 3) := by decide +kernel
theorem dX11_reads_92 : decode cX11_reads 92 = .ok (.istore 5, 2) := by decide +kernel
theorem dX11_reads_94 : decode cX11_reads 94 = .ok (.aload_n 0, 1) := by decide +kernel
theorem dX11_reads_95 : decode cX11_reads 95 = .ok (.getfield 9, 3) := by decide +kernel
theorem dX11_reads_98 : decode cX11_reads 98 = .ok (.iload_n 1, 1) := by decide +kernel
theorem dX11_reads_99 : decode cX11_reads 99 = .ok (.iload_n 2, 1) := by decide +kernel
theorem dX11_reads_100 : decode cX11_reads 100 = .ok (.invokestatic 280, 3) := by decide +kernel
theorem dX11_reads_103 : decode cX11_reads 103 = .ok (.aload_n 0, 1) := by decide +kernel
theorem dX11_reads_104 : decode cX11_reads 104 = .ok (.iconst 0, 1) := by decide +kernel
theorem dX11_reads_105 : decode cX11_reads 105 = .ok (.putfield 81, 3) := by decide +kernel
theorem dX11_reads_108 : decode cX11_reads 108 = .ok (.aload_n 0, 1) := by decide +kernel
theorem dX11_reads_109 : decode cX11_reads 109 = .ok (.iload 4, 2) := by decide +kernel
theorem dX11_reads_111 : decode cX11_reads 111 = .ok (.i2l, 1) := by decide +kernel
theorem dX11_reads_112 : decode cX11_reads 112 = .ok (.invokevirtual 283, 3) := by decide +kernel
theorem dX11_reads_115 : decode cX11_reads 115 = .ok (.iload 5, 2) := by decide +kernel
theorem dX11_reads_117 : decode cX11_reads 117 = .ok (.ireturn, 1) := by decide +kernel
def fX11_reads_J58 (h : AH) (v0 : Nat) (v1 : Int32) (v2 : Int32) (v3 : Int32) : Option (Int32 × AH) :=
    if 0 ≤ v3 then (
      (gR h 11 v0 0).bind fun x1 =>
      (fX11_remember h v0 x1).bind fun q2 =>
      (gR q2 11 v0 0).bind fun x3 =>
      (fX11_placeOf q2 x3 v1 v2).bind fun q4 =>
      (gR q2 11 v0 0).bind fun x5 =>
      (fX11_fetchOf q2 x5 v1 v2).bind fun q6 =>
      (gR q2 11 v0 0).bind fun x7 =>
      (fX11_goFetch q2 x7 v1 v2).bind fun q8 =>
      (pF q8 11 v0 4 (.int 0)).bind fun h9 =>
      (fX11_tell h9 v0 (Int32.toInt64 q4)).bind fun q10 =>
      some ((q6, q10))
    ) else (
      some ((v3, h))
    )
def fX11_reads (h : AH) (a0 : Nat) (a1 : Int32) (a2 : Int32) : Option (Int32 × AH) :=
  if hasC h 11 a0 = true then (
    (pF h 11 a0 5 (.int 0)).bind fun h11 =>
    (gR h11 11 a0 0).bind fun x12 =>
    (fX11_isSpace h11 x12 a1).bind fun q13 =>
    if q13 = true then (
      (fX11_isPage h11 a2).bind fun q14 =>
      if q14 = true then (
        (gR h11 11 a0 0).bind fun x15 =>
        (fX11_refusesRead h11 x15 a1 a2).bind fun q16 =>
        if q16 = ((-3)) then (
          (gR h11 11 a0 0).bind fun x17 =>
          (fX11_remember h11 a0 x17).bind fun q18 =>
          (gR q18 11 a0 0).bind fun x19 =>
          (fX11_goAwait q18 x19 a1 a2).bind fun q20 =>
          fX11_reads_J58 q20 a0 a1 a2 q16
        ) else (
          fX11_reads_J58 h11 a0 a1 a2 q16
        )
      ) else (
        some (((-1), h11))
      )
    ) else (
      some (((-1), h11))
    )
  ) else none
set_option maxHeartbeats 4000000 in
theorem gX11_reads_J58 {Y : YT} {X : XT} (C : CT Y X RX11 cX11_reads 6) (O : RO X 5 0 0) {r : Int32 × AH} (E : RX Y X (some .int) (some (.int r.1)) r.2 0 0) : ∀ (h : AH) (v0 : Nat) (v1 : Int32) (v2 : Int32) (v3 : Int32), GO Y X 6 r h 0 0 58 [(0, .ref v0), (1, .int v1), (2, .int v2), (3, .int v3)] [] (fX11_reads_J58 h v0 v1 v2 v3) := by
  intro h v0 v1 v2 v3
  unfold fX11_reads_J58
  refine go_iload_n (pc := 58) C 3 dX11_reads_58 rfl ?_
  refine go_if_ge (pc := 59) C 64 dX11_reads_59 (by decide) (fun _ => ?_) (fun _ => ?_)
  · refine go_aload_n (pc := 64) C 0 dX11_reads_64 rfl ?_
    refine go_aload_n (pc := 65) C 0 dX11_reads_65 rfl ?_
    refine go_gR (pc := 66) C fdX11_9 dX11_reads_66 (fun x1 => ?_)
    refine go_bind (fun q2 hq2 => ?_)
    refine go_callV (rest := []) (st' := []) (c' := 0) (s' := 0) (pc := 69) C O miX11_184 mvX11_remember [.ref x1] rfl (mX11_remember hq2).1 (mX11_remember hq2).2 dX11_reads_69 ⟨by decide, by decide, by decide, by decide⟩ rfl (Nat.le_of_ble_eq_true rfl) rfl ⟨rfl, rfl⟩ ?_
    refine go_aload_n (pc := 72) C 0 dX11_reads_72 rfl ?_
    refine go_gR (pc := 73) C fdX11_9 dX11_reads_73 (fun x3 => ?_)
    refine go_iload_n (pc := 76) C 1 dX11_reads_76 rfl ?_
    refine go_iload_n (pc := 77) C 2 dX11_reads_77 rfl ?_
    refine go_bind (fun q4 hq4 => ?_)
    refine go_callS (rest := []) (st' := [.int q4]) (c' := 0) (s' := 0) (pc := 78) C O miX11_259 w_1602 [.ref x3, .int v1, .int v2] rfl (mX11_placeOf hq4) dX11_reads_78 ⟨by decide, by decide, by decide, by decide⟩ rfl (Nat.le_of_ble_eq_true rfl) rfl ⟨rfl, rfl⟩ ?_
    refine go_istore (ls' := [(4, .int q4), (0, .ref v0), (1, .int v1), (2, .int v2), (3, .int v3)]) (pc := 81) C dX11_reads_81 (by decide) rfl ?_
    refine go_aload_n (pc := 83) C 1 dX11_reads_83 rfl ?_
    refine go_gR (pc := 84) C fdX11_9 dX11_reads_84 (fun x5 => ?_)
    refine go_iload_n (pc := 87) C 2 dX11_reads_87 rfl ?_
    refine go_iload_n (pc := 88) C 3 dX11_reads_88 rfl ?_
    refine go_bind (fun q6 hq6 => ?_)
    refine go_callS (rest := []) (st' := [.int q6]) (c' := 0) (s' := 0) (pc := 89) C O miX11_268 w_1617 [.ref x5, .int v1, .int v2] rfl (mX11_fetchOf hq6) dX11_reads_89 ⟨by decide, by decide, by decide, by decide⟩ rfl (Nat.le_of_ble_eq_true rfl) rfl ⟨rfl, rfl⟩ ?_
    refine go_istore (ls' := [(5, .int q6), (4, .int q4), (0, .ref v0), (1, .int v1), (2, .int v2), (3, .int v3)]) (pc := 92) C dX11_reads_92 (by decide) rfl ?_
    refine go_aload_n (pc := 94) C 2 dX11_reads_94 rfl ?_
    refine go_gR (pc := 95) C fdX11_9 dX11_reads_95 (fun x7 => ?_)
    refine go_iload_n (pc := 98) C 3 dX11_reads_98 rfl ?_
    refine go_iload_n (pc := 99) C 4 dX11_reads_99 rfl ?_
    refine go_bind (fun q8 hq8 => ?_)
    refine go_callS (rest := []) (st' := []) (c' := 0) (s' := 0) (pc := 100) C O miX11_280 w_1620 [.ref x7, .int v1, .int v2] rfl (mX11_goFetch hq8) dX11_reads_100 ⟨by decide, by decide, by decide, by decide⟩ rfl (Nat.le_of_ble_eq_true rfl) rfl ⟨rfl, rfl⟩ ?_
    refine go_aload_n (pc := 103) C 2 dX11_reads_103 rfl ?_
    refine go_iconst (pc := 104) C dX11_reads_104 ki_0 ?_
    refine go_pI (pc := 105) C fpX11_81 dX11_reads_105 (fun h9 => ?_)
    refine go_aload_n (pc := 108) C 2 dX11_reads_108 rfl ?_
    refine go_iload (pc := 109) C 1 dX11_reads_109 rfl ?_
    refine go_i2l (pc := 111) C dX11_reads_111 ?_
    refine go_bind (fun q10 hq10 => ?_)
    refine go_callV (rest := []) (st' := []) (c' := 0) (s' := 0) (pc := 112) C O miX11_283 mvX11_tell [.long (Int32.toInt64 q4)] rfl (mX11_tell hq10).1 (mX11_tell hq10).2 dX11_reads_112 ⟨by decide, by decide, by decide, by decide⟩ rfl (Nat.le_of_ble_eq_true rfl) rfl ⟨rfl, rfl⟩ ?_
    refine go_iload (pc := 115) C 0 dX11_reads_115 rfl ?_
    exact go_iret (w := wIh) (pc := 117) C E ((q6, q10)) q6 dX11_reads_117 rfl
  · refine go_iload_n (pc := 62) C 3 dX11_reads_62 rfl ?_
    exact go_iret (w := wIh) (pc := 63) C E ((v3, h)) v3 dX11_reads_63 rfl
set_option maxHeartbeats 4000000 in
theorem mX11_reads {h : AH} {a0 : Nat} {a1 : Int32} {a2 : Int32} {r : Int32 × AH} (hr : fX11_reads h a0 a1 a2 = some r) : hasC h 11 a0 = true ∧ MC yX11_reads cX11_reads 6 (some .int) 5 0 0 [.ref a0, .int a1, .int a2] h (some (.int r.1)) r.2 := by
  unfold fX11_reads at hr
  obtain ⟨hc, hr⟩ := if_some hr
  refine ⟨hc, mc_of (l0 := [(0, .ref a0), (1, .int a1), (2, .int a2)]) rfl pn_X11 (Nat.le_of_ble_eq_true rfl) (fun Y X C E O hnm => go_run hr ?_)⟩
  have C : CT Y X RX11 cX11_reads 6 := C
  refine go_aload_n (pc := 0) C 0 dX11_reads_0 rfl ?_
  refine go_iconst (pc := 1) C dX11_reads_1 ki_0 ?_
  refine go_pI (pc := 2) C fpX11_77 dX11_reads_2 (fun h11 => ?_)
  refine go_aload_n (pc := 5) C 0 dX11_reads_5 rfl ?_
  refine go_gR (pc := 6) C fdX11_9 dX11_reads_6 (fun x12 => ?_)
  refine go_iload_n (pc := 9) C 1 dX11_reads_9 rfl ?_
  refine go_bind (fun q13 hq13 => ?_)
  refine go_callS (rest := []) (st' := [.int (b2i q13)]) (c' := 0) (s' := 0) (pc := 10) C O miX11_106 w_1479 [.ref x12, .int a1] rfl (mX11_isSpace hq13) dX11_reads_10 ⟨by decide, by decide, by decide, by decide⟩ rfl (Nat.le_of_ble_eq_true rfl) rfl ⟨rfl, rfl⟩ ?_
  refine go_ifZ_eq (pc := 13) C 23 dX11_reads_13 (by decide) (fun _ => ?_) (fun _ => ?_)
  · refine go_iload_n (pc := 16) C 2 dX11_reads_16 rfl ?_
    refine go_bind (fun q14 hq14 => ?_)
    refine go_callS (rest := []) (st' := [.int (b2i q14)]) (c' := 0) (s' := 0) (pc := 17) C O miX11_249 w_1585 [.int a2] rfl (mX11_isPage hq14) dX11_reads_17 ⟨by decide, by decide, by decide, by decide⟩ rfl (Nat.le_of_ble_eq_true rfl) rfl ⟨rfl, rfl⟩ ?_
    refine go_ifZ_ne (pc := 20) C 25 dX11_reads_20 (by decide) (fun _ => ?_) (fun _ => ?_)
    · refine go_aload_n (pc := 25) C 0 dX11_reads_25 rfl ?_
      refine go_gR (pc := 26) C fdX11_9 dX11_reads_26 (fun x15 => ?_)
      refine go_iload_n (pc := 29) C 1 dX11_reads_29 rfl ?_
      refine go_iload_n (pc := 30) C 2 dX11_reads_30 rfl ?_
      refine go_bind (fun q16 hq16 => ?_)
      refine go_callS (rest := []) (st' := [.int q16]) (c' := 0) (s' := 0) (pc := 31) C O miX11_274 w_1596 [.ref x15, .int a1, .int a2] rfl (mX11_refusesRead hq16) dX11_reads_31 ⟨by decide, by decide, by decide, by decide⟩ rfl (Nat.le_of_ble_eq_true rfl) rfl ⟨rfl, rfl⟩ ?_
      refine go_istore_n (ls' := [(3, .int q16), (0, .ref a0), (1, .int a1), (2, .int a2)]) (pc := 34) C dX11_reads_34 (by decide) rfl ?_
      refine go_iload_n (pc := 35) C 0 dX11_reads_35 rfl ?_
      refine go_bipush (pc := 36) C dX11_reads_36 kb_m3 ?_
      refine go_icmp_ne (pc := 38) C 58 dX11_reads_38 (by decide) (fun _ => ?_) (fun _ => ?_)
      · refine go_aload_n (pc := 41) C 1 dX11_reads_41 rfl ?_
        refine go_aload_n (pc := 42) C 1 dX11_reads_42 rfl ?_
        refine go_gR (pc := 43) C fdX11_9 dX11_reads_43 (fun x17 => ?_)
        refine go_bind (fun q18 hq18 => ?_)
        refine go_callV (rest := []) (st' := []) (c' := 0) (s' := 0) (pc := 46) C O miX11_184 mvX11_remember [.ref x17] rfl (mX11_remember hq18).1 (mX11_remember hq18).2 dX11_reads_46 ⟨by decide, by decide, by decide, by decide⟩ rfl (Nat.le_of_ble_eq_true rfl) rfl ⟨rfl, rfl⟩ ?_
        refine go_aload_n (pc := 49) C 1 dX11_reads_49 rfl ?_
        refine go_gR (pc := 50) C fdX11_9 dX11_reads_50 (fun x19 => ?_)
        refine go_iload_n (pc := 53) C 2 dX11_reads_53 rfl ?_
        refine go_iload_n (pc := 54) C 3 dX11_reads_54 rfl ?_
        refine go_bind (fun q20 hq20 => ?_)
        refine go_callS (rest := []) (st' := []) (c' := 0) (s' := 0) (pc := 55) C O miX11_277 w_1614 [.ref x19, .int a1, .int a2] rfl (mX11_goAwait hq20) dX11_reads_55 ⟨by decide, by decide, by decide, by decide⟩ rfl (Nat.le_of_ble_eq_true rfl) rfl ⟨rfl, rfl⟩ ?_
        refine go_sub (ls' := [(0, .ref a0), (1, .int a1), (2, .int a2), (3, .int q16)]) [1, 2, 3, 0] rfl ?_
        refine gX11_reads_J58 C O E q20 a0 a1 a2 q16
      · refine go_sub (ls' := [(0, .ref a0), (1, .int a1), (2, .int a2), (3, .int q16)]) [1, 2, 3, 0] rfl ?_
        refine gX11_reads_J58 C O E h11 a0 a1 a2 q16
    · refine go_iconst (pc := 23) C dX11_reads_23 ki_m1 ?_
      exact go_iret (w := wIh) (pc := 24) C E (((-1), h11)) ((-1)) dX11_reads_24 rfl
  · refine go_iconst (pc := 23) C dX11_reads_23 ki_m1 ?_
    exact go_iret (w := wIh) (pc := 24) C E (((-1), h11)) ((-1)) dX11_reads_24 rfl
theorem dX11_isShared_0 : decode cX11_isShared 0 = .ok (.aload_n 0, 1) := by decide +kernel
theorem dX11_isShared_1 : decode cX11_isShared 1 = .ok (.sipush 318, 3) := by decide +kernel
theorem dX11_isShared_4 : decode cX11_isShared 4 = .ok (.iload_n 1, 1) := by decide +kernel
theorem dX11_isShared_5 : decode cX11_isShared 5 = .ok (.iadd, 1) := by decide +kernel
theorem dX11_isShared_6 : decode cX11_isShared 6 = .ok (.iaload, 1) := by decide +kernel
theorem dX11_isShared_7 : decode cX11_isShared 7 = .ok (.iconst 1, 1) := by decide +kernel
theorem dX11_isShared_8 : decode cX11_isShared 8 = .ok (.if_icmp .ne 22, 3) := by decide +kernel
theorem dX11_isShared_11 : decode cX11_isShared 11 = .ok (.aload_n 0, 1) := by decide +kernel
theorem dX11_isShared_12 : decode cX11_isShared 12 = .ok (.aload_n 0, 1) := by decide +kernel
theorem dX11_isShared_13 : decode cX11_isShared 13 = .ok (.sipush 312, 3) := by decide +kernel
theorem dX11_isShared_16 : decode cX11_isShared 16 = .ok (.iload_n 1, 1) := by decide +kernel
theorem dX11_isShared_17 : decode cX11_isShared 17 = .ok (.iadd, 1) := by decide +kernel
theorem dX11_isShared_18 : decode cX11_isShared 18 = .ok (.iaload, 1) := by decide +kernel
theorem dX11_isShared_19 : decode cX11_isShared 19 = .ok (.invokestatic 109, 3) := by decide +kernel
theorem dX11_isShared_22 : decode cX11_isShared 22 = .ok (.iconst 1, 1) := by decide +kernel
theorem dX11_isShared_23 : decode cX11_isShared 23 = .ok (.if_icmp .le 7, 3) := by decide +kernel
theorem dX11_isShared_26 : decode cX11_isShared 26 = .ok (.iconst 1, 1) := by decide +kernel
theorem dX11_isShared_27 : decode cX11_isShared 27 = .ok (.goto 4, 3) := by decide +kernel
theorem dX11_isShared_30 : decode cX11_isShared 30 = .ok (.iconst 0, 1) := by decide +kernel
theorem dX11_isShared_31 : decode cX11_isShared 31 = .ok (.ireturn, 1) := by decide +kernel
def fX11_isShared (h : AH) (a0 : Nat) (a1 : Int32) : Option (Bool) :=
  (aI h 0 a0 (318 + a1)).bind fun x1 =>
  if x1 = 1 then (
    (aI h 0 a0 (312 + a1)).bind fun x2 =>
    (fX11_holdersOf h a0 x2).bind fun q3 =>
    if q3 ≤ 1 then (
      some false
    ) else (
      some true
    )
  ) else (
    some false
  )
set_option maxHeartbeats 4000000 in
theorem mX11_isShared {h : AH} {a0 : Nat} {a1 : Int32} {r : Bool} (hr : fX11_isShared h a0 a1 = some r) : MC yX11_isShared cX11_isShared 2 (some .boolean) 3 0 0 [.ref a0, .int a1] h (some (.int (b2i r))) h := by
  unfold fX11_isShared at hr
  refine mc_of (l0 := [(0, .ref a0), (1, .int a1)]) rfl pn_X11 (Nat.le_of_ble_eq_true rfl) (fun Y X C E O hnm => go_run hr ?_)
  have C : CT Y X RX11 cX11_isShared 2 := C
  refine go_aload_n (pc := 0) C 0 dX11_isShared_0 rfl ?_
  refine go_sipush (pc := 1) C dX11_isShared_1 ks_318 ?_
  refine go_iload_n (pc := 4) C 1 dX11_isShared_4 rfl ?_
  refine go_iadd (pc := 5) C dX11_isShared_5 ?_
  refine go_iald (pc := 6) C dX11_isShared_6 (fun x1 => ?_)
  refine go_iconst (pc := 7) C dX11_isShared_7 ki_1 ?_
  refine go_icmp_ne (pc := 8) C 30 dX11_isShared_8 (by decide) (fun _ => ?_) (fun _ => ?_)
  · refine go_aload_n (pc := 11) C 0 dX11_isShared_11 rfl ?_
    refine go_aload_n (pc := 12) C 0 dX11_isShared_12 rfl ?_
    refine go_sipush (pc := 13) C dX11_isShared_13 ks_312 ?_
    refine go_iload_n (pc := 16) C 1 dX11_isShared_16 rfl ?_
    refine go_iadd (pc := 17) C dX11_isShared_17 ?_
    refine go_iald (pc := 18) C dX11_isShared_18 (fun x2 => ?_)
    refine go_bind (fun q3 hq3 => ?_)
    refine go_callS (rest := []) (st' := [.int q3]) (c' := 0) (s' := 0) (pc := 19) C O miX11_109 w_1578 [.ref a0, .int x2] rfl (mX11_holdersOf hq3) dX11_isShared_19 ⟨by decide, by decide, by decide, by decide⟩ rfl (Nat.le_of_ble_eq_true rfl) rfl ⟨rfl, rfl⟩ ?_
    refine go_iconst (pc := 22) C dX11_isShared_22 ki_1 ?_
    refine go_icmp_le (pc := 23) C 30 dX11_isShared_23 (by decide) (fun _ => ?_) (fun _ => ?_)
    · refine go_iconst (pc := 30) C dX11_isShared_30 ki_0 ?_
      exact go_bret (w := (wZ h)) (pc := 31) C E false 0 false rfl dX11_isShared_31 rfl
    · refine go_iconst (pc := 26) C dX11_isShared_26 ki_1 ?_
      refine go_goto (pc := 27) C 31 dX11_isShared_27 (by decide) ?_
      exact go_bret (w := (wZ h)) (pc := 31) C E true 1 true rfl dX11_isShared_31 rfl
  · refine go_iconst (pc := 30) C dX11_isShared_30 ki_0 ?_
    exact go_bret (w := (wZ h)) (pc := 31) C E false 0 false rfl dX11_isShared_31 rfl
theorem dX11_refusesWrite_0 : decode cX11_refusesWrite 0 = .ok (.aload_n 0, 1) := by decide +kernel
theorem dX11_refusesWrite_1 : decode cX11_refusesWrite 1 = .ok (.sipush 312, 3) := by decide +kernel
theorem dX11_refusesWrite_4 : decode cX11_refusesWrite 4 = .ok (.iload_n 1, 1) := by decide +kernel
theorem dX11_refusesWrite_5 : decode cX11_refusesWrite 5 = .ok (.iadd, 1) := by decide +kernel
theorem dX11_refusesWrite_6 : decode cX11_refusesWrite 6 = .ok (.iaload, 1) := by decide +kernel
theorem dX11_refusesWrite_7 : decode cX11_refusesWrite 7 = .ok (.istore_n 3, 1) := by decide +kernel
theorem dX11_refusesWrite_8 : decode cX11_refusesWrite 8 = .ok (.aload_n 0, 1) := by decide +kernel
theorem dX11_refusesWrite_9 : decode cX11_refusesWrite 9 = .ok (.iload_n 1, 1) := by decide +kernel
theorem dX11_refusesWrite_10 : decode cX11_refusesWrite 10 = .ok (.invokestatic 287, 3) := by decide +kernel
theorem dX11_refusesWrite_13 : decode cX11_refusesWrite 13 = .ok (.istore 4, 2) := by decide +kernel
theorem dX11_refusesWrite_15 : decode cX11_refusesWrite 15 = .ok (.iconst 0, 1) := by decide +kernel
theorem dX11_refusesWrite_16 : decode cX11_refusesWrite 16 = .ok (.istore 5, 2) := by decide +kernel
theorem dX11_refusesWrite_18 : decode cX11_refusesWrite 18 = .ok (.aload_n 0, 1) := by decide +kernel
theorem dX11_refusesWrite_19 : decode cX11_refusesWrite 19 = .ok (.iload_n 3, 1) := by decide +kernel
theorem dX11_refusesWrite_20 : decode cX11_refusesWrite 20 = .ok (.iload_n 2, 1) := by decide +kernel
theorem dX11_refusesWrite_21 : decode cX11_refusesWrite 21 = .ok (.invokestatic 92, 3) := by decide +kernel
theorem dX11_refusesWrite_24 : decode cX11_refusesWrite 24 = .ok (.istore 6, 2) := by decide +kernel
theorem dX11_refusesWrite_26 : decode cX11_refusesWrite 26 = .ok (.iload 6, 2) := by decide +kernel
theorem dX11_refusesWrite_28 : decode cX11_refusesWrite 28 = .ok (.ifCond .ne 49, 3) := by decide +kernel
theorem dX11_refusesWrite_31 : decode cX11_refusesWrite 31 = .ok (.aload_n 0, 1) := by decide +kernel
theorem dX11_refusesWrite_32 : decode cX11_refusesWrite 32 = .ok (.iload_n 1, 1) := by decide +kernel
theorem dX11_refusesWrite_33 : decode cX11_refusesWrite 33 = .ok (.iload_n 2, 1) := by decide +kernel
theorem dX11_refusesWrite_34 : decode cX11_refusesWrite 34 = .ok (.invokestatic 271, 3) := by decide +kernel
theorem dX11_refusesWrite_37 : decode cX11_refusesWrite 37 = .ok (.istore 7, 2) := by decide +kernel
theorem dX11_refusesWrite_39 : decode cX11_refusesWrite 39 = .ok (.iload 7, 2) := by decide +kernel
theorem dX11_refusesWrite_41 : decode cX11_refusesWrite 41 = .ok (.ifCond .ge 6, 3) := by decide +kernel
theorem dX11_refusesWrite_44 : decode cX11_refusesWrite 44 = .ok (.iload 7, 2) := by decide +kernel
theorem dX11_refusesWrite_46 : decode cX11_refusesWrite 46 = .ok (.ireturn, 1) := by decide +kernel
theorem dX11_refusesWrite_47 : decode cX11_refusesWrite 47 = .ok (.aload_n 0, 1) := by decide +kernel
theorem dX11_refusesWrite_48 : decode cX11_refusesWrite 48 = .ok (.iload_n 1, 1) := by decide +kernel
theorem dX11_refusesWrite_49 : decode cX11_refusesWrite 49 = .ok (.iload_n 2, 1) := by decide +kernel
theorem dX11_refusesWrite_50 : decode cX11_refusesWrite 50 = .ok (.invokestatic 265, 3) := by decide +kernel
theorem dX11_refusesWrite_53 : decode cX11_refusesWrite 53 = .ok (.ifCond .eq 24, 3) := by decide +kernel
theorem dX11_refusesWrite_56 : decode cX11_refusesWrite 56 = .ok (.iinc 5 1, 3) := by decide +kernel
theorem dX11_refusesWrite_59 : decode cX11_refusesWrite 59 = .ok (.aload_n 0, 1) := by decide +kernel
theorem dX11_refusesWrite_60 : decode cX11_refusesWrite 60 = .ok (.sipush 192, 3) := by decide +kernel
theorem dX11_refusesWrite_63 : decode cX11_refusesWrite 63 = .ok (.iload_n 3, 1) := by decide +kernel
theorem dX11_refusesWrite_64 : decode cX11_refusesWrite 64 = .ok (.iadd, 1) := by decide +kernel
theorem dX11_refusesWrite_65 : decode cX11_refusesWrite 65 = .ok (.iaload, 1) := by decide +kernel
theorem dX11_refusesWrite_66 : decode cX11_refusesWrite 66 = .ok (.iconst (-1), 1) := by decide +kernel
theorem dX11_refusesWrite_67 : decode cX11_refusesWrite 67 = .ok (.if_icmp .ne 7, 3) := by decide +kernel
theorem dX11_refusesWrite_70 : decode cX11_refusesWrite 70 = .ok (.iconst 1, 1) := by decide +kernel
theorem dX11_refusesWrite_71 : decode cX11_refusesWrite 71 = .ok (.goto 4, 3) := by decide +kernel
theorem dX11_refusesWrite_74 : decode cX11_refusesWrite 74 = .ok (.iconst 0, 1) := by decide +kernel
theorem dX11_refusesWrite_75 : decode cX11_refusesWrite 75 = .ok (.istore 6, 2) := by decide +kernel
theorem dX11_refusesWrite_77 : decode cX11_refusesWrite 77 = .ok (.iload 4, 2) := by decide +kernel
theorem dX11_refusesWrite_79 : decode cX11_refusesWrite 79 = .ok (.ifCond .eq 14, 3) := by decide +kernel
theorem dX11_refusesWrite_82 : decode cX11_refusesWrite 82 = .ok (.aload_n 0, 1) := by decide +kernel
theorem dX11_refusesWrite_83 : decode cX11_refusesWrite 83 = .ok (.invokestatic 165, 3) := by decide +kernel
theorem dX11_refusesWrite_86 : decode cX11_refusesWrite 86 = .ok (.iconst (-1), 1) := by decide +kernel
theorem dX11_refusesWrite_87 : decode cX11_refusesWrite 87 = .ok (.if_icmp .ne 6, 3) := by decide +kernel
theorem dX11_refusesWrite_90 : decode cX11_refusesWrite 90 = .ok (.bipush (-6), 2) := by decide +kernel
theorem dX11_refusesWrite_92 : decode cX11_refusesWrite 92 = .ok (.ireturn, 1) := by decide +kernel
theorem dX11_refusesWrite_93 : decode cX11_refusesWrite 93 = .ok (.iload 4, 2) := by decide +kernel
theorem dX11_refusesWrite_95 : decode cX11_refusesWrite 95 = .ok (.ifCond .eq 7, 3) := by decide +kernel
theorem dX11_refusesWrite_98 : decode cX11_refusesWrite 98 = .ok (.iconst (-1), 1) := by decide +kernel
theorem dX11_refusesWrite_99 : decode cX11_refusesWrite 99 = .ok (.goto 10, 3) := by decide +kernel
theorem dX11_refusesWrite_102 : decode cX11_refusesWrite 102 = .ok (.aload_n 0, 1) := by decide +kernel
theorem dX11_refusesWrite_103 : decode cX11_refusesWrite 103 = .ok (.sipush 264, 3) := by decide +kernel
theorem dX11_refusesWrite_106 : decode cX11_refusesWrite 106 = .ok (.iload_n 3, 1) := by decide +kernel
theorem dX11_refusesWrite_107 : decode cX11_refusesWrite 107 = .ok (.iadd, 1) := by decide +kernel
theorem dX11_refusesWrite_108 : decode cX11_refusesWrite 108 = .ok (.iaload, 1) := by decide +kernel
theorem dX11_refusesWrite_109 : decode cX11_refusesWrite 109 = .ok (.istore 7, 2) := by decide +kernel
theorem dX11_refusesWrite_111 : decode cX11_refusesWrite 111 = .ok (.iload 7, 2) := by decide +kernel
theorem dX11_refusesWrite_113 : decode cX11_refusesWrite 113 = .ok (.iconst (-1), 1) := by decide +kernel
theorem dX11_refusesWrite_114 : decode cX11_refusesWrite 114 = .ok (.if_icmp .eq 16, 3) := by decide +kernel
theorem dX11_refusesWrite_117 : decode cX11_refusesWrite 117 = .ok (.aload_n 0, 1) := by decide +kernel
theorem dX11_refusesWrite_118 : decode cX11_refusesWrite 118 = .ok (.iload 7, 2) := by decide +kernel
theorem dX11_refusesWrite_120 : decode cX11_refusesWrite 120 = .ok (.iload_n 2, 1) := by decide +kernel
theorem dX11_refusesWrite_121 : decode cX11_refusesWrite 121 = .ok (.invokestatic 92, 3) := by decide +kernel
theorem dX11_refusesWrite_124 : decode cX11_refusesWrite 124 = .ok (.ifCond .ne 6, 3) := by decide +kernel
theorem dX11_refusesWrite_127 : decode cX11_refusesWrite 127 = .ok (.iinc 5 1, 3) := by decide +kernel
theorem dX11_refusesWrite_130 : decode cX11_refusesWrite 130 = .ok (.iload 4, 2) := by decide +kernel
theorem dX11_refusesWrite_132 : decode cX11_refusesWrite 132 = .ok (.ifCond .ne 8, 3) := by decide +kernel
theorem dX11_refusesWrite_135 : decode cX11_refusesWrite 135 = .ok (.iload 6, 2) := by decide +kernel
theorem dX11_refusesWrite_137 : decode cX11_refusesWrite 137 = .ok (.ifCond .ne 6, 3) := by decide +kernel
theorem dX11_refusesWrite_140 : decode cX11_refusesWrite 140 = .ok (.iinc 5 1, 3) := by decide +kernel
theorem dX11_refusesWrite_143 : decode cX11_refusesWrite 143 = .ok (.aload_n 0, 1) := by decide +kernel
theorem dX11_refusesWrite_144 : decode cX11_refusesWrite 144 = .ok (.invokestatic 181, 3) := by decide +kernel
theorem dX11_refusesWrite_147 : decode cX11_refusesWrite 147 = .ok (.iload 5, 2) := by decide +kernel
theorem dX11_refusesWrite_149 : decode cX11_refusesWrite 149 = .ok (.iadd, 1) := by decide +kernel
theorem dX11_refusesWrite_150 : decode cX11_refusesWrite 150 = .ok (.bipush 64, 2) := by decide +kernel
theorem dX11_refusesWrite_152 : decode cX11_refusesWrite 152 = .ok (.if_icmp .le 8, 3) := by decide +kernel
theorem dX11_refusesWrite_155 : decode cX11_refusesWrite 155 = .ok (.bipush (-5), 2) := by decide +kernel
theorem dX11_refusesWrite_157 : decode cX11_refusesWrite 157 = .ok (.goto 4, 3) := by decide +kernel
theorem dX11_refusesWrite_160 : decode cX11_refusesWrite 160 = .ok (.iconst 0, 1) := by decide +kernel
theorem dX11_refusesWrite_161 : decode cX11_refusesWrite 161 = .ok (.ireturn, 1) := by decide +kernel
def fX11_refusesWrite_J143 (h : AH) (v0 : Nat) (v5 : Int32) : Option (Int32) :=
    (fX11_framesOf h v0).bind fun q1 =>
    if (q1 + v5) ≤ 64 then (
      some 0
    ) else (
      some ((-5))
    )
def fX11_refusesWrite_J130 (h : AH) (v0 : Nat) (v4 : Bool) (v5 : Int32) (v6 : Int32) : Option (Int32) :=
    if v4 = true then (
      letF (v5 + 1 : Int32) fun x2 =>
      fX11_refusesWrite_J143 h v0 x2
    ) else (
      if v6 = 0 then (
        letF (v5 + 1 : Int32) fun x3 =>
        fX11_refusesWrite_J143 h v0 x3
      ) else (
        fX11_refusesWrite_J143 h v0 v5
      )
    )
def fX11_refusesWrite_J109 (h : AH) (v0 : Nat) (v2 : Int32) (v4 : Bool) (v5 : Int32) (v6 : Int32) (s0 : Int32) : Option (Int32) :=
    if s0 = ((-1)) then (
      fX11_refusesWrite_J130 h v0 v4 v5 v6
    ) else (
      (fX11_holds h v0 s0 v2).bind fun q4 =>
      if q4 = true then (
        fX11_refusesWrite_J130 h v0 v4 v5 v6
      ) else (
        letF (v5 + 1 : Int32) fun x5 =>
        fX11_refusesWrite_J130 h v0 v4 x5 v6
      )
    )
def fX11_refusesWrite_J93 (h : AH) (v0 : Nat) (v2 : Int32) (v3 : Int32) (v4 : Bool) (v5 : Int32) (v6 : Int32) : Option (Int32) :=
    if v4 = true then (
      fX11_refusesWrite_J109 h v0 v2 v4 v5 v6 ((-1))
    ) else (
      (aI h 0 v0 (264 + v3)).bind fun x6 =>
      fX11_refusesWrite_J109 h v0 v2 v4 v5 v6 x6
    )
def fX11_refusesWrite_J77 (h : AH) (v0 : Nat) (v2 : Int32) (v3 : Int32) (v4 : Bool) (v5 : Int32) (v6 : Int32) : Option (Int32) :=
    if v4 = true then (
      (fX11_freeObject h v0).bind fun q7 =>
      if q7 = ((-1)) then (
        some ((-6))
      ) else (
        fX11_refusesWrite_J93 h v0 v2 v3 v4 v5 v6
      )
    ) else (
      fX11_refusesWrite_J93 h v0 v2 v3 v4 v5 v6
    )
def fX11_refusesWrite (h : AH) (a0 : Nat) (a1 : Int32) (a2 : Int32) : Option (Int32) :=
  (aI h 0 a0 (312 + a1)).bind fun x8 =>
  (fX11_isShared h a0 a1).bind fun q9 =>
  (fX11_holds h a0 x8 a2).bind fun q10 =>
  if q10 = true then (
    fX11_refusesWrite_J77 h a0 a2 x8 q9 0 (b2i q10)
  ) else (
    (fX11_refusesFetch h a0 a1 a2).bind fun q11 =>
    if 0 ≤ q11 then (
      (fX11_isFetched h a0 a1 a2).bind fun q12 =>
      if q12 = true then (
        letF (0 + 1 : Int32) fun x13 =>
        (aI h 0 a0 (192 + x8)).bind fun x14 =>
        if x14 = ((-1)) then (
          fX11_refusesWrite_J77 h a0 a2 x8 q9 x13 1
        ) else (
          fX11_refusesWrite_J77 h a0 a2 x8 q9 x13 0
        )
      ) else (
        fX11_refusesWrite_J77 h a0 a2 x8 q9 0 (b2i q10)
      )
    ) else (
      some q11
    )
  )
set_option maxHeartbeats 4000000 in
theorem gX11_refusesWrite_J143 {Y : YT} {X : XT} (C : CT Y X RX11 cX11_refusesWrite 8) (O : RO X 4 0 0) {h : AH} {r : Int32} (E : RX Y X (some .int) (some (.int r)) h 0 0) : ∀ (v0 : Nat) (v5 : Int32), GO Y X 8 r h 0 0 143 [(0, .ref v0), (5, .int v5)] [] (fX11_refusesWrite_J143 h v0 v5) := by
  intro v0 v5
  unfold fX11_refusesWrite_J143
  refine go_aload_n (pc := 143) C 0 dX11_refusesWrite_143 rfl ?_
  refine go_bind (fun q1 hq1 => ?_)
  refine go_callS (rest := []) (st' := [.int q1]) (c' := 0) (s' := 0) (pc := 144) C O miX11_181 w_1488 [.ref v0] rfl (mX11_framesOf hq1) dX11_refusesWrite_144 ⟨by decide, by decide, by decide, by decide⟩ rfl (Nat.le_of_ble_eq_true rfl) rfl ⟨rfl, rfl⟩ ?_
  refine go_iload (pc := 147) C 1 dX11_refusesWrite_147 rfl ?_
  refine go_iadd (pc := 149) C dX11_refusesWrite_149 ?_
  refine go_bipush (pc := 150) C dX11_refusesWrite_150 kb_64 ?_
  refine go_icmp_le (pc := 152) C 160 dX11_refusesWrite_152 (by decide) (fun _ => ?_) (fun _ => ?_)
  · refine go_iconst (pc := 160) C dX11_refusesWrite_160 ki_0 ?_
    exact go_iret (w := (wI h)) (pc := 161) C E 0 0 dX11_refusesWrite_161 rfl
  · refine go_bipush (pc := 155) C dX11_refusesWrite_155 kb_m5 ?_
    refine go_goto (pc := 157) C 161 dX11_refusesWrite_157 (by decide) ?_
    exact go_iret (w := (wI h)) (pc := 161) C E ((-5)) ((-5)) dX11_refusesWrite_161 rfl
set_option maxHeartbeats 4000000 in
theorem gX11_refusesWrite_J130 {Y : YT} {X : XT} (C : CT Y X RX11 cX11_refusesWrite 8) (O : RO X 4 0 0) {h : AH} {r : Int32} (E : RX Y X (some .int) (some (.int r)) h 0 0) : ∀ (v0 : Nat) (v4 : Bool) (v5 : Int32) (v6 : Int32), GO Y X 8 r h 0 0 130 [(0, .ref v0), (4, .int (b2i v4)), (5, .int v5), (6, .int v6)] [] (fX11_refusesWrite_J130 h v0 v4 v5 v6) := by
  intro v0 v4 v5 v6
  unfold fX11_refusesWrite_J130
  refine go_iload (pc := 130) C 1 dX11_refusesWrite_130 rfl ?_
  refine go_ifZ_ne (pc := 132) C 140 dX11_refusesWrite_132 (by decide) (fun _ => ?_) (fun _ => ?_)
  · refine go_iincL (pc := 140) C 2 dX11_refusesWrite_140 rfl ki_1 (by decide) (fun x2 => [(5, .int x2), (0, .ref v0), (4, .int (b2i v4)), (6, .int v6)]) (fun _ => rfl) (fun x2 => ?_)
    refine go_sub (ls' := [(0, .ref v0), (5, .int x2)]) [1, 0] rfl ?_
    refine gX11_refusesWrite_J143 C O E v0 x2
  · refine go_iload (pc := 135) C 3 dX11_refusesWrite_135 rfl ?_
    refine go_if_ne (pc := 137) C 143 dX11_refusesWrite_137 (by decide) (fun _ => ?_) (fun _ => ?_)
    · refine go_iincL (pc := 140) C 2 dX11_refusesWrite_140 rfl ki_1 (by decide) (fun x3 => [(5, .int x3), (0, .ref v0), (4, .int (b2i v4)), (6, .int v6)]) (fun _ => rfl) (fun x3 => ?_)
      refine go_sub (ls' := [(0, .ref v0), (5, .int x3)]) [1, 0] rfl ?_
      refine gX11_refusesWrite_J143 C O E v0 x3
    · refine go_sub (ls' := [(0, .ref v0), (5, .int v5)]) [0, 2] rfl ?_
      refine gX11_refusesWrite_J143 C O E v0 v5
set_option maxHeartbeats 4000000 in
theorem gX11_refusesWrite_J109 {Y : YT} {X : XT} (C : CT Y X RX11 cX11_refusesWrite 8) (O : RO X 4 0 0) {h : AH} {r : Int32} (E : RX Y X (some .int) (some (.int r)) h 0 0) : ∀ (v0 : Nat) (v2 : Int32) (v4 : Bool) (v5 : Int32) (v6 : Int32) (s0 : Int32), GO Y X 8 r h 0 0 109 [(0, .ref v0), (2, .int v2), (4, .int (b2i v4)), (5, .int v5), (6, .int v6)] [.int s0] (fX11_refusesWrite_J109 h v0 v2 v4 v5 v6 s0) := by
  intro v0 v2 v4 v5 v6 s0
  unfold fX11_refusesWrite_J109
  refine go_istore (ls' := [(7, .int s0), (0, .ref v0), (2, .int v2), (4, .int (b2i v4)), (5, .int v5), (6, .int v6)]) (pc := 109) C dX11_refusesWrite_109 (by decide) rfl ?_
  refine go_iload (pc := 111) C 0 dX11_refusesWrite_111 rfl ?_
  refine go_iconst (pc := 113) C dX11_refusesWrite_113 ki_m1 ?_
  refine go_icmp_eq (pc := 114) C 130 dX11_refusesWrite_114 (by decide) (fun _ => ?_) (fun _ => ?_)
  · refine go_sub (ls' := [(0, .ref v0), (4, .int (b2i v4)), (5, .int v5), (6, .int v6)]) [1, 3, 4, 5] rfl ?_
    refine gX11_refusesWrite_J130 C O E v0 v4 v5 v6
  · refine go_aload_n (pc := 117) C 1 dX11_refusesWrite_117 rfl ?_
    refine go_iload (pc := 118) C 0 dX11_refusesWrite_118 rfl ?_
    refine go_iload_n (pc := 120) C 2 dX11_refusesWrite_120 rfl ?_
    refine go_bind (fun q4 hq4 => ?_)
    refine go_callS (rest := []) (st' := [.int (b2i q4)]) (c' := 0) (s' := 0) (pc := 121) C O miX11_92 w_1494 [.ref v0, .int s0, .int v2] rfl (mX11_holds hq4) dX11_refusesWrite_121 ⟨by decide, by decide, by decide, by decide⟩ rfl (Nat.le_of_ble_eq_true rfl) rfl ⟨rfl, rfl⟩ ?_
    refine go_ifZ_ne (pc := 124) C 130 dX11_refusesWrite_124 (by decide) (fun _ => ?_) (fun _ => ?_)
    · refine go_sub (ls' := [(0, .ref v0), (4, .int (b2i v4)), (5, .int v5), (6, .int v6)]) [1, 3, 4, 5] rfl ?_
      refine gX11_refusesWrite_J130 C O E v0 v4 v5 v6
    · refine go_iincL (pc := 127) C 4 dX11_refusesWrite_127 rfl ki_1 (by decide) (fun x5 => [(5, .int x5), (7, .int s0), (0, .ref v0), (2, .int v2), (4, .int (b2i v4)), (6, .int v6)]) (fun _ => rfl) (fun x5 => ?_)
      refine go_sub (ls' := [(0, .ref v0), (4, .int (b2i v4)), (5, .int x5), (6, .int v6)]) [2, 4, 0, 5] rfl ?_
      refine gX11_refusesWrite_J130 C O E v0 v4 x5 v6
set_option maxHeartbeats 4000000 in
theorem gX11_refusesWrite_J93 {Y : YT} {X : XT} (C : CT Y X RX11 cX11_refusesWrite 8) (O : RO X 4 0 0) {h : AH} {r : Int32} (E : RX Y X (some .int) (some (.int r)) h 0 0) : ∀ (v0 : Nat) (v2 : Int32) (v3 : Int32) (v4 : Bool) (v5 : Int32) (v6 : Int32), GO Y X 8 r h 0 0 93 [(0, .ref v0), (2, .int v2), (3, .int v3), (4, .int (b2i v4)), (5, .int v5), (6, .int v6)] [] (fX11_refusesWrite_J93 h v0 v2 v3 v4 v5 v6) := by
  intro v0 v2 v3 v4 v5 v6
  unfold fX11_refusesWrite_J93
  refine go_iload (pc := 93) C 3 dX11_refusesWrite_93 rfl ?_
  refine go_ifZ_eq (pc := 95) C 102 dX11_refusesWrite_95 (by decide) (fun _ => ?_) (fun _ => ?_)
  · refine go_iconst (pc := 98) C dX11_refusesWrite_98 ki_m1 ?_
    refine go_goto (pc := 99) C 109 dX11_refusesWrite_99 (by decide) ?_
    refine go_sub (ls' := [(0, .ref v0), (2, .int v2), (4, .int (b2i v4)), (5, .int v5), (6, .int v6)]) [0, 1, 3, 4, 5] rfl ?_
    refine gX11_refusesWrite_J109 C O E v0 v2 v4 v5 v6 ((-1))
  · refine go_aload_n (pc := 102) C 0 dX11_refusesWrite_102 rfl ?_
    refine go_sipush (pc := 103) C dX11_refusesWrite_103 ks_264 ?_
    refine go_iload_n (pc := 106) C 2 dX11_refusesWrite_106 rfl ?_
    refine go_iadd (pc := 107) C dX11_refusesWrite_107 ?_
    refine go_iald (pc := 108) C dX11_refusesWrite_108 (fun x6 => ?_)
    refine go_sub (ls' := [(0, .ref v0), (2, .int v2), (4, .int (b2i v4)), (5, .int v5), (6, .int v6)]) [0, 1, 3, 4, 5] rfl ?_
    refine gX11_refusesWrite_J109 C O E v0 v2 v4 v5 v6 x6
set_option maxHeartbeats 4000000 in
theorem gX11_refusesWrite_J77 {Y : YT} {X : XT} (C : CT Y X RX11 cX11_refusesWrite 8) (O : RO X 4 0 0) {h : AH} {r : Int32} (E : RX Y X (some .int) (some (.int r)) h 0 0) : ∀ (v0 : Nat) (v2 : Int32) (v3 : Int32) (v4 : Bool) (v5 : Int32) (v6 : Int32), GO Y X 8 r h 0 0 77 [(0, .ref v0), (2, .int v2), (3, .int v3), (4, .int (b2i v4)), (5, .int v5), (6, .int v6)] [] (fX11_refusesWrite_J77 h v0 v2 v3 v4 v5 v6) := by
  intro v0 v2 v3 v4 v5 v6
  unfold fX11_refusesWrite_J77
  refine go_iload (pc := 77) C 3 dX11_refusesWrite_77 rfl ?_
  refine go_ifZ_eq (pc := 79) C 93 dX11_refusesWrite_79 (by decide) (fun _ => ?_) (fun _ => ?_)
  · refine go_aload_n (pc := 82) C 0 dX11_refusesWrite_82 rfl ?_
    refine go_bind (fun q7 hq7 => ?_)
    refine go_callS (rest := []) (st' := [.int q7]) (c' := 0) (s' := 0) (pc := 83) C O miX11_165 w_1482 [.ref v0] rfl (mX11_freeObject hq7) dX11_refusesWrite_83 ⟨by decide, by decide, by decide, by decide⟩ rfl (Nat.le_of_ble_eq_true rfl) rfl ⟨rfl, rfl⟩ ?_
    refine go_iconst (pc := 86) C dX11_refusesWrite_86 ki_m1 ?_
    refine go_icmp_ne (pc := 87) C 93 dX11_refusesWrite_87 (by decide) (fun _ => ?_) (fun _ => ?_)
    · refine go_bipush (pc := 90) C dX11_refusesWrite_90 kb_m6 ?_
      exact go_iret (w := (wI h)) (pc := 92) C E ((-6)) ((-6)) dX11_refusesWrite_92 rfl
    · refine go_sub (ls' := [(0, .ref v0), (2, .int v2), (3, .int v3), (4, .int (b2i v4)), (5, .int v5), (6, .int v6)]) [0, 1, 2, 3, 4, 5] rfl ?_
      refine gX11_refusesWrite_J93 C O E v0 v2 v3 v4 v5 v6
  · refine go_sub (ls' := [(0, .ref v0), (2, .int v2), (3, .int v3), (4, .int (b2i v4)), (5, .int v5), (6, .int v6)]) [0, 1, 2, 3, 4, 5] rfl ?_
    refine gX11_refusesWrite_J93 C O E v0 v2 v3 v4 v5 v6
set_option maxHeartbeats 4000000 in
theorem mX11_refusesWrite {h : AH} {a0 : Nat} {a1 : Int32} {a2 : Int32} {r : Int32} (hr : fX11_refusesWrite h a0 a1 a2 = some r) : MC yX11_refusesWrite cX11_refusesWrite 8 (some .int) 4 0 0 [.ref a0, .int a1, .int a2] h (some (.int r)) h := by
  unfold fX11_refusesWrite at hr
  refine mc_of (l0 := [(0, .ref a0), (1, .int a1), (2, .int a2)]) rfl pn_X11 (Nat.le_of_ble_eq_true rfl) (fun Y X C E O hnm => go_run hr ?_)
  have C : CT Y X RX11 cX11_refusesWrite 8 := C
  refine go_aload_n (pc := 0) C 0 dX11_refusesWrite_0 rfl ?_
  refine go_sipush (pc := 1) C dX11_refusesWrite_1 ks_312 ?_
  refine go_iload_n (pc := 4) C 1 dX11_refusesWrite_4 rfl ?_
  refine go_iadd (pc := 5) C dX11_refusesWrite_5 ?_
  refine go_iald (pc := 6) C dX11_refusesWrite_6 (fun x8 => ?_)
  refine go_istore_n (ls' := [(3, .int x8), (0, .ref a0), (1, .int a1), (2, .int a2)]) (pc := 7) C dX11_refusesWrite_7 (by decide) rfl ?_
  refine go_aload_n (pc := 8) C 1 dX11_refusesWrite_8 rfl ?_
  refine go_iload_n (pc := 9) C 2 dX11_refusesWrite_9 rfl ?_
  refine go_bind (fun q9 hq9 => ?_)
  refine go_callS (rest := []) (st' := [.int (b2i q9)]) (c' := 0) (s' := 0) (pc := 10) C O miX11_287 w_1634 [.ref a0, .int a1] rfl (mX11_isShared hq9) dX11_refusesWrite_10 ⟨by decide, by decide, by decide, by decide⟩ rfl (Nat.le_of_ble_eq_true rfl) rfl ⟨rfl, rfl⟩ ?_
  refine go_istore (ls' := [(4, .int (b2i q9)), (3, .int x8), (0, .ref a0), (1, .int a1), (2, .int a2)]) (pc := 13) C dX11_refusesWrite_13 (by decide) rfl ?_
  refine go_iconst (pc := 15) C dX11_refusesWrite_15 ki_0 ?_
  refine go_istore (ls' := [(5, .int 0), (4, .int (b2i q9)), (3, .int x8), (0, .ref a0), (1, .int a1), (2, .int a2)]) (pc := 16) C dX11_refusesWrite_16 (by decide) rfl ?_
  refine go_aload_n (pc := 18) C 3 dX11_refusesWrite_18 rfl ?_
  refine go_iload_n (pc := 19) C 2 dX11_refusesWrite_19 rfl ?_
  refine go_iload_n (pc := 20) C 5 dX11_refusesWrite_20 rfl ?_
  refine go_bind (fun q10 hq10 => ?_)
  refine go_callS (rest := []) (st' := [.int (b2i q10)]) (c' := 0) (s' := 0) (pc := 21) C O miX11_92 w_1494 [.ref a0, .int x8, .int a2] rfl (mX11_holds hq10) dX11_refusesWrite_21 ⟨by decide, by decide, by decide, by decide⟩ rfl (Nat.le_of_ble_eq_true rfl) rfl ⟨rfl, rfl⟩ ?_
  refine go_istore (ls' := [(6, .int (b2i q10)), (5, .int 0), (4, .int (b2i q9)), (3, .int x8), (0, .ref a0), (1, .int a1), (2, .int a2)]) (pc := 24) C dX11_refusesWrite_24 (by decide) rfl ?_
  refine go_iload (pc := 26) C 0 dX11_refusesWrite_26 rfl ?_
  refine go_ifZ_ne (pc := 28) C 77 dX11_refusesWrite_28 (by decide) (fun _ => ?_) (fun _ => ?_)
  · refine go_sub (ls' := [(0, .ref a0), (2, .int a2), (3, .int x8), (4, .int (b2i q9)), (5, .int 0), (6, .int (b2i q10))]) [4, 6, 3, 2, 1, 0] rfl ?_
    refine gX11_refusesWrite_J77 C O E a0 a2 x8 q9 0 (b2i q10)
  · refine go_aload_n (pc := 31) C 4 dX11_refusesWrite_31 rfl ?_
    refine go_iload_n (pc := 32) C 5 dX11_refusesWrite_32 rfl ?_
    refine go_iload_n (pc := 33) C 6 dX11_refusesWrite_33 rfl ?_
    refine go_bind (fun q11 hq11 => ?_)
    refine go_callS (rest := []) (st' := [.int q11]) (c' := 0) (s' := 0) (pc := 34) C O miX11_271 w_1599 [.ref a0, .int a1, .int a2] rfl (mX11_refusesFetch hq11) dX11_refusesWrite_34 ⟨by decide, by decide, by decide, by decide⟩ rfl (Nat.le_of_ble_eq_true rfl) rfl ⟨rfl, rfl⟩ ?_
    refine go_istore (ls' := [(7, .int q11), (6, .int (b2i q10)), (5, .int 0), (4, .int (b2i q9)), (3, .int x8), (0, .ref a0), (1, .int a1), (2, .int a2)]) (pc := 37) C dX11_refusesWrite_37 (by decide) rfl ?_
    refine go_iload (pc := 39) C 0 dX11_refusesWrite_39 rfl ?_
    refine go_if_ge (pc := 41) C 47 dX11_refusesWrite_41 (by decide) (fun _ => ?_) (fun _ => ?_)
    · refine go_aload_n (pc := 47) C 5 dX11_refusesWrite_47 rfl ?_
      refine go_iload_n (pc := 48) C 6 dX11_refusesWrite_48 rfl ?_
      refine go_iload_n (pc := 49) C 7 dX11_refusesWrite_49 rfl ?_
      refine go_bind (fun q12 hq12 => ?_)
      refine go_callS (rest := []) (st' := [.int (b2i q12)]) (c' := 0) (s' := 0) (pc := 50) C O miX11_265 w_1611 [.ref a0, .int a1, .int a2] rfl (mX11_isFetched hq12) dX11_refusesWrite_50 ⟨by decide, by decide, by decide, by decide⟩ rfl (Nat.le_of_ble_eq_true rfl) rfl ⟨rfl, rfl⟩ ?_
      refine go_ifZ_eq (pc := 53) C 77 dX11_refusesWrite_53 (by decide) (fun _ => ?_) (fun _ => ?_)
      · refine go_iincL (pc := 56) C 2 dX11_refusesWrite_56 rfl ki_1 (by decide) (fun x13 => [(5, .int x13), (7, .int q11), (6, .int (b2i q10)), (4, .int (b2i q9)), (3, .int x8), (0, .ref a0), (1, .int a1), (2, .int a2)]) (fun _ => rfl) (fun x13 => ?_)
        refine go_aload_n (pc := 59) C 5 dX11_refusesWrite_59 rfl ?_
        refine go_sipush (pc := 60) C dX11_refusesWrite_60 ks_192 ?_
        refine go_iload_n (pc := 63) C 4 dX11_refusesWrite_63 rfl ?_
        refine go_iadd (pc := 64) C dX11_refusesWrite_64 ?_
        refine go_iald (pc := 65) C dX11_refusesWrite_65 (fun x14 => ?_)
        refine go_iconst (pc := 66) C dX11_refusesWrite_66 ki_m1 ?_
        refine go_icmp_ne (pc := 67) C 74 dX11_refusesWrite_67 (by decide) (fun _ => ?_) (fun _ => ?_)
        · refine go_iconst (pc := 70) C dX11_refusesWrite_70 ki_1 ?_
          refine go_goto (pc := 71) C 75 dX11_refusesWrite_71 (by decide) ?_
          refine go_istore (ls' := [(6, .int 1), (5, .int x13), (7, .int q11), (4, .int (b2i q9)), (3, .int x8), (0, .ref a0), (1, .int a1), (2, .int a2)]) (pc := 75) C dX11_refusesWrite_75 (by decide) rfl ?_
          refine go_sub (ls' := [(0, .ref a0), (2, .int a2), (3, .int x8), (4, .int (b2i q9)), (5, .int x13), (6, .int 1)]) [5, 7, 4, 3, 1, 0] rfl ?_
          refine gX11_refusesWrite_J77 C O E a0 a2 x8 q9 x13 1
        · refine go_iconst (pc := 74) C dX11_refusesWrite_74 ki_0 ?_
          refine go_istore (ls' := [(6, .int 0), (5, .int x13), (7, .int q11), (4, .int (b2i q9)), (3, .int x8), (0, .ref a0), (1, .int a1), (2, .int a2)]) (pc := 75) C dX11_refusesWrite_75 (by decide) rfl ?_
          refine go_sub (ls' := [(0, .ref a0), (2, .int a2), (3, .int x8), (4, .int (b2i q9)), (5, .int x13), (6, .int 0)]) [5, 7, 4, 3, 1, 0] rfl ?_
          refine gX11_refusesWrite_J77 C O E a0 a2 x8 q9 x13 0
      · refine go_sub (ls' := [(0, .ref a0), (2, .int a2), (3, .int x8), (4, .int (b2i q9)), (5, .int 0), (6, .int (b2i q10))]) [5, 7, 4, 3, 2, 1] rfl ?_
        refine gX11_refusesWrite_J77 C O E a0 a2 x8 q9 0 (b2i q10)
    · refine go_iload (pc := 44) C 0 dX11_refusesWrite_44 rfl ?_
      exact go_iret (w := (wI h)) (pc := 46) C E q11 q11 dX11_refusesWrite_46 rfl
theorem dX11_goBypass_0 : decode cX11_goBypass 0 = .ok (.aload_n 1, 1) := by decide +kernel
theorem dX11_goBypass_1 : decode cX11_goBypass 1 = .ok (.sipush 192, 3) := by decide +kernel
theorem dX11_goBypass_4 : decode cX11_goBypass 4 = .ok (.iload_n 2, 1) := by decide +kernel
theorem dX11_goBypass_5 : decode cX11_goBypass 5 = .ok (.iadd, 1) := by decide +kernel
theorem dX11_goBypass_6 : decode cX11_goBypass 6 = .ok (.iload_n 3, 1) := by decide +kernel
theorem dX11_goBypass_7 : decode cX11_goBypass 7 = .ok (.iastore, 1) := by decide +kernel
theorem dX11_goBypass_8 : decode cX11_goBypass 8 = .ok (.iload_n 3, 1) := by decide +kernel
theorem dX11_goBypass_9 : decode cX11_goBypass 9 = .ok (.iconst (-1), 1) := by decide +kernel
theorem dX11_goBypass_10 : decode cX11_goBypass 10 = .ok (.if_icmp .ne 9, 3) := by decide +kernel
theorem dX11_goBypass_13 : decode cX11_goBypass 13 = .ok (.aload_n 1, 1) := by decide +kernel
theorem dX11_goBypass_14 : decode cX11_goBypass 14 = .ok (.iload_n 2, 1) := by decide +kernel
theorem dX11_goBypass_15 : decode cX11_goBypass 15 = .ok (.iconst (-1), 1) := by decide +kernel
theorem dX11_goBypass_16 : decode cX11_goBypass 16 = .ok (.invokestatic 112, 3) := by decide +kernel
theorem dX11_goBypass_19 : decode cX11_goBypass 19 = .ok (.aload_n 0, 1) := by decide +kernel
theorem dX11_goBypass_20 : decode cX11_goBypass 20 = .ok (.dup, 1) := by decide +kernel
theorem dX11_goBypass_21 : decode cX11_goBypass 21 = .ok (.getfield 323, 3) := by decide +kernel
theorem dX11_goBypass_24 : decode cX11_goBypass 24 = .ok (.iconst 1, 1) := by decide +kernel
theorem dX11_goBypass_25 : decode cX11_goBypass 25 = .ok (.iadd, 1) := by decide +kernel
theorem dX11_goBypass_26 : decode cX11_goBypass 26 = .ok (.putfield 323, 3) := by decide +kernel
theorem dX11_goBypass_29 : decode cX11_goBypass 29 = .ok (.aload_n 1, 1) := by decide +kernel
theorem dX11_goBypass_30 : decode cX11_goBypass 30 = .ok (.invokestatic 306, 3) := by decide +kernel
theorem dX11_goBypass_33 : decode cX11_goBypass 33 = .ok (.pop, 1) := by decide +kernel
theorem dX11_goBypass_34 : decode cX11_goBypass 34 = .ok (.return_, 1) := by decide +kernel
def fX11_goBypass_J19 (h : AH) (v0 : Nat) (v1 : Nat) : Option (AH) :=
    (gI h 11 v0 22).bind fun x1 =>
    (pF h 11 v0 22 (.int (x1 + 1))).bind fun h2 =>
    (fX11_goFree h2 v1).bind fun q3 =>
    some q3.2
def fX11_goBypass (h : AH) (a0 : Nat) (a1 : Nat) (a2 : Int32) (a3 : Int32) : Option (AH) :=
  if hasC h 11 a0 = true then (
    (sI h 0 a1 (192 + a2) a3).bind fun h4 =>
    if a3 = ((-1)) then (
      (fX11_forgetCopy h4 a1 a2 ((-1))).bind fun q5 =>
      fX11_goBypass_J19 q5 a0 a1
    ) else (
      fX11_goBypass_J19 h4 a0 a1
    )
  ) else none
set_option maxHeartbeats 4000000 in
theorem gX11_goBypass_J19 {Y : YT} {X : XT} (C : CT Y X RX11 cX11_goBypass 4) (O : RO X 4 0 0) {r : AH} (E : RX Y X none none r 0 0) : ∀ (h : AH) (v0 : Nat) (v1 : Nat), GO Y X 4 r h 0 0 19 [(0, .ref v0), (1, .ref v1)] [] (fX11_goBypass_J19 h v0 v1) := by
  intro h v0 v1
  unfold fX11_goBypass_J19
  refine go_aload_n (pc := 19) C 0 dX11_goBypass_19 rfl ?_
  refine go_dup (pc := 20) C dX11_goBypass_20 rfl ?_
  refine go_gI (pc := 21) C fdX11_323 dX11_goBypass_21 (fun x1 => ?_)
  refine go_iconst (pc := 24) C dX11_goBypass_24 ki_1 ?_
  refine go_iadd (pc := 25) C dX11_goBypass_25 ?_
  refine go_pI (pc := 26) C fpX11_323 dX11_goBypass_26 (fun h2 => ?_)
  refine go_aload_n (pc := 29) C 1 dX11_goBypass_29 rfl ?_
  refine go_bind (fun q3 hq3 => ?_)
  refine go_callS (rest := []) (st' := [.int q3.1]) (c' := 0) (s' := 0) (pc := 30) C O miX11_306 w_1652 [.ref v1] rfl (mX11_goFree hq3) dX11_goBypass_30 ⟨by decide, by decide, by decide, by decide⟩ rfl (Nat.le_of_ble_eq_true rfl) rfl ⟨rfl, rfl⟩ ?_
  refine go_pop (pc := 33) C dX11_goBypass_33 rfl ?_
  exact go_vret (w := wV) (pc := 34) C E q3.2 dX11_goBypass_34 rfl
set_option maxHeartbeats 4000000 in
theorem mX11_goBypass {h : AH} {a0 : Nat} {a1 : Nat} {a2 : Int32} {a3 : Int32} {r : AH} (hr : fX11_goBypass h a0 a1 a2 a3 = some r) : hasC h 11 a0 = true ∧ MC yX11_goBypass cX11_goBypass 4 none 4 0 0 [.ref a0, .ref a1, .int a2, .int a3] h none r := by
  unfold fX11_goBypass at hr
  obtain ⟨hc, hr⟩ := if_some hr
  refine ⟨hc, mc_of (l0 := [(0, .ref a0), (1, .ref a1), (2, .int a2), (3, .int a3)]) rfl pn_X11 (Nat.le_of_ble_eq_true rfl) (fun Y X C E O hnm => go_run hr ?_)⟩
  have C : CT Y X RX11 cX11_goBypass 4 := C
  refine go_aload_n (pc := 0) C 1 dX11_goBypass_0 rfl ?_
  refine go_sipush (pc := 1) C dX11_goBypass_1 ks_192 ?_
  refine go_iload_n (pc := 4) C 2 dX11_goBypass_4 rfl ?_
  refine go_iadd (pc := 5) C dX11_goBypass_5 ?_
  refine go_iload_n (pc := 6) C 3 dX11_goBypass_6 rfl ?_
  refine go_iast (pc := 7) C dX11_goBypass_7 (fun h4 => ?_)
  refine go_iload_n (pc := 8) C 3 dX11_goBypass_8 rfl ?_
  refine go_iconst (pc := 9) C dX11_goBypass_9 ki_m1 ?_
  refine go_icmp_ne (pc := 10) C 19 dX11_goBypass_10 (by decide) (fun _ => ?_) (fun _ => ?_)
  · refine go_aload_n (pc := 13) C 1 dX11_goBypass_13 rfl ?_
    refine go_iload_n (pc := 14) C 2 dX11_goBypass_14 rfl ?_
    refine go_iconst (pc := 15) C dX11_goBypass_15 ki_m1 ?_
    refine go_bind (fun q5 hq5 => ?_)
    refine go_callS (rest := []) (st' := []) (c' := 0) (s' := 0) (pc := 16) C O miX11_112 w_1649 [.ref a1, .int a2, .int ((-1))] rfl (mX11_forgetCopy hq5) dX11_goBypass_16 ⟨by decide, by decide, by decide, by decide⟩ rfl (Nat.le_of_ble_eq_true rfl) rfl ⟨rfl, rfl⟩ ?_
    refine go_sub (ls' := [(0, .ref a0), (1, .ref a1)]) [0, 1] rfl ?_
    refine gX11_goBypass_J19 C O E q5 a0 a1
  · refine go_sub (ls' := [(0, .ref a0), (1, .ref a1)]) [0, 1] rfl ?_
    refine gX11_goBypass_J19 C O E h4 a0 a1
theorem dX11_goCollapse_0 : decode cX11_goCollapse 0 = .ok (.iconst 0, 1) := by decide +kernel
theorem dX11_goCollapse_1 : decode cX11_goCollapse 1 = .ok (.istore_n 3, 1) := by decide +kernel
theorem dX11_goCollapse_2 : decode cX11_goCollapse 2 = .ok (.iload_n 3, 1) := by decide +kernel
theorem dX11_goCollapse_3 : decode cX11_goCollapse 3 = .ok (.bipush 8, 2) := by decide +kernel
theorem dX11_goCollapse_5 : decode cX11_goCollapse 5 = .ok (.if_icmp .ge 34, 3) := by decide +kernel
theorem dX11_goCollapse_8 : decode cX11_goCollapse 8 = .ok (.aload_n 0, 1) := by decide +kernel
theorem dX11_goCollapse_9 : decode cX11_goCollapse 9 = .ok (.iload_n 1, 1) := by decide +kernel
theorem dX11_goCollapse_10 : decode cX11_goCollapse 10 = .ok (.iload_n 3, 1) := by decide +kernel
theorem dX11_goCollapse_11 : decode cX11_goCollapse 11 = .ok (.invokestatic 92, 3) := by decide +kernel
theorem dX11_goCollapse_14 : decode cX11_goCollapse 14 = .ok (.ifCond .ne 19, 3) := by decide +kernel
theorem dX11_goCollapse_17 : decode cX11_goCollapse 17 = .ok (.aload_n 0, 1) := by decide +kernel
theorem dX11_goCollapse_18 : decode cX11_goCollapse 18 = .ok (.bipush 8, 2) := by decide +kernel
theorem dX11_goCollapse_20 : decode cX11_goCollapse 20 = .ok (.iload_n 1, 1) := by decide +kernel
theorem dX11_goCollapse_21 : decode cX11_goCollapse 21 = .ok (.imul, 1) := by decide +kernel
theorem dX11_goCollapse_22 : decode cX11_goCollapse 22 = .ok (.iload_n 3, 1) := by decide +kernel
theorem dX11_goCollapse_23 : decode cX11_goCollapse 23 = .ok (.iadd, 1) := by decide +kernel
theorem dX11_goCollapse_24 : decode cX11_goCollapse 24 = .ok (.aload_n 0, 1) := by decide +kernel
theorem dX11_goCollapse_25 : decode cX11_goCollapse 25 = .ok (.bipush 8, 2) := by decide +kernel
theorem dX11_goCollapse_27 : decode cX11_goCollapse 27 = .ok (.iload_n 2, 1) := by decide +kernel
theorem dX11_goCollapse_28 : decode cX11_goCollapse 28 = .ok (.imul, 1) := by decide +kernel
theorem dX11_goCollapse_29 : decode cX11_goCollapse 29 = .ok (.iload_n 3, 1) := by decide +kernel
theorem dX11_goCollapse_30 : decode cX11_goCollapse 30 = .ok (.iadd, 1) := by decide +kernel
theorem dX11_goCollapse_31 : decode cX11_goCollapse 31 = .ok (.iaload, 1) := by decide +kernel
theorem dX11_goCollapse_32 : decode cX11_goCollapse 32 = .ok (.iastore, 1) := by decide +kernel
theorem dX11_goCollapse_33 : decode cX11_goCollapse 33 = .ok (.iinc 3 1, 3) := by decide +kernel
theorem dX11_goCollapse_36 : decode cX11_goCollapse 36 = .ok (.goto (-34), 3) := by decide +kernel
theorem dX11_goCollapse_39 : decode cX11_goCollapse 39 = .ok (.aload_n 0, 1) := by decide +kernel
theorem dX11_goCollapse_40 : decode cX11_goCollapse 40 = .ok (.sipush 192, 3) := by decide +kernel
theorem dX11_goCollapse_43 : decode cX11_goCollapse 43 = .ok (.iload_n 1, 1) := by decide +kernel
theorem dX11_goCollapse_44 : decode cX11_goCollapse 44 = .ok (.iadd, 1) := by decide +kernel
theorem dX11_goCollapse_45 : decode cX11_goCollapse 45 = .ok (.aload_n 0, 1) := by decide +kernel
theorem dX11_goCollapse_46 : decode cX11_goCollapse 46 = .ok (.sipush 192, 3) := by decide +kernel
theorem dX11_goCollapse_49 : decode cX11_goCollapse 49 = .ok (.iload_n 2, 1) := by decide +kernel
theorem dX11_goCollapse_50 : decode cX11_goCollapse 50 = .ok (.iadd, 1) := by decide +kernel
theorem dX11_goCollapse_51 : decode cX11_goCollapse 51 = .ok (.iaload, 1) := by decide +kernel
theorem dX11_goCollapse_52 : decode cX11_goCollapse 52 = .ok (.iastore, 1) := by decide +kernel
theorem dX11_goCollapse_53 : decode cX11_goCollapse 53 = .ok (.aload_n 0, 1) := by decide +kernel
theorem dX11_goCollapse_54 : decode cX11_goCollapse 54 = .ok (.iload_n 2, 1) := by decide +kernel
theorem dX11_goCollapse_55 : decode cX11_goCollapse 55 = .ok (.iload_n 1, 1) := by decide +kernel
theorem dX11_goCollapse_56 : decode cX11_goCollapse 56 = .ok (.invokestatic 112, 3) := by decide +kernel
theorem dX11_goCollapse_59 : decode cX11_goCollapse 59 = .ok (.aload_n 0, 1) := by decide +kernel
theorem dX11_goCollapse_60 : decode cX11_goCollapse 60 = .ok (.iload_n 2, 1) := by decide +kernel
theorem dX11_goCollapse_61 : decode cX11_goCollapse 61 = .ok (.invokestatic 73, 3) := by decide +kernel
theorem dX11_goCollapse_64 : decode cX11_goCollapse 64 = .ok (.return_, 1) := by decide +kernel
def fX11_goCollapse_L2 (k39 : AH → Nat → Int32 → Int32 → Option (AH)) : Nat → AH → Nat → Int32 → Int32 → Int32 → Option (AH)
  | 0, _, _, _, _, _ => none
  | n + 1, h, v0, v1, v2, v3 =>
    if 8 ≤ v3 then (
      k39 h v0 v1 v2
    ) else (
      (fX11_holds h v0 v1 v3).bind fun q1 =>
      if q1 = true then (
        letF (v3 + 1 : Int32) fun x2 =>
        fX11_goCollapse_L2 k39 n h v0 v1 v2 x2
      ) else (
        (aI h 0 v0 ((8 * v2) + v3)).bind fun x3 =>
        (sI h 0 v0 ((8 * v1) + v3) x3).bind fun h4 =>
        letF (v3 + 1 : Int32) fun x5 =>
        fX11_goCollapse_L2 k39 n h4 v0 v1 v2 x5
      )
    )
def fX11_goCollapse (h : AH) (a0 : Nat) (a1 : Int32) (a2 : Int32) : Option (AH) :=
  fX11_goCollapse_L2
    (fun h9 x6 x7 x8 =>
      (aI h9 0 x6 (192 + x8)).bind fun x10 =>
      (sI h9 0 x6 (192 + x7) x10).bind fun h11 =>
      (fX11_forgetCopy h11 x6 x8 x7).bind fun q12 =>
      (fX11_clear q12 x6 x8).bind fun q13 =>
      some q13)
    FU h a0 a1 a2 0
set_option maxHeartbeats 4000000 in
theorem gX11_goCollapse_L2 {Y : YT} {X : XT} (C : CT Y X RX11 cX11_goCollapse 4) (O : RO X 2 0 0) {r : AH} (E : RX Y X none none r 0 0) {k39 : AH → Nat → Int32 → Int32 → Option (AH)} (hk39 : ∀ (h : AH) (v0 : Nat) (v1 : Int32) (v2 : Int32), GO Y X 4 r h 0 0 39 [(0, .ref v0), (1, .int v1), (2, .int v2)] [] (k39 h v0 v1 v2)) : ∀ (n : Nat) (h : AH) (v0 : Nat) (v1 : Int32) (v2 : Int32) (v3 : Int32), GO Y X 4 r h 0 0 2 [(0, .ref v0), (1, .int v1), (2, .int v2), (3, .int v3)] [] (fX11_goCollapse_L2 k39 n h v0 v1 v2 v3) := by
  intro n
  induction n with
  | zero => intros; exact go_none _ _ _
  | succ n ih =>
    intro h v0 v1 v2 v3
    rw [fX11_goCollapse_L2]
    refine go_iload_n (pc := 2) C 3 dX11_goCollapse_2 rfl ?_
    refine go_bipush (pc := 3) C dX11_goCollapse_3 kb_8 ?_
    refine go_icmp_ge (pc := 5) C 39 dX11_goCollapse_5 (by decide) (fun _ => ?_) (fun _ => ?_)
    · refine go_sub (ls' := [(0, .ref v0), (1, .int v1), (2, .int v2)]) [0, 1, 2] rfl ?_
      exact hk39 h v0 v1 v2
    · refine go_aload_n (pc := 8) C 0 dX11_goCollapse_8 rfl ?_
      refine go_iload_n (pc := 9) C 1 dX11_goCollapse_9 rfl ?_
      refine go_iload_n (pc := 10) C 3 dX11_goCollapse_10 rfl ?_
      refine go_bind (fun q1 hq1 => ?_)
      refine go_callS (rest := []) (st' := [.int (b2i q1)]) (c' := 0) (s' := 0) (pc := 11) C O miX11_92 w_1494 [.ref v0, .int v1, .int v3] rfl (mX11_holds hq1) dX11_goCollapse_11 ⟨by decide, by decide, by decide, by decide⟩ rfl (Nat.le_of_ble_eq_true rfl) rfl ⟨rfl, rfl⟩ ?_
      refine go_ifZ_ne (pc := 14) C 33 dX11_goCollapse_14 (by decide) (fun _ => ?_) (fun _ => ?_)
      · refine go_iincL (pc := 33) C 3 dX11_goCollapse_33 rfl ki_1 (by decide) (fun x2 => [(3, .int x2), (0, .ref v0), (1, .int v1), (2, .int v2)]) (fun _ => rfl) (fun x2 => ?_)
        refine go_goto (pc := 36) C 2 dX11_goCollapse_36 (by decide) ?_
        refine go_sub (ls' := [(0, .ref v0), (1, .int v1), (2, .int v2), (3, .int x2)]) [1, 2, 3, 0] rfl ?_
        exact ih h v0 v1 v2 x2
      · refine go_aload_n (pc := 17) C 0 dX11_goCollapse_17 rfl ?_
        refine go_bipush (pc := 18) C dX11_goCollapse_18 kb_8 ?_
        refine go_iload_n (pc := 20) C 1 dX11_goCollapse_20 rfl ?_
        refine go_imul (pc := 21) C dX11_goCollapse_21 ?_
        refine go_iload_n (pc := 22) C 3 dX11_goCollapse_22 rfl ?_
        refine go_iadd (pc := 23) C dX11_goCollapse_23 ?_
        refine go_aload_n (pc := 24) C 0 dX11_goCollapse_24 rfl ?_
        refine go_bipush (pc := 25) C dX11_goCollapse_25 kb_8 ?_
        refine go_iload_n (pc := 27) C 2 dX11_goCollapse_27 rfl ?_
        refine go_imul (pc := 28) C dX11_goCollapse_28 ?_
        refine go_iload_n (pc := 29) C 3 dX11_goCollapse_29 rfl ?_
        refine go_iadd (pc := 30) C dX11_goCollapse_30 ?_
        refine go_iald (pc := 31) C dX11_goCollapse_31 (fun x3 => ?_)
        refine go_iast (pc := 32) C dX11_goCollapse_32 (fun h4 => ?_)
        refine go_iincL (pc := 33) C 3 dX11_goCollapse_33 rfl ki_1 (by decide) (fun x5 => [(3, .int x5), (0, .ref v0), (1, .int v1), (2, .int v2)]) (fun _ => rfl) (fun x5 => ?_)
        refine go_goto (pc := 36) C 2 dX11_goCollapse_36 (by decide) ?_
        refine go_sub (ls' := [(0, .ref v0), (1, .int v1), (2, .int v2), (3, .int x5)]) [1, 2, 3, 0] rfl ?_
        exact ih h4 v0 v1 v2 x5
set_option maxHeartbeats 4000000 in
theorem mX11_goCollapse {h : AH} {a0 : Nat} {a1 : Int32} {a2 : Int32} {r : AH} (hr : fX11_goCollapse h a0 a1 a2 = some r) : MC yX11_goCollapse cX11_goCollapse 4 none 2 0 0 [.ref a0, .int a1, .int a2] h none r := by
  unfold fX11_goCollapse at hr
  refine mc_of (l0 := [(0, .ref a0), (1, .int a1), (2, .int a2)]) rfl pn_X11 (Nat.le_of_ble_eq_true rfl) (fun Y X C E O hnm => go_run hr ?_)
  have C : CT Y X RX11 cX11_goCollapse 4 := C
  refine go_iconst (pc := 0) C dX11_goCollapse_0 ki_0 ?_
  refine go_istore_n (ls' := [(3, .int 0), (0, .ref a0), (1, .int a1), (2, .int a2)]) (pc := 1) C dX11_goCollapse_1 (by decide) rfl ?_
  refine go_sub (ls' := [(0, .ref a0), (1, .int a1), (2, .int a2), (3, .int 0)]) [1, 2, 3, 0] rfl ?_
  refine gX11_goCollapse_L2 C O E (fun h9 x6 x7 x8 => ?_) FU h a0 a1 a2 0
  · refine go_aload_n (pc := 39) C 0 dX11_goCollapse_39 rfl ?_
    refine go_sipush (pc := 40) C dX11_goCollapse_40 ks_192 ?_
    refine go_iload_n (pc := 43) C 1 dX11_goCollapse_43 rfl ?_
    refine go_iadd (pc := 44) C dX11_goCollapse_44 ?_
    refine go_aload_n (pc := 45) C 0 dX11_goCollapse_45 rfl ?_
    refine go_sipush (pc := 46) C dX11_goCollapse_46 ks_192 ?_
    refine go_iload_n (pc := 49) C 2 dX11_goCollapse_49 rfl ?_
    refine go_iadd (pc := 50) C dX11_goCollapse_50 ?_
    refine go_iald (pc := 51) C dX11_goCollapse_51 (fun x10 => ?_)
    refine go_iast (pc := 52) C dX11_goCollapse_52 (fun h11 => ?_)
    refine go_aload_n (pc := 53) C 0 dX11_goCollapse_53 rfl ?_
    refine go_iload_n (pc := 54) C 2 dX11_goCollapse_54 rfl ?_
    refine go_iload_n (pc := 55) C 1 dX11_goCollapse_55 rfl ?_
    refine go_bind (fun q12 hq12 => ?_)
    refine go_callS (rest := []) (st' := []) (c' := 0) (s' := 0) (pc := 56) C O miX11_112 w_1649 [.ref x6, .int x8, .int x7] rfl (mX11_forgetCopy hq12) dX11_goCollapse_56 ⟨by decide, by decide, by decide, by decide⟩ rfl (Nat.le_of_ble_eq_true rfl) rfl ⟨rfl, rfl⟩ ?_
    refine go_aload_n (pc := 59) C 0 dX11_goCollapse_59 rfl ?_
    refine go_iload_n (pc := 60) C 2 dX11_goCollapse_60 rfl ?_
    refine go_bind (fun q13 hq13 => ?_)
    refine go_callS (rest := []) (st' := []) (c' := 0) (s' := 0) (pc := 61) C O miX11_73 w_1313 [.ref x6, .int x8] rfl (mX11_clear hq13) dX11_goCollapse_61 ⟨by decide, by decide, by decide, by decide⟩ rfl (Nat.le_of_ble_eq_true rfl) rfl ⟨rfl, rfl⟩ ?_
    exact go_vret (w := wV) (pc := 64) C E q13 dX11_goCollapse_64 rfl
theorem dX11_isCopy_0 : decode cX11_isCopy 0 = .ok (.iconst 0, 1) := by decide +kernel
theorem dX11_isCopy_1 : decode cX11_isCopy 1 = .ok (.istore_n 2, 1) := by decide +kernel
theorem dX11_isCopy_2 : decode cX11_isCopy 2 = .ok (.iload_n 2, 1) := by decide +kernel
theorem dX11_isCopy_3 : decode cX11_isCopy 3 = .ok (.bipush 24, 2) := by decide +kernel
theorem dX11_isCopy_5 : decode cX11_isCopy 5 = .ok (.if_icmp .ge 22, 3) := by decide +kernel
theorem dX11_isCopy_8 : decode cX11_isCopy 8 = .ok (.aload_n 0, 1) := by decide +kernel
theorem dX11_isCopy_9 : decode cX11_isCopy 9 = .ok (.sipush 264, 3) := by decide +kernel
theorem dX11_isCopy_12 : decode cX11_isCopy 12 = .ok (.iload_n 2, 1) := by decide +kernel
theorem dX11_isCopy_13 : decode cX11_isCopy 13 = .ok (.iadd, 1) := by decide +kernel
theorem dX11_isCopy_14 : decode cX11_isCopy 14 = .ok (.iaload, 1) := by decide +kernel
theorem dX11_isCopy_15 : decode cX11_isCopy 15 = .ok (.iload_n 1, 1) := by decide +kernel
theorem dX11_isCopy_16 : decode cX11_isCopy 16 = .ok (.if_icmp .ne 5, 3) := by decide +kernel
theorem dX11_isCopy_19 : decode cX11_isCopy 19 = .ok (.iconst 1, 1) := by decide +kernel
theorem dX11_isCopy_20 : decode cX11_isCopy 20 = .ok (.ireturn, 1) := by decide +kernel
theorem dX11_isCopy_21 : decode cX11_isCopy 21 = .ok (.iinc 2 1, 3) := by decide +kernel
theorem dX11_isCopy_24 : decode cX11_isCopy 24 = .ok (.goto (-22), 3) := by decide +kernel
theorem dX11_isCopy_27 : decode cX11_isCopy 27 = .ok (.iconst 0, 1) := by decide +kernel
theorem dX11_isCopy_28 : decode cX11_isCopy 28 = .ok (.ireturn, 1) := by decide +kernel
def fX11_isCopy_L2 (h : AH) : Nat → Nat → Int32 → Int32 → Option (Bool)
  | 0, _, _, _ => none
  | n + 1, v0, v1, v2 =>
    if 24 ≤ v2 then (
      some false
    ) else (
      (aI h 0 v0 (264 + v2)).bind fun x1 =>
      if x1 = v1 then (
        some true
      ) else (
        letF (v2 + 1 : Int32) fun x2 =>
        fX11_isCopy_L2 h n v0 v1 x2
      )
    )
def fX11_isCopy (h : AH) (a0 : Nat) (a1 : Int32) : Option (Bool) :=
  fX11_isCopy_L2 h FU a0 a1 0
set_option maxHeartbeats 4000000 in
theorem gX11_isCopy_L2 {Y : YT} {X : XT} (C : CT Y X RX11 cX11_isCopy 3) (O : RO X 1 0 0) {h : AH} {r : Bool} (E : RX Y X (some .boolean) (some (.int (b2i r))) h 0 0) : ∀ (n : Nat) (v0 : Nat) (v1 : Int32) (v2 : Int32), GO Y X 3 r h 0 0 2 [(0, .ref v0), (1, .int v1), (2, .int v2)] [] (fX11_isCopy_L2 h n v0 v1 v2) := by
  intro n
  induction n with
  | zero => intros; exact go_none _ _ _
  | succ n ih =>
    intro v0 v1 v2
    rw [fX11_isCopy_L2]
    refine go_iload_n (pc := 2) C 2 dX11_isCopy_2 rfl ?_
    refine go_bipush (pc := 3) C dX11_isCopy_3 kb_24 ?_
    refine go_icmp_ge (pc := 5) C 27 dX11_isCopy_5 (by decide) (fun _ => ?_) (fun _ => ?_)
    · refine go_iconst (pc := 27) C dX11_isCopy_27 ki_0 ?_
      exact go_bret (w := (wZ h)) (pc := 28) C E false 0 false rfl dX11_isCopy_28 rfl
    · refine go_aload_n (pc := 8) C 0 dX11_isCopy_8 rfl ?_
      refine go_sipush (pc := 9) C dX11_isCopy_9 ks_264 ?_
      refine go_iload_n (pc := 12) C 2 dX11_isCopy_12 rfl ?_
      refine go_iadd (pc := 13) C dX11_isCopy_13 ?_
      refine go_iald (pc := 14) C dX11_isCopy_14 (fun x1 => ?_)
      refine go_iload_n (pc := 15) C 1 dX11_isCopy_15 rfl ?_
      refine go_icmp_ne (pc := 16) C 21 dX11_isCopy_16 (by decide) (fun _ => ?_) (fun _ => ?_)
      · refine go_iconst (pc := 19) C dX11_isCopy_19 ki_1 ?_
        exact go_bret (w := (wZ h)) (pc := 20) C E true 1 true rfl dX11_isCopy_20 rfl
      · refine go_iincL (pc := 21) C 2 dX11_isCopy_21 rfl ki_1 (by decide) (fun x2 => [(2, .int x2), (0, .ref v0), (1, .int v1)]) (fun _ => rfl) (fun x2 => ?_)
        refine go_goto (pc := 24) C 2 dX11_isCopy_24 (by decide) ?_
        refine go_sub (ls' := [(0, .ref v0), (1, .int v1), (2, .int x2)]) [1, 2, 0] rfl ?_
        exact ih v0 v1 x2
set_option maxHeartbeats 4000000 in
theorem mX11_isCopy {h : AH} {a0 : Nat} {a1 : Int32} {r : Bool} (hr : fX11_isCopy h a0 a1 = some r) : MC yX11_isCopy cX11_isCopy 3 (some .boolean) 1 0 0 [.ref a0, .int a1] h (some (.int (b2i r))) h := by
  unfold fX11_isCopy at hr
  refine mc_of (l0 := [(0, .ref a0), (1, .int a1)]) rfl pn_X11 (Nat.le_of_ble_eq_true rfl) (fun Y X C E O hnm => go_run hr ?_)
  have C : CT Y X RX11 cX11_isCopy 3 := C
  refine go_iconst (pc := 0) C dX11_isCopy_0 ki_0 ?_
  refine go_istore_n (ls' := [(2, .int 0), (0, .ref a0), (1, .int a1)]) (pc := 1) C dX11_isCopy_1 (by decide) rfl ?_
  refine go_sub (ls' := [(0, .ref a0), (1, .int a1), (2, .int 0)]) [1, 2, 0] rfl ?_
  refine gX11_isCopy_L2 C O E FU a0 a1 0
theorem dX11_goTidy_0 : decode cX11_goTidy 0 = .ok (.aload_n 0, 1) := by decide +kernel
theorem dX11_goTidy_1 : decode cX11_goTidy 1 = .ok (.iconst 0, 1) := by decide +kernel
theorem dX11_goTidy_2 : decode cX11_goTidy 2 = .ok (.putfield 326, 3) := by decide +kernel
theorem dX11_goTidy_5 : decode cX11_goTidy 5 = .ok (.aload_n 0, 1) := by decide +kernel
theorem dX11_goTidy_6 : decode cX11_goTidy 6 = .ok (.iconst 0, 1) := by decide +kernel
theorem dX11_goTidy_7 : decode cX11_goTidy 7 = .ok (.putfield 323, 3) := by decide +kernel
theorem dX11_goTidy_10 : decode cX11_goTidy 10 = .ok (.aload_n 1, 1) := by decide +kernel
theorem dX11_goTidy_11 : decode cX11_goTidy 11 = .ok (.sipush 312, 3) := by decide +kernel
theorem dX11_goTidy_14 : decode cX11_goTidy 14 = .ok (.iload_n 2, 1) := by decide +kernel
theorem dX11_goTidy_15 : decode cX11_goTidy 15 = .ok (.iadd, 1) := by decide +kernel
theorem dX11_goTidy_16 : decode cX11_goTidy 16 = .ok (.iaload, 1) := by decide +kernel
theorem dX11_goTidy_17 : decode cX11_goTidy 17 = .ok (.istore_n 3, 1) := by decide +kernel
theorem dX11_goTidy_18 : decode cX11_goTidy 18 = .ok (.aload_n 1, 1) := by decide +kernel
theorem dX11_goTidy_19 : decode cX11_goTidy 19 = .ok (.sipush 192, 3) := by decide +kernel
theorem dX11_goTidy_22 : decode cX11_goTidy 22 = .ok (.iload_n 3, 1) := by decide +kernel
theorem dX11_goTidy_23 : decode cX11_goTidy 23 = .ok (.iadd, 1) := by decide +kernel
theorem dX11_goTidy_24 : decode cX11_goTidy 24 = .ok (.iaload, 1) := by decide +kernel
theorem dX11_goTidy_25 : decode cX11_goTidy 25 = .ok (.iconst (-1), 1) := by decide +kernel
theorem dX11_goTidy_26 : decode cX11_goTidy 26 = .ok (.if_icmp .eq 135, 3) := by decide +kernel
theorem dX11_goTidy_29 : decode cX11_goTidy 29 = .ok (.aload_n 1, 1) := by decide +kernel
theorem dX11_goTidy_30 : decode cX11_goTidy 30 = .ok (.sipush 192, 3) := by decide +kernel
theorem dX11_goTidy_33 : decode cX11_goTidy 33 = .ok (.iload_n 3, 1) := by decide +kernel
theorem dX11_goTidy_34 : decode cX11_goTidy 34 = .ok (.iadd, 1) := by decide +kernel
theorem dX11_goTidy_35 : decode cX11_goTidy 35 = .ok (.iaload, 1) := by decide +kernel
theorem dX11_goTidy_36 : decode cX11_goTidy 36 = .ok (.istore 4, 2) := by decide +kernel
theorem dX11_goTidy_38 : decode cX11_goTidy 38 = .ok (.aload_n 1, 1) := by decide +kernel
theorem dX11_goTidy_39 : decode cX11_goTidy 39 = .ok (.iload_n 3, 1) := by decide +kernel
theorem dX11_goTidy_40 : decode cX11_goTidy 40 = .ok (.invokestatic 96, 3) := by decide +kernel
theorem dX11_goTidy_43 : decode cX11_goTidy 43 = .ok (.istore 5, 2) := by decide +kernel
theorem dX11_goTidy_45 : decode cX11_goTidy 45 = .ok (.iload 5, 2) := by decide +kernel
theorem dX11_goTidy_47 : decode cX11_goTidy 47 = .ok (.sipush 255, 3) := by decide +kernel
theorem dX11_goTidy_50 : decode cX11_goTidy 50 = .ok (.if_icmp .ne 13, 3) := by decide +kernel
theorem dX11_goTidy_53 : decode cX11_goTidy 53 = .ok (.aload_n 0, 1) := by decide +kernel
theorem dX11_goTidy_54 : decode cX11_goTidy 54 = .ok (.aload_n 1, 1) := by decide +kernel
theorem dX11_goTidy_55 : decode cX11_goTidy 55 = .ok (.iload_n 3, 1) := by decide +kernel
theorem dX11_goTidy_56 : decode cX11_goTidy 56 = .ok (.iconst (-1), 1) := by decide +kernel
theorem dX11_goTidy_57 : decode cX11_goTidy 57 = .ok (.invokevirtual 329, 3) := by decide +kernel
theorem dX11_goTidy_60 : decode cX11_goTidy 60 = .ok (.goto 98, 3) := by decide +kernel
theorem dX11_goTidy_63 : decode cX11_goTidy 63 = .ok (.aload_n 1, 1) := by decide +kernel
theorem dX11_goTidy_64 : decode cX11_goTidy 64 = .ok (.iload 4, 2) := by decide +kernel
theorem dX11_goTidy_66 : decode cX11_goTidy 66 = .ok (.invokestatic 109, 3) := by decide +kernel
theorem dX11_goTidy_69 : decode cX11_goTidy 69 = .ok (.iconst 1, 1) := by decide +kernel
theorem dX11_goTidy_70 : decode cX11_goTidy 70 = .ok (.if_icmp .ne 34, 3) := by decide +kernel
theorem dX11_goTidy_73 : decode cX11_goTidy 73 = .ok (.aload_n 1, 1) := by decide +kernel
theorem dX11_goTidy_74 : decode cX11_goTidy 74 = .ok (.sipush 216, 3) := by decide +kernel
theorem dX11_goTidy_77 : decode cX11_goTidy 77 = .ok (.iload 4, 2) := by decide +kernel
theorem dX11_goTidy_79 : decode cX11_goTidy 79 = .ok (.iadd, 1) := by decide +kernel
theorem dX11_goTidy_80 : decode cX11_goTidy 80 = .ok (.iaload, 1) := by decide +kernel
theorem dX11_goTidy_81 : decode cX11_goTidy 81 = .ok (.ifCond .ne 23, 3) := by decide +kernel
theorem dX11_goTidy_84 : decode cX11_goTidy 84 = .ok (.aload_n 1, 1) := by decide +kernel
theorem dX11_goTidy_85 : decode cX11_goTidy 85 = .ok (.iload_n 3, 1) := by decide +kernel
theorem dX11_goTidy_86 : decode cX11_goTidy 86 = .ok (.iload 4, 2) := by decide +kernel
theorem dX11_goTidy_88 : decode cX11_goTidy 88 = .ok (.invokestatic 332, 3) := by decide +kernel
theorem dX11_goTidy_91 : decode cX11_goTidy 91 = .ok (.aload_n 0, 1) := by decide +kernel
theorem dX11_goTidy_92 : decode cX11_goTidy 92 = .ok (.dup, 1) := by decide +kernel
theorem dX11_goTidy_93 : decode cX11_goTidy 93 = .ok (.getfield 326, 3) := by decide +kernel
theorem dX11_goTidy_96 : decode cX11_goTidy 96 = .ok (.iconst 1, 1) := by decide +kernel
theorem dX11_goTidy_97 : decode cX11_goTidy 97 = .ok (.iadd, 1) := by decide +kernel
theorem dX11_goTidy_98 : decode cX11_goTidy 98 = .ok (.putfield 326, 3) := by decide +kernel
theorem dX11_goTidy_101 : decode cX11_goTidy 101 = .ok (.goto 57, 3) := by decide +kernel
theorem dX11_goTidy_104 : decode cX11_goTidy 104 = .ok (.aload_n 1, 1) := by decide +kernel
theorem dX11_goTidy_105 : decode cX11_goTidy 105 = .ok (.sipush 216, 3) := by decide +kernel
theorem dX11_goTidy_108 : decode cX11_goTidy 108 = .ok (.iload 4, 2) := by decide +kernel
theorem dX11_goTidy_110 : decode cX11_goTidy 110 = .ok (.iadd, 1) := by decide +kernel
theorem dX11_goTidy_111 : decode cX11_goTidy 111 = .ok (.iaload, 1) := by decide +kernel
theorem dX11_goTidy_112 : decode cX11_goTidy 112 = .ok (.ifCond .ne 43, 3) := by decide +kernel
theorem dX11_goTidy_115 : decode cX11_goTidy 115 = .ok (.aload_n 1, 1) := by decide +kernel
theorem dX11_goTidy_116 : decode cX11_goTidy 116 = .ok (.iload 4, 2) := by decide +kernel
theorem dX11_goTidy_118 : decode cX11_goTidy 118 = .ok (.invokestatic 335, 3) := by decide +kernel
theorem dX11_goTidy_121 : decode cX11_goTidy 121 = .ok (.ifCond .ne 34, 3) := by decide +kernel
theorem dX11_goTidy_124 : decode cX11_goTidy 124 = .ok (.aload_n 1, 1) := by decide +kernel
theorem dX11_goTidy_125 : decode cX11_goTidy 125 = .ok (.iload 4, 2) := by decide +kernel
theorem dX11_goTidy_127 : decode cX11_goTidy 127 = .ok (.invokestatic 96, 3) := by decide +kernel
theorem dX11_goTidy_130 : decode cX11_goTidy 130 = .ok (.iload 5, 2) := by decide +kernel
theorem dX11_goTidy_132 : decode cX11_goTidy 132 = .ok (.iconst (-1), 1) := by decide +kernel
theorem dX11_goTidy_133 : decode cX11_goTidy 133 = .ok (.ixor, 1) := by decide +kernel
theorem dX11_goTidy_134 : decode cX11_goTidy 134 = .ok (.iand, 1) := by decide +kernel
theorem dX11_goTidy_135 : decode cX11_goTidy 135 = .ok (.ifCond .ne 20, 3) := by decide +kernel
theorem dX11_goTidy_138 : decode cX11_goTidy 138 = .ok (.aload_n 0, 1) := by decide +kernel
theorem dX11_goTidy_139 : decode cX11_goTidy 139 = .ok (.aload_n 1, 1) := by decide +kernel
theorem dX11_goTidy_140 : decode cX11_goTidy 140 = .ok (.iload_n 3, 1) := by decide +kernel
theorem dX11_goTidy_141 : decode cX11_goTidy 141 = .ok (.aload_n 1, 1) := by decide +kernel
theorem dX11_goTidy_142 : decode cX11_goTidy 142 = .ok (.sipush 192, 3) := by decide +kernel
theorem dX11_goTidy_145 : decode cX11_goTidy 145 = .ok (.iload 4, 2) := by decide +kernel
theorem dX11_goTidy_147 : decode cX11_goTidy 147 = .ok (.iadd, 1) := by decide +kernel
theorem dX11_goTidy_148 : decode cX11_goTidy 148 = .ok (.iaload, 1) := by decide +kernel
theorem dX11_goTidy_149 : decode cX11_goTidy 149 = .ok (.invokevirtual 329, 3) := by decide +kernel
theorem dX11_goTidy_152 : decode cX11_goTidy 152 = .ok (.goto 6, 3) := by decide +kernel
theorem dX11_goTidy_155 : decode cX11_goTidy 155 = .ok (.iload 4, 2) := by decide +kernel
theorem dX11_goTidy_157 : decode cX11_goTidy 157 = .ok (.istore_n 3, 1) := by decide +kernel
theorem dX11_goTidy_158 : decode cX11_goTidy 158 = .ok (.goto (-140), 3) := by decide +kernel
theorem dX11_goTidy_161 : decode cX11_goTidy 161 = .ok (.return_, 1) := by decide +kernel
def fX11_goTidy_J104 (k158 : AH → Nat → Nat → Int32 → Option (AH)) (h : AH) (v0 : Nat) (v1 : Nat) (v3 : Int32) (v4 : Int32) (v5 : Int32) : Option (AH) :=
    (aI h 0 v1 (216 + v4)).bind fun x1 =>
    if x1 = 0 then (
      (fX11_isCopy h v1 v4).bind fun q2 =>
      if q2 = true then (
        k158 h v0 v1 v4
      ) else (
        (fX11_pagesOf h v1 v4).bind fun q3 =>
        if (q3 &&& (v5 ^^^ ((-1)))) = 0 then (
          (aI h 0 v1 (192 + v4)).bind fun x4 =>
          (fX11_goBypass h v0 v1 v3 x4).bind fun q5 =>
          k158 q5 v0 v1 v3
        ) else (
          k158 h v0 v1 v4
        )
      )
    ) else (
      k158 h v0 v1 v4
    )
def fX11_goTidy_L18 : Nat → AH → Nat → Nat → Int32 → Option (AH)
  | 0, _, _, _, _ => none
  | n + 1, h, v0, v1, v3 =>
    (aI h 0 v1 (192 + v3)).bind fun x6 =>
    if x6 = ((-1)) then (
      some h
    ) else (
      (aI h 0 v1 (192 + v3)).bind fun x7 =>
      (fX11_pagesOf h v1 v3).bind fun q8 =>
      if q8 = 255 then (
        (fX11_goBypass h v0 v1 v3 ((-1))).bind fun q9 =>
        fX11_goTidy_L18 n q9 v0 v1 v3
      ) else (
        (fX11_holdersOf h v1 x7).bind fun q10 =>
        if q10 = 1 then (
          (aI h 0 v1 (216 + x7)).bind fun x11 =>
          if x11 = 0 then (
            (fX11_goCollapse h v1 v3 x7).bind fun q12 =>
            (gI q12 11 v0 21).bind fun x13 =>
            (pF q12 11 v0 21 (.int (x13 + 1))).bind fun h14 =>
            fX11_goTidy_L18 n h14 v0 v1 v3
          ) else (
            fX11_goTidy_J104
              (fun h18 x15 x16 x17 =>
                fX11_goTidy_L18 n h18 x15 x16 x17)
              h v0 v1 v3 x7 q8
          )
        ) else (
          fX11_goTidy_J104
            (fun h22 x19 x20 x21 =>
              fX11_goTidy_L18 n h22 x19 x20 x21)
            h v0 v1 v3 x7 q8
        )
      )
    )
def fX11_goTidy (h : AH) (a0 : Nat) (a1 : Nat) (a2 : Int32) : Option (AH) :=
  if hasC h 11 a0 = true then (
    (pF h 11 a0 21 (.int 0)).bind fun h23 =>
    (pF h23 11 a0 22 (.int 0)).bind fun h24 =>
    (aI h24 0 a1 (312 + a2)).bind fun x25 =>
    fX11_goTidy_L18 FU h24 a0 a1 x25
  ) else none
set_option maxHeartbeats 4000000 in
theorem gX11_goTidy_J104 {Y : YT} {X : XT} (C : CT Y X RX11 cX11_goTidy 6) (O : RO X 5 0 0) {r : AH} (E : RX Y X none none r 0 0) {k158 : AH → Nat → Nat → Int32 → Option (AH)} (hk158 : ∀ (h : AH) (v0 : Nat) (v1 : Nat) (v3 : Int32), GO Y X 6 r h 0 0 158 [(0, .ref v0), (1, .ref v1), (3, .int v3)] [] (k158 h v0 v1 v3)) : ∀ (h : AH) (v0 : Nat) (v1 : Nat) (v3 : Int32) (v4 : Int32) (v5 : Int32), GO Y X 6 r h 0 0 104 [(0, .ref v0), (1, .ref v1), (3, .int v3), (4, .int v4), (5, .int v5)] [] (fX11_goTidy_J104 k158 h v0 v1 v3 v4 v5) := by
  intro h v0 v1 v3 v4 v5
  unfold fX11_goTidy_J104
  refine go_aload_n (pc := 104) C 1 dX11_goTidy_104 rfl ?_
  refine go_sipush (pc := 105) C dX11_goTidy_105 ks_216 ?_
  refine go_iload (pc := 108) C 3 dX11_goTidy_108 rfl ?_
  refine go_iadd (pc := 110) C dX11_goTidy_110 ?_
  refine go_iald (pc := 111) C dX11_goTidy_111 (fun x1 => ?_)
  refine go_if_ne (pc := 112) C 155 dX11_goTidy_112 (by decide) (fun _ => ?_) (fun _ => ?_)
  · refine go_aload_n (pc := 115) C 1 dX11_goTidy_115 rfl ?_
    refine go_iload (pc := 116) C 3 dX11_goTidy_116 rfl ?_
    refine go_bind (fun q2 hq2 => ?_)
    refine go_callS (rest := []) (st' := [.int (b2i q2)]) (c' := 0) (s' := 0) (pc := 118) C O miX11_335 w_1658 [.ref v1, .int v4] rfl (mX11_isCopy hq2) dX11_goTidy_118 ⟨by decide, by decide, by decide, by decide⟩ rfl (Nat.le_of_ble_eq_true rfl) rfl ⟨rfl, rfl⟩ ?_
    refine go_ifZ_ne (pc := 121) C 155 dX11_goTidy_121 (by decide) (fun _ => ?_) (fun _ => ?_)
    · refine go_iload (pc := 155) C 3 dX11_goTidy_155 rfl ?_
      refine go_istore_n (ls' := [(3, .int v4), (0, .ref v0), (1, .ref v1), (4, .int v4), (5, .int v5)]) (pc := 157) C dX11_goTidy_157 (by decide) rfl ?_
      refine go_sub (ls' := [(0, .ref v0), (1, .ref v1), (3, .int v4)]) [1, 2, 0] rfl ?_
      exact hk158 h v0 v1 v4
    · refine go_aload_n (pc := 124) C 1 dX11_goTidy_124 rfl ?_
      refine go_iload (pc := 125) C 3 dX11_goTidy_125 rfl ?_
      refine go_bind (fun q3 hq3 => ?_)
      refine go_callS (rest := []) (st' := [.int q3]) (c' := 0) (s' := 0) (pc := 127) C O miX11_96 w_1491 [.ref v1, .int v4] rfl (mX11_pagesOf hq3) dX11_goTidy_127 ⟨by decide, by decide, by decide, by decide⟩ rfl (Nat.le_of_ble_eq_true rfl) rfl ⟨rfl, rfl⟩ ?_
      refine go_iload (pc := 130) C 4 dX11_goTidy_130 rfl ?_
      refine go_iconst (pc := 132) C dX11_goTidy_132 ki_m1 ?_
      refine go_ixor (pc := 133) C dX11_goTidy_133 ?_
      refine go_iand (pc := 134) C dX11_goTidy_134 ?_
      refine go_if_ne (pc := 135) C 155 dX11_goTidy_135 (by decide) (fun _ => ?_) (fun _ => ?_)
      · refine go_aload_n (pc := 138) C 0 dX11_goTidy_138 rfl ?_
        refine go_aload_n (pc := 139) C 1 dX11_goTidy_139 rfl ?_
        refine go_iload_n (pc := 140) C 2 dX11_goTidy_140 rfl ?_
        refine go_aload_n (pc := 141) C 1 dX11_goTidy_141 rfl ?_
        refine go_sipush (pc := 142) C dX11_goTidy_142 ks_192 ?_
        refine go_iload (pc := 145) C 3 dX11_goTidy_145 rfl ?_
        refine go_iadd (pc := 147) C dX11_goTidy_147 ?_
        refine go_iald (pc := 148) C dX11_goTidy_148 (fun x4 => ?_)
        refine go_bind (fun q5 hq5 => ?_)
        refine go_callV (rest := []) (st' := []) (c' := 0) (s' := 0) (pc := 149) C O miX11_329 mvX11_goBypass [.ref v1, .int v3, .int x4] rfl (mX11_goBypass hq5).1 (mX11_goBypass hq5).2 dX11_goTidy_149 ⟨by decide, by decide, by decide, by decide⟩ rfl (Nat.le_of_ble_eq_true rfl) rfl ⟨rfl, rfl⟩ ?_
        refine go_goto (pc := 152) C 158 dX11_goTidy_152 (by decide) ?_
        refine go_sub (ls' := [(0, .ref v0), (1, .ref v1), (3, .int v3)]) [0, 1, 2] rfl ?_
        exact hk158 q5 v0 v1 v3
      · refine go_iload (pc := 155) C 3 dX11_goTidy_155 rfl ?_
        refine go_istore_n (ls' := [(3, .int v4), (0, .ref v0), (1, .ref v1), (4, .int v4), (5, .int v5)]) (pc := 157) C dX11_goTidy_157 (by decide) rfl ?_
        refine go_sub (ls' := [(0, .ref v0), (1, .ref v1), (3, .int v4)]) [1, 2, 0] rfl ?_
        exact hk158 h v0 v1 v4
  · refine go_iload (pc := 155) C 3 dX11_goTidy_155 rfl ?_
    refine go_istore_n (ls' := [(3, .int v4), (0, .ref v0), (1, .ref v1), (4, .int v4), (5, .int v5)]) (pc := 157) C dX11_goTidy_157 (by decide) rfl ?_
    refine go_sub (ls' := [(0, .ref v0), (1, .ref v1), (3, .int v4)]) [1, 2, 0] rfl ?_
    exact hk158 h v0 v1 v4
set_option maxHeartbeats 4000000 in
theorem gX11_goTidy_L18 {Y : YT} {X : XT} (C : CT Y X RX11 cX11_goTidy 6) (O : RO X 5 0 0) {r : AH} (E : RX Y X none none r 0 0) : ∀ (n : Nat) (h : AH) (v0 : Nat) (v1 : Nat) (v3 : Int32), GO Y X 6 r h 0 0 18 [(0, .ref v0), (1, .ref v1), (3, .int v3)] [] (fX11_goTidy_L18 n h v0 v1 v3) := by
  intro n
  induction n with
  | zero => intros; exact go_none _ _ _
  | succ n ih =>
    intro h v0 v1 v3
    rw [fX11_goTidy_L18]
    refine go_aload_n (pc := 18) C 1 dX11_goTidy_18 rfl ?_
    refine go_sipush (pc := 19) C dX11_goTidy_19 ks_192 ?_
    refine go_iload_n (pc := 22) C 2 dX11_goTidy_22 rfl ?_
    refine go_iadd (pc := 23) C dX11_goTidy_23 ?_
    refine go_iald (pc := 24) C dX11_goTidy_24 (fun x6 => ?_)
    refine go_iconst (pc := 25) C dX11_goTidy_25 ki_m1 ?_
    refine go_icmp_eq (pc := 26) C 161 dX11_goTidy_26 (by decide) (fun _ => ?_) (fun _ => ?_)
    · exact go_vret (w := wV) (pc := 161) C E h dX11_goTidy_161 rfl
    · refine go_aload_n (pc := 29) C 1 dX11_goTidy_29 rfl ?_
      refine go_sipush (pc := 30) C dX11_goTidy_30 ks_192 ?_
      refine go_iload_n (pc := 33) C 2 dX11_goTidy_33 rfl ?_
      refine go_iadd (pc := 34) C dX11_goTidy_34 ?_
      refine go_iald (pc := 35) C dX11_goTidy_35 (fun x7 => ?_)
      refine go_istore (ls' := [(4, .int x7), (0, .ref v0), (1, .ref v1), (3, .int v3)]) (pc := 36) C dX11_goTidy_36 (by decide) rfl ?_
      refine go_aload_n (pc := 38) C 2 dX11_goTidy_38 rfl ?_
      refine go_iload_n (pc := 39) C 3 dX11_goTidy_39 rfl ?_
      refine go_bind (fun q8 hq8 => ?_)
      refine go_callS (rest := []) (st' := [.int q8]) (c' := 0) (s' := 0) (pc := 40) C O miX11_96 w_1491 [.ref v1, .int v3] rfl (mX11_pagesOf hq8) dX11_goTidy_40 ⟨by decide, by decide, by decide, by decide⟩ rfl (Nat.le_of_ble_eq_true rfl) rfl ⟨rfl, rfl⟩ ?_
      refine go_istore (ls' := [(5, .int q8), (4, .int x7), (0, .ref v0), (1, .ref v1), (3, .int v3)]) (pc := 43) C dX11_goTidy_43 (by decide) rfl ?_
      refine go_iload (pc := 45) C 0 dX11_goTidy_45 rfl ?_
      refine go_sipush (pc := 47) C dX11_goTidy_47 ks_255 ?_
      refine go_icmp_ne (pc := 50) C 63 dX11_goTidy_50 (by decide) (fun _ => ?_) (fun _ => ?_)
      · refine go_aload_n (pc := 53) C 2 dX11_goTidy_53 rfl ?_
        refine go_aload_n (pc := 54) C 3 dX11_goTidy_54 rfl ?_
        refine go_iload_n (pc := 55) C 4 dX11_goTidy_55 rfl ?_
        refine go_iconst (pc := 56) C dX11_goTidy_56 ki_m1 ?_
        refine go_bind (fun q9 hq9 => ?_)
        refine go_callV (rest := []) (st' := []) (c' := 0) (s' := 0) (pc := 57) C O miX11_329 mvX11_goBypass [.ref v1, .int v3, .int ((-1))] rfl (mX11_goBypass hq9).1 (mX11_goBypass hq9).2 dX11_goTidy_57 ⟨by decide, by decide, by decide, by decide⟩ rfl (Nat.le_of_ble_eq_true rfl) rfl ⟨rfl, rfl⟩ ?_
        refine go_goto (pc := 60) C 158 dX11_goTidy_60 (by decide) ?_
        refine go_goto (pc := 158) C 18 dX11_goTidy_158 (by decide) ?_
        refine go_sub (ls' := [(0, .ref v0), (1, .ref v1), (3, .int v3)]) [2, 3, 4] rfl ?_
        exact ih q9 v0 v1 v3
      · refine go_aload_n (pc := 63) C 3 dX11_goTidy_63 rfl ?_
        refine go_iload (pc := 64) C 1 dX11_goTidy_64 rfl ?_
        refine go_bind (fun q10 hq10 => ?_)
        refine go_callS (rest := []) (st' := [.int q10]) (c' := 0) (s' := 0) (pc := 66) C O miX11_109 w_1578 [.ref v1, .int x7] rfl (mX11_holdersOf hq10) dX11_goTidy_66 ⟨by decide, by decide, by decide, by decide⟩ rfl (Nat.le_of_ble_eq_true rfl) rfl ⟨rfl, rfl⟩ ?_
        refine go_iconst (pc := 69) C dX11_goTidy_69 ki_1 ?_
        refine go_icmp_ne (pc := 70) C 104 dX11_goTidy_70 (by decide) (fun _ => ?_) (fun _ => ?_)
        · refine go_aload_n (pc := 73) C 3 dX11_goTidy_73 rfl ?_
          refine go_sipush (pc := 74) C dX11_goTidy_74 ks_216 ?_
          refine go_iload (pc := 77) C 1 dX11_goTidy_77 rfl ?_
          refine go_iadd (pc := 79) C dX11_goTidy_79 ?_
          refine go_iald (pc := 80) C dX11_goTidy_80 (fun x11 => ?_)
          refine go_if_ne (pc := 81) C 104 dX11_goTidy_81 (by decide) (fun _ => ?_) (fun _ => ?_)
          · refine go_aload_n (pc := 84) C 3 dX11_goTidy_84 rfl ?_
            refine go_iload_n (pc := 85) C 4 dX11_goTidy_85 rfl ?_
            refine go_iload (pc := 86) C 1 dX11_goTidy_86 rfl ?_
            refine go_bind (fun q12 hq12 => ?_)
            refine go_callS (rest := []) (st' := []) (c' := 0) (s' := 0) (pc := 88) C O miX11_332 w_1655 [.ref v1, .int v3, .int x7] rfl (mX11_goCollapse hq12) dX11_goTidy_88 ⟨by decide, by decide, by decide, by decide⟩ rfl (Nat.le_of_ble_eq_true rfl) rfl ⟨rfl, rfl⟩ ?_
            refine go_aload_n (pc := 91) C 2 dX11_goTidy_91 rfl ?_
            refine go_dup (pc := 92) C dX11_goTidy_92 rfl ?_
            refine go_gI (pc := 93) C fdX11_326 dX11_goTidy_93 (fun x13 => ?_)
            refine go_iconst (pc := 96) C dX11_goTidy_96 ki_1 ?_
            refine go_iadd (pc := 97) C dX11_goTidy_97 ?_
            refine go_pI (pc := 98) C fpX11_326 dX11_goTidy_98 (fun h14 => ?_)
            refine go_goto (pc := 101) C 158 dX11_goTidy_101 (by decide) ?_
            refine go_goto (pc := 158) C 18 dX11_goTidy_158 (by decide) ?_
            refine go_sub (ls' := [(0, .ref v0), (1, .ref v1), (3, .int v3)]) [2, 3, 4] rfl ?_
            exact ih h14 v0 v1 v3
          · refine go_sub (ls' := [(0, .ref v0), (1, .ref v1), (3, .int v3), (4, .int x7), (5, .int q8)]) [2, 3, 4, 1, 0] rfl ?_
            refine gX11_goTidy_J104 C O E (fun h18 x15 x16 x17 => ?_) h v0 v1 v3 x7 q8
            · refine go_goto (pc := 158) C 18 dX11_goTidy_158 (by decide) ?_
              refine go_sub (ls' := [(0, .ref x15), (1, .ref x16), (3, .int x17)]) [0, 1, 2] rfl ?_
              exact ih h18 x15 x16 x17
        · refine go_sub (ls' := [(0, .ref v0), (1, .ref v1), (3, .int v3), (4, .int x7), (5, .int q8)]) [2, 3, 4, 1, 0] rfl ?_
          refine gX11_goTidy_J104 C O E (fun h22 x19 x20 x21 => ?_) h v0 v1 v3 x7 q8
          · refine go_goto (pc := 158) C 18 dX11_goTidy_158 (by decide) ?_
            refine go_sub (ls' := [(0, .ref x19), (1, .ref x20), (3, .int x21)]) [0, 1, 2] rfl ?_
            exact ih h22 x19 x20 x21
set_option maxHeartbeats 4000000 in
theorem mX11_goTidy {h : AH} {a0 : Nat} {a1 : Nat} {a2 : Int32} {r : AH} (hr : fX11_goTidy h a0 a1 a2 = some r) : hasC h 11 a0 = true ∧ MC yX11_goTidy cX11_goTidy 6 none 5 0 0 [.ref a0, .ref a1, .int a2] h none r := by
  unfold fX11_goTidy at hr
  obtain ⟨hc, hr⟩ := if_some hr
  refine ⟨hc, mc_of (l0 := [(0, .ref a0), (1, .ref a1), (2, .int a2)]) rfl pn_X11 (Nat.le_of_ble_eq_true rfl) (fun Y X C E O hnm => go_run hr ?_)⟩
  have C : CT Y X RX11 cX11_goTidy 6 := C
  refine go_aload_n (pc := 0) C 0 dX11_goTidy_0 rfl ?_
  refine go_iconst (pc := 1) C dX11_goTidy_1 ki_0 ?_
  refine go_pI (pc := 2) C fpX11_326 dX11_goTidy_2 (fun h23 => ?_)
  refine go_aload_n (pc := 5) C 0 dX11_goTidy_5 rfl ?_
  refine go_iconst (pc := 6) C dX11_goTidy_6 ki_0 ?_
  refine go_pI (pc := 7) C fpX11_323 dX11_goTidy_7 (fun h24 => ?_)
  refine go_aload_n (pc := 10) C 1 dX11_goTidy_10 rfl ?_
  refine go_sipush (pc := 11) C dX11_goTidy_11 ks_312 ?_
  refine go_iload_n (pc := 14) C 2 dX11_goTidy_14 rfl ?_
  refine go_iadd (pc := 15) C dX11_goTidy_15 ?_
  refine go_iald (pc := 16) C dX11_goTidy_16 (fun x25 => ?_)
  refine go_istore_n (ls' := [(3, .int x25), (0, .ref a0), (1, .ref a1), (2, .int a2)]) (pc := 17) C dX11_goTidy_17 (by decide) rfl ?_
  refine go_sub (ls' := [(0, .ref a0), (1, .ref a1), (3, .int x25)]) [1, 2, 0] rfl ?_
  refine gX11_goTidy_L18 C O E FU h24 a0 a1 x25
theorem dX11_goWrite_0 : decode cX11_goWrite 0 = .ok (.aload_n 1, 1) := by decide +kernel
theorem dX11_goWrite_1 : decode cX11_goWrite 1 = .ok (.aload_n 1, 1) := by decide +kernel
theorem dX11_goWrite_2 : decode cX11_goWrite 2 = .ok (.sipush 312, 3) := by decide +kernel
theorem dX11_goWrite_5 : decode cX11_goWrite 5 = .ok (.iload_n 2, 1) := by decide +kernel
theorem dX11_goWrite_6 : decode cX11_goWrite 6 = .ok (.iadd, 1) := by decide +kernel
theorem dX11_goWrite_7 : decode cX11_goWrite 7 = .ok (.iaload, 1) := by decide +kernel
theorem dX11_goWrite_8 : decode cX11_goWrite 8 = .ok (.iload_n 3, 1) := by decide +kernel
theorem dX11_goWrite_9 : decode cX11_goWrite 9 = .ok (.invokestatic 92, 3) := by decide +kernel
theorem dX11_goWrite_12 : decode cX11_goWrite 12 = .ok (.ifCond .ne 9, 3) := by decide +kernel
theorem dX11_goWrite_15 : decode cX11_goWrite 15 = .ok (.aload_n 1, 1) := by decide +kernel
theorem dX11_goWrite_16 : decode cX11_goWrite 16 = .ok (.iload_n 2, 1) := by decide +kernel
theorem dX11_goWrite_17 : decode cX11_goWrite 17 = .ok (.iload_n 3, 1) := by decide +kernel
theorem dX11_goWrite_18 : decode cX11_goWrite 18 = .ok (.invokestatic 280, 3) := by decide +kernel
theorem dX11_goWrite_21 : decode cX11_goWrite 21 = .ok (.aload_n 1, 1) := by decide +kernel
theorem dX11_goWrite_22 : decode cX11_goWrite 22 = .ok (.iload_n 2, 1) := by decide +kernel
theorem dX11_goWrite_23 : decode cX11_goWrite 23 = .ok (.invokestatic 287, 3) := by decide +kernel
theorem dX11_goWrite_26 : decode cX11_goWrite 26 = .ok (.ifCond .eq 23, 3) := by decide +kernel
theorem dX11_goWrite_29 : decode cX11_goWrite 29 = .ok (.aload_n 1, 1) := by decide +kernel
theorem dX11_goWrite_30 : decode cX11_goWrite 30 = .ok (.sipush 312, 3) := by decide +kernel
theorem dX11_goWrite_33 : decode cX11_goWrite 33 = .ok (.iload_n 2, 1) := by decide +kernel
theorem dX11_goWrite_34 : decode cX11_goWrite 34 = .ok (.iadd, 1) := by decide +kernel
theorem dX11_goWrite_35 : decode cX11_goWrite 35 = .ok (.aload_n 1, 1) := by decide +kernel
theorem dX11_goWrite_36 : decode cX11_goWrite 36 = .ok (.iconst 0, 1) := by decide +kernel
theorem dX11_goWrite_37 : decode cX11_goWrite 37 = .ok (.iconst 0, 1) := by decide +kernel
theorem dX11_goWrite_38 : decode cX11_goWrite 38 = .ok (.aload_n 1, 1) := by decide +kernel
theorem dX11_goWrite_39 : decode cX11_goWrite 39 = .ok (.sipush 312, 3) := by decide +kernel
theorem dX11_goWrite_42 : decode cX11_goWrite 42 = .ok (.iload_n 2, 1) := by decide +kernel
theorem dX11_goWrite_43 : decode cX11_goWrite 43 = .ok (.iadd, 1) := by decide +kernel
theorem dX11_goWrite_44 : decode cX11_goWrite 44 = .ok (.iaload, 1) := by decide +kernel
theorem dX11_goWrite_45 : decode cX11_goWrite 45 = .ok (.invokestatic 188, 3) := by decide +kernel
theorem dX11_goWrite_48 : decode cX11_goWrite 48 = .ok (.iastore, 1) := by decide +kernel
theorem dX11_goWrite_49 : decode cX11_goWrite 49 = .ok (.aload_n 1, 1) := by decide +kernel
theorem dX11_goWrite_50 : decode cX11_goWrite 50 = .ok (.sipush 318, 3) := by decide +kernel
theorem dX11_goWrite_53 : decode cX11_goWrite 53 = .ok (.iload_n 2, 1) := by decide +kernel
theorem dX11_goWrite_54 : decode cX11_goWrite 54 = .ok (.iadd, 1) := by decide +kernel
theorem dX11_goWrite_55 : decode cX11_goWrite 55 = .ok (.iconst 0, 1) := by decide +kernel
theorem dX11_goWrite_56 : decode cX11_goWrite 56 = .ok (.iastore, 1) := by decide +kernel
theorem dX11_goWrite_57 : decode cX11_goWrite 57 = .ok (.aload_n 1, 1) := by decide +kernel
theorem dX11_goWrite_58 : decode cX11_goWrite 58 = .ok (.sipush 312, 3) := by decide +kernel
theorem dX11_goWrite_61 : decode cX11_goWrite 61 = .ok (.iload_n 2, 1) := by decide +kernel
theorem dX11_goWrite_62 : decode cX11_goWrite 62 = .ok (.iadd, 1) := by decide +kernel
theorem dX11_goWrite_63 : decode cX11_goWrite 63 = .ok (.iaload, 1) := by decide +kernel
theorem dX11_goWrite_64 : decode cX11_goWrite 64 = .ok (.istore 5, 2) := by decide +kernel
theorem dX11_goWrite_66 : decode cX11_goWrite 66 = .ok (.aload_n 1, 1) := by decide +kernel
theorem dX11_goWrite_67 : decode cX11_goWrite 67 = .ok (.sipush 264, 3) := by decide +kernel
theorem dX11_goWrite_70 : decode cX11_goWrite 70 = .ok (.iload 5, 2) := by decide +kernel
theorem dX11_goWrite_72 : decode cX11_goWrite 72 = .ok (.iadd, 1) := by decide +kernel
theorem dX11_goWrite_73 : decode cX11_goWrite 73 = .ok (.iaload, 1) := by decide +kernel
theorem dX11_goWrite_74 : decode cX11_goWrite 74 = .ok (.istore 6, 2) := by decide +kernel
theorem dX11_goWrite_76 : decode cX11_goWrite 76 = .ok (.iload 6, 2) := by decide +kernel
theorem dX11_goWrite_78 : decode cX11_goWrite 78 = .ok (.iconst (-1), 1) := by decide +kernel
theorem dX11_goWrite_79 : decode cX11_goWrite 79 = .ok (.if_icmp .eq 31, 3) := by decide +kernel
theorem dX11_goWrite_82 : decode cX11_goWrite 82 = .ok (.aload_n 1, 1) := by decide +kernel
theorem dX11_goWrite_83 : decode cX11_goWrite 83 = .ok (.iload 6, 2) := by decide +kernel
theorem dX11_goWrite_85 : decode cX11_goWrite 85 = .ok (.iload_n 3, 1) := by decide +kernel
theorem dX11_goWrite_86 : decode cX11_goWrite 86 = .ok (.invokestatic 92, 3) := by decide +kernel
theorem dX11_goWrite_89 : decode cX11_goWrite 89 = .ok (.ifCond .ne 21, 3) := by decide +kernel
theorem dX11_goWrite_92 : decode cX11_goWrite 92 = .ok (.aload_n 1, 1) := by decide +kernel
theorem dX11_goWrite_93 : decode cX11_goWrite 93 = .ok (.bipush 8, 2) := by decide +kernel
theorem dX11_goWrite_95 : decode cX11_goWrite 95 = .ok (.iload 6, 2) := by decide +kernel
theorem dX11_goWrite_97 : decode cX11_goWrite 97 = .ok (.imul, 1) := by decide +kernel
theorem dX11_goWrite_98 : decode cX11_goWrite 98 = .ok (.iload_n 3, 1) := by decide +kernel
theorem dX11_goWrite_99 : decode cX11_goWrite 99 = .ok (.iadd, 1) := by decide +kernel
theorem dX11_goWrite_100 : decode cX11_goWrite 100 = .ok (.aload_n 1, 1) := by decide +kernel
theorem dX11_goWrite_101 : decode cX11_goWrite 101 = .ok (.bipush 8, 2) := by decide +kernel
theorem dX11_goWrite_103 : decode cX11_goWrite 103 = .ok (.iload 5, 2) := by decide +kernel
theorem dX11_goWrite_105 : decode cX11_goWrite 105 = .ok (.imul, 1) := by decide +kernel
theorem dX11_goWrite_106 : decode cX11_goWrite 106 = .ok (.iload_n 3, 1) := by decide +kernel
theorem dX11_goWrite_107 : decode cX11_goWrite 107 = .ok (.iadd, 1) := by decide +kernel
theorem dX11_goWrite_108 : decode cX11_goWrite 108 = .ok (.iaload, 1) := by decide +kernel
theorem dX11_goWrite_109 : decode cX11_goWrite 109 = .ok (.iastore, 1) := by decide +kernel
theorem dX11_goWrite_110 : decode cX11_goWrite 110 = .ok (.aload_n 1, 1) := by decide +kernel
theorem dX11_goWrite_111 : decode cX11_goWrite 111 = .ok (.iload 5, 2) := by decide +kernel
theorem dX11_goWrite_113 : decode cX11_goWrite 113 = .ok (.iload_n 3, 1) := by decide +kernel
theorem dX11_goWrite_114 : decode cX11_goWrite 114 = .ok (.invokestatic 92, 3) := by decide +kernel
theorem dX11_goWrite_117 : decode cX11_goWrite 117 = .ok (.istore 7, 2) := by decide +kernel
theorem dX11_goWrite_119 : decode cX11_goWrite 119 = .ok (.aload_n 1, 1) := by decide +kernel
theorem dX11_goWrite_120 : decode cX11_goWrite 120 = .ok (.bipush 8, 2) := by decide +kernel
theorem dX11_goWrite_122 : decode cX11_goWrite 122 = .ok (.iload 5, 2) := by decide +kernel
theorem dX11_goWrite_124 : decode cX11_goWrite 124 = .ok (.imul, 1) := by decide +kernel
theorem dX11_goWrite_125 : decode cX11_goWrite 125 = .ok (.iload_n 3, 1) := by decide +kernel
theorem dX11_goWrite_126 : decode cX11_goWrite 126 = .ok (.iadd, 1) := by decide +kernel
theorem dX11_goWrite_127 : decode cX11_goWrite 127 = .ok (.iload 4, 2) := by decide +kernel
theorem dX11_goWrite_129 : decode cX11_goWrite 129 = .ok (.iastore, 1) := by decide +kernel
theorem dX11_goWrite_130 : decode cX11_goWrite 130 = .ok (.aload_n 1, 1) := by decide +kernel
theorem dX11_goWrite_131 : decode cX11_goWrite 131 = .ok (.sipush 324, 3) := by decide +kernel
theorem dX11_goWrite_134 : decode cX11_goWrite 134 = .ok (.dup2, 1) := by decide +kernel
theorem dX11_goWrite_135 : decode cX11_goWrite 135 = .ok (.iaload, 1) := by decide +kernel
theorem dX11_goWrite_136 : decode cX11_goWrite 136 = .ok (.iconst 1, 1) := by decide +kernel
theorem dX11_goWrite_137 : decode cX11_goWrite 137 = .ok (.iadd, 1) := by decide +kernel
theorem dX11_goWrite_138 : decode cX11_goWrite 138 = .ok (.iastore, 1) := by decide +kernel
theorem dX11_goWrite_139 : decode cX11_goWrite 139 = .ok (.iload 7, 2) := by decide +kernel
theorem dX11_goWrite_141 : decode cX11_goWrite 141 = .ok (.ifCond .ne 19, 3) := by decide +kernel
theorem dX11_goWrite_144 : decode cX11_goWrite 144 = .ok (.aload_n 0, 1) := by decide +kernel
theorem dX11_goWrite_145 : decode cX11_goWrite 145 = .ok (.aload_n 1, 1) := by decide +kernel
theorem dX11_goWrite_146 : decode cX11_goWrite 146 = .ok (.iload_n 2, 1) := by decide +kernel
theorem dX11_goWrite_147 : decode cX11_goWrite 147 = .ok (.iload_n 3, 1) := by decide +kernel
theorem dX11_goWrite_148 : decode cX11_goWrite 148 = .ok (.invokevirtual 230, 3) := by decide +kernel
theorem dX11_goWrite_151 : decode cX11_goWrite 151 = .ok (.ifCond .le 9, 3) := by decide +kernel
theorem dX11_goWrite_154 : decode cX11_goWrite 154 = .ok (.aload_n 0, 1) := by decide +kernel
theorem dX11_goWrite_155 : decode cX11_goWrite 155 = .ok (.aload_n 1, 1) := by decide +kernel
theorem dX11_goWrite_156 : decode cX11_goWrite 156 = .ok (.iload_n 2, 1) := by decide +kernel
theorem dX11_goWrite_157 : decode cX11_goWrite 157 = .ok (.invokevirtual 290, 3) := by decide +kernel
theorem dX11_goWrite_160 : decode cX11_goWrite 160 = .ok (.return_, 1) := by decide +kernel
def fX11_goWrite_J110 (h : AH) (v0 : Nat) (v1 : Nat) (v2 : Int32) (v3 : Int32) (v4 : Int32) (v5 : Int32) : Option (AH) :=
    (fX11_holds h v1 v5 v3).bind fun q1 =>
    (sI h 0 v1 ((8 * v5) + v3) v4).bind fun h2 =>
    (aI h2 0 v1 324).bind fun x3 =>
    (sI h2 0 v1 324 (x3 + 1)).bind fun h4 =>
    if q1 = true then (
      some h4
    ) else (
      (fX11_ruleOf h4 v0 v1 v2 v3).bind fun q5 =>
      if q5.1 ≤ 0 then (
        some q5.2
      ) else (
        (fX11_goTidy q5.2 v0 v1 v2).bind fun q6 =>
        some q6
      )
    )
def fX11_goWrite_J49 (h : AH) (v0 : Nat) (v1 : Nat) (v2 : Int32) (v3 : Int32) (v4 : Int32) : Option (AH) :=
    (sI h 0 v1 (318 + v2) 0).bind fun h7 =>
    (aI h7 0 v1 (312 + v2)).bind fun x8 =>
    (aI h7 0 v1 (264 + x8)).bind fun x9 =>
    if x9 = ((-1)) then (
      fX11_goWrite_J110 h7 v0 v1 v2 v3 v4 x8
    ) else (
      (fX11_holds h7 v1 x9 v3).bind fun q10 =>
      if q10 = true then (
        fX11_goWrite_J110 h7 v0 v1 v2 v3 v4 x8
      ) else (
        (aI h7 0 v1 ((8 * x8) + v3)).bind fun x11 =>
        (sI h7 0 v1 ((8 * x9) + v3) x11).bind fun h12 =>
        fX11_goWrite_J110 h12 v0 v1 v2 v3 v4 x8
      )
    )
def fX11_goWrite_J21 (h : AH) (v0 : Nat) (v1 : Nat) (v2 : Int32) (v3 : Int32) (v4 : Int32) : Option (AH) :=
    (fX11_isShared h v1 v2).bind fun q13 =>
    if q13 = true then (
      (aI h 0 v1 (312 + v2)).bind fun x14 =>
      (fX11_comes h v1 0 0 x14).bind fun q15 =>
      (sI q15.2 0 v1 (312 + v2) q15.1).bind fun h16 =>
      fX11_goWrite_J49 h16 v0 v1 v2 v3 v4
    ) else (
      fX11_goWrite_J49 h v0 v1 v2 v3 v4
    )
def fX11_goWrite (h : AH) (a0 : Nat) (a1 : Nat) (a2 : Int32) (a3 : Int32) (a4 : Int32) : Option (AH) :=
  if hasC h 11 a0 = true then (
    (aI h 0 a1 (312 + a2)).bind fun x17 =>
    (fX11_holds h a1 x17 a3).bind fun q18 =>
    if q18 = true then (
      fX11_goWrite_J21 h a0 a1 a2 a3 a4
    ) else (
      (fX11_goFetch h a1 a2 a3).bind fun q19 =>
      fX11_goWrite_J21 q19 a0 a1 a2 a3 a4
    )
  ) else none
set_option maxHeartbeats 4000000 in
theorem gX11_goWrite_J110 {Y : YT} {X : XT} (C : CT Y X RX11 cX11_goWrite 8) (O : RO X 209 0 0) {r : AH} (E : RX Y X none none r 0 0) : ∀ (h : AH) (v0 : Nat) (v1 : Nat) (v2 : Int32) (v3 : Int32) (v4 : Int32) (v5 : Int32), GO Y X 8 r h 0 0 110 [(0, .ref v0), (1, .ref v1), (2, .int v2), (3, .int v3), (4, .int v4), (5, .int v5)] [] (fX11_goWrite_J110 h v0 v1 v2 v3 v4 v5) := by
  intro h v0 v1 v2 v3 v4 v5
  unfold fX11_goWrite_J110
  refine go_aload_n (pc := 110) C 1 dX11_goWrite_110 rfl ?_
  refine go_iload (pc := 111) C 5 dX11_goWrite_111 rfl ?_
  refine go_iload_n (pc := 113) C 3 dX11_goWrite_113 rfl ?_
  refine go_bind (fun q1 hq1 => ?_)
  refine go_callS (rest := []) (st' := [.int (b2i q1)]) (c' := 0) (s' := 0) (pc := 114) C O miX11_92 w_1494 [.ref v1, .int v5, .int v3] rfl (mX11_holds hq1) dX11_goWrite_114 ⟨by decide, by decide, by decide, by decide⟩ rfl (Nat.le_of_ble_eq_true rfl) rfl ⟨rfl, rfl⟩ ?_
  refine go_istore (ls' := [(7, .int (b2i q1)), (0, .ref v0), (1, .ref v1), (2, .int v2), (3, .int v3), (4, .int v4), (5, .int v5)]) (pc := 117) C dX11_goWrite_117 (by decide) rfl ?_
  refine go_aload_n (pc := 119) C 2 dX11_goWrite_119 rfl ?_
  refine go_bipush (pc := 120) C dX11_goWrite_120 kb_8 ?_
  refine go_iload (pc := 122) C 6 dX11_goWrite_122 rfl ?_
  refine go_imul (pc := 124) C dX11_goWrite_124 ?_
  refine go_iload_n (pc := 125) C 4 dX11_goWrite_125 rfl ?_
  refine go_iadd (pc := 126) C dX11_goWrite_126 ?_
  refine go_iload (pc := 127) C 5 dX11_goWrite_127 rfl ?_
  refine go_iast (pc := 129) C dX11_goWrite_129 (fun h2 => ?_)
  refine go_aload_n (pc := 130) C 2 dX11_goWrite_130 rfl ?_
  refine go_sipush (pc := 131) C dX11_goWrite_131 ks_324 ?_
  refine go_dup2 (pc := 134) C dX11_goWrite_134 rfl rfl ?_
  refine go_iald (pc := 135) C dX11_goWrite_135 (fun x3 => ?_)
  refine go_iconst (pc := 136) C dX11_goWrite_136 ki_1 ?_
  refine go_iadd (pc := 137) C dX11_goWrite_137 ?_
  refine go_iast (pc := 138) C dX11_goWrite_138 (fun h4 => ?_)
  refine go_iload (pc := 139) C 0 dX11_goWrite_139 rfl ?_
  refine go_ifZ_ne (pc := 141) C 160 dX11_goWrite_141 (by decide) (fun _ => ?_) (fun _ => ?_)
  · exact go_vret (w := wV) (pc := 160) C E h4 dX11_goWrite_160 rfl
  · refine go_aload_n (pc := 144) C 1 dX11_goWrite_144 rfl ?_
    refine go_aload_n (pc := 145) C 2 dX11_goWrite_145 rfl ?_
    refine go_iload_n (pc := 146) C 3 dX11_goWrite_146 rfl ?_
    refine go_iload_n (pc := 147) C 4 dX11_goWrite_147 rfl ?_
    refine go_bind (fun q5 hq5 => ?_)
    refine go_callV (rest := []) (st' := [.int q5.1]) (c' := 0) (s' := 0) (pc := 148) C O miX11_230 mvX11_ruleOf [.ref v1, .int v2, .int v3] rfl (mX11_ruleOf hq5).1 (mX11_ruleOf hq5).2 dX11_goWrite_148 ⟨by decide, by decide, by decide, by decide⟩ rfl (Nat.le_of_ble_eq_true rfl) rfl ⟨rfl, rfl⟩ ?_
    refine go_if_le (pc := 151) C 160 dX11_goWrite_151 (by decide) (fun _ => ?_) (fun _ => ?_)
    · exact go_vret (w := wV) (pc := 160) C E q5.2 dX11_goWrite_160 rfl
    · refine go_aload_n (pc := 154) C 1 dX11_goWrite_154 rfl ?_
      refine go_aload_n (pc := 155) C 2 dX11_goWrite_155 rfl ?_
      refine go_iload_n (pc := 156) C 3 dX11_goWrite_156 rfl ?_
      refine go_bind (fun q6 hq6 => ?_)
      refine go_callV (rest := []) (st' := []) (c' := 0) (s' := 0) (pc := 157) C O miX11_290 mvX11_goTidy [.ref v1, .int v2] rfl (mX11_goTidy hq6).1 (mX11_goTidy hq6).2 dX11_goWrite_157 ⟨by decide, by decide, by decide, by decide⟩ rfl (Nat.le_of_ble_eq_true rfl) rfl ⟨rfl, rfl⟩ ?_
      exact go_vret (w := wV) (pc := 160) C E q6 dX11_goWrite_160 rfl
set_option maxHeartbeats 4000000 in
theorem gX11_goWrite_J49 {Y : YT} {X : XT} (C : CT Y X RX11 cX11_goWrite 8) (O : RO X 209 0 0) {r : AH} (E : RX Y X none none r 0 0) : ∀ (h : AH) (v0 : Nat) (v1 : Nat) (v2 : Int32) (v3 : Int32) (v4 : Int32), GO Y X 8 r h 0 0 49 [(0, .ref v0), (1, .ref v1), (2, .int v2), (3, .int v3), (4, .int v4)] [] (fX11_goWrite_J49 h v0 v1 v2 v3 v4) := by
  intro h v0 v1 v2 v3 v4
  unfold fX11_goWrite_J49
  refine go_aload_n (pc := 49) C 1 dX11_goWrite_49 rfl ?_
  refine go_sipush (pc := 50) C dX11_goWrite_50 ks_318 ?_
  refine go_iload_n (pc := 53) C 2 dX11_goWrite_53 rfl ?_
  refine go_iadd (pc := 54) C dX11_goWrite_54 ?_
  refine go_iconst (pc := 55) C dX11_goWrite_55 ki_0 ?_
  refine go_iast (pc := 56) C dX11_goWrite_56 (fun h7 => ?_)
  refine go_aload_n (pc := 57) C 1 dX11_goWrite_57 rfl ?_
  refine go_sipush (pc := 58) C dX11_goWrite_58 ks_312 ?_
  refine go_iload_n (pc := 61) C 2 dX11_goWrite_61 rfl ?_
  refine go_iadd (pc := 62) C dX11_goWrite_62 ?_
  refine go_iald (pc := 63) C dX11_goWrite_63 (fun x8 => ?_)
  refine go_istore (ls' := [(5, .int x8), (0, .ref v0), (1, .ref v1), (2, .int v2), (3, .int v3), (4, .int v4)]) (pc := 64) C dX11_goWrite_64 (by decide) rfl ?_
  refine go_aload_n (pc := 66) C 2 dX11_goWrite_66 rfl ?_
  refine go_sipush (pc := 67) C dX11_goWrite_67 ks_264 ?_
  refine go_iload (pc := 70) C 0 dX11_goWrite_70 rfl ?_
  refine go_iadd (pc := 72) C dX11_goWrite_72 ?_
  refine go_iald (pc := 73) C dX11_goWrite_73 (fun x9 => ?_)
  refine go_istore (ls' := [(6, .int x9), (5, .int x8), (0, .ref v0), (1, .ref v1), (2, .int v2), (3, .int v3), (4, .int v4)]) (pc := 74) C dX11_goWrite_74 (by decide) rfl ?_
  refine go_iload (pc := 76) C 0 dX11_goWrite_76 rfl ?_
  refine go_iconst (pc := 78) C dX11_goWrite_78 ki_m1 ?_
  refine go_icmp_eq (pc := 79) C 110 dX11_goWrite_79 (by decide) (fun _ => ?_) (fun _ => ?_)
  · refine go_sub (ls' := [(0, .ref v0), (1, .ref v1), (2, .int v2), (3, .int v3), (4, .int v4), (5, .int x8)]) [2, 3, 4, 5, 6, 1] rfl ?_
    refine gX11_goWrite_J110 C O E h7 v0 v1 v2 v3 v4 x8
  · refine go_aload_n (pc := 82) C 3 dX11_goWrite_82 rfl ?_
    refine go_iload (pc := 83) C 0 dX11_goWrite_83 rfl ?_
    refine go_iload_n (pc := 85) C 5 dX11_goWrite_85 rfl ?_
    refine go_bind (fun q10 hq10 => ?_)
    refine go_callS (rest := []) (st' := [.int (b2i q10)]) (c' := 0) (s' := 0) (pc := 86) C O miX11_92 w_1494 [.ref v1, .int x9, .int v3] rfl (mX11_holds hq10) dX11_goWrite_86 ⟨by decide, by decide, by decide, by decide⟩ rfl (Nat.le_of_ble_eq_true rfl) rfl ⟨rfl, rfl⟩ ?_
    refine go_ifZ_ne (pc := 89) C 110 dX11_goWrite_89 (by decide) (fun _ => ?_) (fun _ => ?_)
    · refine go_sub (ls' := [(0, .ref v0), (1, .ref v1), (2, .int v2), (3, .int v3), (4, .int v4), (5, .int x8)]) [2, 3, 4, 5, 6, 1] rfl ?_
      refine gX11_goWrite_J110 C O E h7 v0 v1 v2 v3 v4 x8
    · refine go_aload_n (pc := 92) C 3 dX11_goWrite_92 rfl ?_
      refine go_bipush (pc := 93) C dX11_goWrite_93 kb_8 ?_
      refine go_iload (pc := 95) C 0 dX11_goWrite_95 rfl ?_
      refine go_imul (pc := 97) C dX11_goWrite_97 ?_
      refine go_iload_n (pc := 98) C 5 dX11_goWrite_98 rfl ?_
      refine go_iadd (pc := 99) C dX11_goWrite_99 ?_
      refine go_aload_n (pc := 100) C 3 dX11_goWrite_100 rfl ?_
      refine go_bipush (pc := 101) C dX11_goWrite_101 kb_8 ?_
      refine go_iload (pc := 103) C 1 dX11_goWrite_103 rfl ?_
      refine go_imul (pc := 105) C dX11_goWrite_105 ?_
      refine go_iload_n (pc := 106) C 5 dX11_goWrite_106 rfl ?_
      refine go_iadd (pc := 107) C dX11_goWrite_107 ?_
      refine go_iald (pc := 108) C dX11_goWrite_108 (fun x11 => ?_)
      refine go_iast (pc := 109) C dX11_goWrite_109 (fun h12 => ?_)
      refine go_sub (ls' := [(0, .ref v0), (1, .ref v1), (2, .int v2), (3, .int v3), (4, .int v4), (5, .int x8)]) [2, 3, 4, 5, 6, 1] rfl ?_
      refine gX11_goWrite_J110 C O E h12 v0 v1 v2 v3 v4 x8
set_option maxHeartbeats 4000000 in
theorem gX11_goWrite_J21 {Y : YT} {X : XT} (C : CT Y X RX11 cX11_goWrite 8) (O : RO X 209 0 0) {r : AH} (E : RX Y X none none r 0 0) : ∀ (h : AH) (v0 : Nat) (v1 : Nat) (v2 : Int32) (v3 : Int32) (v4 : Int32), GO Y X 8 r h 0 0 21 [(0, .ref v0), (1, .ref v1), (2, .int v2), (3, .int v3), (4, .int v4)] [] (fX11_goWrite_J21 h v0 v1 v2 v3 v4) := by
  intro h v0 v1 v2 v3 v4
  unfold fX11_goWrite_J21
  refine go_aload_n (pc := 21) C 1 dX11_goWrite_21 rfl ?_
  refine go_iload_n (pc := 22) C 2 dX11_goWrite_22 rfl ?_
  refine go_bind (fun q13 hq13 => ?_)
  refine go_callS (rest := []) (st' := [.int (b2i q13)]) (c' := 0) (s' := 0) (pc := 23) C O miX11_287 w_1634 [.ref v1, .int v2] rfl (mX11_isShared hq13) dX11_goWrite_23 ⟨by decide, by decide, by decide, by decide⟩ rfl (Nat.le_of_ble_eq_true rfl) rfl ⟨rfl, rfl⟩ ?_
  refine go_ifZ_eq (pc := 26) C 49 dX11_goWrite_26 (by decide) (fun _ => ?_) (fun _ => ?_)
  · refine go_aload_n (pc := 29) C 1 dX11_goWrite_29 rfl ?_
    refine go_sipush (pc := 30) C dX11_goWrite_30 ks_312 ?_
    refine go_iload_n (pc := 33) C 2 dX11_goWrite_33 rfl ?_
    refine go_iadd (pc := 34) C dX11_goWrite_34 ?_
    refine go_aload_n (pc := 35) C 1 dX11_goWrite_35 rfl ?_
    refine go_iconst (pc := 36) C dX11_goWrite_36 ki_0 ?_
    refine go_iconst (pc := 37) C dX11_goWrite_37 ki_0 ?_
    refine go_aload_n (pc := 38) C 1 dX11_goWrite_38 rfl ?_
    refine go_sipush (pc := 39) C dX11_goWrite_39 ks_312 ?_
    refine go_iload_n (pc := 42) C 2 dX11_goWrite_42 rfl ?_
    refine go_iadd (pc := 43) C dX11_goWrite_43 ?_
    refine go_iald (pc := 44) C dX11_goWrite_44 (fun x14 => ?_)
    refine go_bind (fun q15 hq15 => ?_)
    refine go_callS (rest := [.int (312 + v2), .ref v1]) (st' := [.int q15.1, .int (312 + v2), .ref v1]) (c' := 0) (s' := 0) (pc := 45) C O miX11_188 w_1505 [.ref v1, .int 0, .int 0, .int x14] rfl (mX11_comes hq15) dX11_goWrite_45 ⟨by decide, by decide, by decide, by decide⟩ rfl (Nat.le_of_ble_eq_true rfl) rfl ⟨rfl, rfl⟩ ?_
    refine go_iast (pc := 48) C dX11_goWrite_48 (fun h16 => ?_)
    refine go_sub (ls' := [(0, .ref v0), (1, .ref v1), (2, .int v2), (3, .int v3), (4, .int v4)]) [0, 1, 2, 3, 4] rfl ?_
    refine gX11_goWrite_J49 C O E h16 v0 v1 v2 v3 v4
  · refine go_sub (ls' := [(0, .ref v0), (1, .ref v1), (2, .int v2), (3, .int v3), (4, .int v4)]) [0, 1, 2, 3, 4] rfl ?_
    refine gX11_goWrite_J49 C O E h v0 v1 v2 v3 v4
set_option maxHeartbeats 4000000 in
theorem mX11_goWrite {h : AH} {a0 : Nat} {a1 : Nat} {a2 : Int32} {a3 : Int32} {a4 : Int32} {r : AH} (hr : fX11_goWrite h a0 a1 a2 a3 a4 = some r) : hasC h 11 a0 = true ∧ MC yX11_goWrite cX11_goWrite 8 none 209 0 0 [.ref a0, .ref a1, .int a2, .int a3, .int a4] h none r := by
  unfold fX11_goWrite at hr
  obtain ⟨hc, hr⟩ := if_some hr
  refine ⟨hc, mc_of (l0 := [(0, .ref a0), (1, .ref a1), (2, .int a2), (3, .int a3), (4, .int a4)]) rfl pn_X11 (Nat.le_of_ble_eq_true rfl) (fun Y X C E O hnm => go_run hr ?_)⟩
  have C : CT Y X RX11 cX11_goWrite 8 := C
  refine go_aload_n (pc := 0) C 1 dX11_goWrite_0 rfl ?_
  refine go_aload_n (pc := 1) C 1 dX11_goWrite_1 rfl ?_
  refine go_sipush (pc := 2) C dX11_goWrite_2 ks_312 ?_
  refine go_iload_n (pc := 5) C 2 dX11_goWrite_5 rfl ?_
  refine go_iadd (pc := 6) C dX11_goWrite_6 ?_
  refine go_iald (pc := 7) C dX11_goWrite_7 (fun x17 => ?_)
  refine go_iload_n (pc := 8) C 3 dX11_goWrite_8 rfl ?_
  refine go_bind (fun q18 hq18 => ?_)
  refine go_callS (rest := []) (st' := [.int (b2i q18)]) (c' := 0) (s' := 0) (pc := 9) C O miX11_92 w_1494 [.ref a1, .int x17, .int a3] rfl (mX11_holds hq18) dX11_goWrite_9 ⟨by decide, by decide, by decide, by decide⟩ rfl (Nat.le_of_ble_eq_true rfl) rfl ⟨rfl, rfl⟩ ?_
  refine go_ifZ_ne (pc := 12) C 21 dX11_goWrite_12 (by decide) (fun _ => ?_) (fun _ => ?_)
  · refine go_sub (ls' := [(0, .ref a0), (1, .ref a1), (2, .int a2), (3, .int a3), (4, .int a4)]) [0, 1, 2, 3, 4] rfl ?_
    refine gX11_goWrite_J21 C O E h a0 a1 a2 a3 a4
  · refine go_aload_n (pc := 15) C 1 dX11_goWrite_15 rfl ?_
    refine go_iload_n (pc := 16) C 2 dX11_goWrite_16 rfl ?_
    refine go_iload_n (pc := 17) C 3 dX11_goWrite_17 rfl ?_
    refine go_bind (fun q19 hq19 => ?_)
    refine go_callS (rest := []) (st' := []) (c' := 0) (s' := 0) (pc := 18) C O miX11_280 w_1620 [.ref a1, .int a2, .int a3] rfl (mX11_goFetch hq19) dX11_goWrite_18 ⟨by decide, by decide, by decide, by decide⟩ rfl (Nat.le_of_ble_eq_true rfl) rfl ⟨rfl, rfl⟩ ?_
    refine go_sub (ls' := [(0, .ref a0), (1, .ref a1), (2, .int a2), (3, .int a3), (4, .int a4)]) [0, 1, 2, 3, 4] rfl ?_
    refine gX11_goWrite_J21 C O E q19 a0 a1 a2 a3 a4
theorem dX11_writes_0 : decode cX11_writes 0 = .ok (.aload_n 0, 1) := by decide +kernel
theorem dX11_writes_1 : decode cX11_writes 1 = .ok (.iconst 0, 1) := by decide +kernel
theorem dX11_writes_2 : decode cX11_writes 2 = .ok (.putfield 77, 3) := by decide +kernel
theorem dX11_writes_5 : decode cX11_writes 5 = .ok (.aload_n 0, 1) := by decide +kernel
theorem dX11_writes_6 : decode cX11_writes 6 = .ok (.getfield 9, 3) := by decide +kernel
theorem dX11_writes_9 : decode cX11_writes 9 = .ok (.iload_n 1, 1) := by decide +kernel
theorem dX11_writes_10 : decode cX11_writes 10 = .ok (.invokestatic 106, 3) := by decide +kernel
theorem dX11_writes_13 : decode cX11_writes 13 = .ok (.ifCond .eq 20, 3) := by decide +kernel
theorem dX11_writes_16 : decode cX11_writes 16 = .ok (.iload_n 2, 1) := by decide +kernel
theorem dX11_writes_17 : decode cX11_writes 17 = .ok (.invokestatic 249, 3) := by decide +kernel
theorem dX11_writes_20 : decode cX11_writes 20 = .ok (.ifCond .eq 13, 3) := by decide +kernel
theorem dX11_writes_23 : decode cX11_writes 23 = .ok (.iload_n 3, 1) := by decide +kernel
theorem dX11_writes_24 : decode cX11_writes 24 = .ok (.iconst 0, 1) := by decide +kernel
theorem dX11_writes_25 : decode cX11_writes 25 = .ok (.bipush 99, 2) := by decide +kernel
theorem dX11_writes_27 : decode cX11_writes 27 = .ok (.invokestatic 84, 3) := by decide +kernel
theorem dX11_writes_30 : decode cX11_writes 30 = .ok (.ifCond .ne 5, 3) := by decide +kernel
theorem dX11_writes_33 : decode cX11_writes 33 = .ok (.iconst (-1), 1) := by decide +kernel
theorem dX11_writes_34 : decode cX11_writes 34 = .ok (.ireturn, 1) := by decide +kernel
theorem dX11_writes_35 : decode cX11_writes 35 = .ok (.aload_n 0, 1) := by decide +kernel
theorem dX11_writes_36 : decode cX11_writes 36 = .ok (.getfield 9, 3) := by decide +kernel
theorem dX11_writes_39 : decode cX11_writes 39 = .ok (.iload_n 1, 1) := by decide +kernel
theorem dX11_writes_40 : decode cX11_writes 40 = .ok (.iload_n 2, 1) := by decide +kernel
theorem dX11_writes_41 : decode cX11_writes 41 = .ok (.invokestatic 293, 3) := by decide +kernel
theorem dX11_writes_44 : decode cX11_writes 44 = .ok (.istore 4, 2) := by decide +kernel
theorem dX11_writes_46 : decode cX11_writes 46 = .ok (.iload 4, 2) := by decide +kernel
theorem dX11_writes_48 : decode cX11_writes 48 = .ok (.bipush (-3), 2) := by decide +kernel
theorem dX11_writes_50 : decode cX11_writes 50 = .ok (.if_icmp .ne 20, 3) := by decide +kernel
theorem dX11_writes_53 : decode cX11_writes 53 = .ok (.aload_n 0, 1) := by decide +kernel
theorem dX11_writes_54 : decode cX11_writes 54 = .ok (.aload_n 0, 1) := by decide +kernel
theorem dX11_writes_55 : decode cX11_writes 55 = .ok (.getfield 9, 3) := by decide +kernel
theorem dX11_writes_58 : decode cX11_writes 58 = .ok (.invokevirtual 184, 3) := by decide +kernel
theorem dX11_writes_61 : decode cX11_writes 61 = .ok (.aload_n 0, 1) := by decide +kernel
theorem dX11_writes_62 : decode cX11_writes 62 = .ok (.getfield 9, 3) := by decide +kernel
theorem dX11_writes_65 : decode cX11_writes 65 = .ok (.iload_n 1, 1) := by decide +kernel
theorem dX11_writes_66 : decode cX11_writes 66 = .ok (.iload_n 2, 1) := by decide +kernel
theorem dX11_writes_67 : decode cX11_writes 67 = .ok (.invokestatic 277, 3) := by decide +kernel
theorem dX11_writes_70 : decode cX11_writes 70 = .ok (.iload 4, 2) := by decide +kernel
theorem dX11_writes_72 : decode cX11_writes 72 = .ok (.ifCond .ge 6, 3) := by decide +kernel
theorem dX11_writes_75 : decode cX11_writes 75 = .ok (.iload 4, 2) := by decide +kernel
theorem dX11_writes_77 : decode cX11_writes 77 = .ok (.ireturn, 1) := by decide +kernel
theorem dX11_writes_78 : decode cX11_writes 78 = .ok (.aload_n 0, 1) := by decide +kernel
theorem dX11_writes_79 : decode cX11_writes 79 = .ok (.aload_n 0, 1) := by decide +kernel
theorem dX11_writes_80 : decode cX11_writes 80 = .ok (.getfield 9, 3) := by decide +kernel
theorem dX11_writes_83 : decode cX11_writes 83 = .ok (.invokevirtual 184, 3) := by decide +kernel
theorem dX11_writes_86 : decode cX11_writes 86 = .ok (.aload_n 0, 1) := by decide +kernel
theorem dX11_writes_87 : decode cX11_writes 87 = .ok (.aload_n 0, 1) := by decide +kernel
theorem dX11_writes_88 : decode cX11_writes 88 = .ok (.getfield 9, 3) := by decide +kernel
theorem dX11_writes_91 : decode cX11_writes 91 = .ok (.iload_n 1, 1) := by decide +kernel
theorem dX11_writes_92 : decode cX11_writes 92 = .ok (.iload_n 2, 1) := by decide +kernel
theorem dX11_writes_93 : decode cX11_writes 93 = .ok (.iload_n 3, 1) := by decide +kernel
theorem dX11_writes_94 : decode cX11_writes 94 = .ok (.invokevirtual 296, 3) := by decide +kernel
theorem dX11_writes_97 : decode cX11_writes 97 = .ok (.aload_n 0, 1) := by decide +kernel
theorem dX11_writes_98 : decode cX11_writes 98 = .ok (.iconst 0, 1) := by decide +kernel
theorem dX11_writes_99 : decode cX11_writes 99 = .ok (.putfield 81, 3) := by decide +kernel
theorem dX11_writes_102 : decode cX11_writes 102 = .ok (.aload_n 0, 1) := by decide +kernel
theorem dX11_writes_103 : decode cX11_writes 103 = .ok (.aload_n 0, 1) := by decide +kernel
theorem dX11_writes_104 : decode cX11_writes 104 = .ok (.getfield 9, 3) := by decide +kernel
theorem dX11_writes_107 : decode cX11_writes 107 = .ok (.invokestatic 181, 3) := by decide +kernel
theorem dX11_writes_110 : decode cX11_writes 110 = .ok (.i2l, 1) := by decide +kernel
theorem dX11_writes_111 : decode cX11_writes 111 = .ok (.invokevirtual 283, 3) := by decide +kernel
theorem dX11_writes_114 : decode cX11_writes 114 = .ok (.aload_n 0, 1) := by decide +kernel
theorem dX11_writes_115 : decode cX11_writes 115 = .ok (.aload_n 0, 1) := by decide +kernel
theorem dX11_writes_116 : decode cX11_writes 116 = .ok (.getfield 9, 3) := by decide +kernel
theorem dX11_writes_119 : decode cX11_writes 119 = .ok (.invokestatic 224, 3) := by decide +kernel
theorem dX11_writes_122 : decode cX11_writes 122 = .ok (.invokestatic 100, 3) := by decide +kernel
theorem dX11_writes_125 : decode cX11_writes 125 = .ok (.i2l, 1) := by decide +kernel
theorem dX11_writes_126 : decode cX11_writes 126 = .ok (.invokevirtual 283, 3) := by decide +kernel
theorem dX11_writes_129 : decode cX11_writes 129 = .ok (.aload_n 0, 1) := by decide +kernel
theorem dX11_writes_130 : decode cX11_writes 130 = .ok (.getfield 9, 3) := by decide +kernel
theorem dX11_writes_133 : decode cX11_writes 133 = .ok (.iload_n 1, 1) := by decide +kernel
theorem dX11_writes_134 : decode cX11_writes 134 = .ok (.invokestatic 116, 3) := by decide +kernel
theorem dX11_writes_137 : decode cX11_writes 137 = .ok (.ireturn, 1) := by decide +kernel
def fX11_writes_J70 (h : AH) (v0 : Nat) (v1 : Int32) (v2 : Int32) (v3 : Int32) (v4 : Int32) : Option (Int32 × AH) :=
    if 0 ≤ v4 then (
      (gR h 11 v0 0).bind fun x1 =>
      (fX11_remember h v0 x1).bind fun q2 =>
      (gR q2 11 v0 0).bind fun x3 =>
      (fX11_goWrite q2 v0 x3 v1 v2 v3).bind fun q4 =>
      (pF q4 11 v0 4 (.int 0)).bind fun h5 =>
      (gR h5 11 v0 0).bind fun x6 =>
      (fX11_framesOf h5 x6).bind fun q7 =>
      (fX11_tell h5 v0 (Int32.toInt64 q7)).bind fun q8 =>
      (gR q8 11 v0 0).bind fun x9 =>
      (fX11_objectsOf q8 x9).bind fun q10 =>
      (fJ6_bitCount_0f7a4 q8 q10).bind fun q11 =>
      (fX11_tell q8 v0 (Int32.toInt64 q11)).bind fun q12 =>
      (gR q12 11 v0 0).bind fun x13 =>
      (fX11_lengthOf q12 x13 v1).bind fun q14 =>
      some ((q14, q12))
    ) else (
      some ((v4, h))
    )
def fX11_writes (h : AH) (a0 : Nat) (a1 : Int32) (a2 : Int32) (a3 : Int32) : Option (Int32 × AH) :=
  if hasC h 11 a0 = true then (
    (pF h 11 a0 5 (.int 0)).bind fun h15 =>
    (gR h15 11 a0 0).bind fun x16 =>
    (fX11_isSpace h15 x16 a1).bind fun q17 =>
    if q17 = true then (
      (fX11_isPage h15 a2).bind fun q18 =>
      if q18 = true then (
        (fX11_in h15 a3 0 99).bind fun q19 =>
        if q19 = true then (
          (gR h15 11 a0 0).bind fun x20 =>
          (fX11_refusesWrite h15 x20 a1 a2).bind fun q21 =>
          if q21 = ((-3)) then (
            (gR h15 11 a0 0).bind fun x22 =>
            (fX11_remember h15 a0 x22).bind fun q23 =>
            (gR q23 11 a0 0).bind fun x24 =>
            (fX11_goAwait q23 x24 a1 a2).bind fun q25 =>
            fX11_writes_J70 q25 a0 a1 a2 a3 q21
          ) else (
            fX11_writes_J70 h15 a0 a1 a2 a3 q21
          )
        ) else (
          some (((-1), h15))
        )
      ) else (
        some (((-1), h15))
      )
    ) else (
      some (((-1), h15))
    )
  ) else none
set_option maxHeartbeats 4000000 in
theorem gX11_writes_J70 {Y : YT} {X : XT} (C : CT Y X RX11 cX11_writes 5) (O : RO X 210 0 0) {r : Int32 × AH} (E : RX Y X (some .int) (some (.int r.1)) r.2 0 0) : ∀ (h : AH) (v0 : Nat) (v1 : Int32) (v2 : Int32) (v3 : Int32) (v4 : Int32), GO Y X 5 r h 0 0 70 [(0, .ref v0), (1, .int v1), (2, .int v2), (3, .int v3), (4, .int v4)] [] (fX11_writes_J70 h v0 v1 v2 v3 v4) := by
  intro h v0 v1 v2 v3 v4
  unfold fX11_writes_J70
  refine go_iload (pc := 70) C 4 dX11_writes_70 rfl ?_
  refine go_if_ge (pc := 72) C 78 dX11_writes_72 (by decide) (fun _ => ?_) (fun _ => ?_)
  · refine go_aload_n (pc := 78) C 0 dX11_writes_78 rfl ?_
    refine go_aload_n (pc := 79) C 0 dX11_writes_79 rfl ?_
    refine go_gR (pc := 80) C fdX11_9 dX11_writes_80 (fun x1 => ?_)
    refine go_bind (fun q2 hq2 => ?_)
    refine go_callV (rest := []) (st' := []) (c' := 0) (s' := 0) (pc := 83) C O miX11_184 mvX11_remember [.ref x1] rfl (mX11_remember hq2).1 (mX11_remember hq2).2 dX11_writes_83 ⟨by decide, by decide, by decide, by decide⟩ rfl (Nat.le_of_ble_eq_true rfl) rfl ⟨rfl, rfl⟩ ?_
    refine go_aload_n (pc := 86) C 0 dX11_writes_86 rfl ?_
    refine go_aload_n (pc := 87) C 0 dX11_writes_87 rfl ?_
    refine go_gR (pc := 88) C fdX11_9 dX11_writes_88 (fun x3 => ?_)
    refine go_iload_n (pc := 91) C 1 dX11_writes_91 rfl ?_
    refine go_iload_n (pc := 92) C 2 dX11_writes_92 rfl ?_
    refine go_iload_n (pc := 93) C 3 dX11_writes_93 rfl ?_
    refine go_bind (fun q4 hq4 => ?_)
    refine go_callV (rest := []) (st' := []) (c' := 0) (s' := 0) (pc := 94) C O miX11_296 mvX11_goWrite [.ref x3, .int v1, .int v2, .int v3] rfl (mX11_goWrite hq4).1 (mX11_goWrite hq4).2 dX11_writes_94 ⟨by decide, by decide, by decide, by decide⟩ rfl (Nat.le_of_ble_eq_true rfl) rfl ⟨rfl, rfl⟩ ?_
    refine go_aload_n (pc := 97) C 0 dX11_writes_97 rfl ?_
    refine go_iconst (pc := 98) C dX11_writes_98 ki_0 ?_
    refine go_pI (pc := 99) C fpX11_81 dX11_writes_99 (fun h5 => ?_)
    refine go_aload_n (pc := 102) C 0 dX11_writes_102 rfl ?_
    refine go_aload_n (pc := 103) C 0 dX11_writes_103 rfl ?_
    refine go_gR (pc := 104) C fdX11_9 dX11_writes_104 (fun x6 => ?_)
    refine go_bind (fun q7 hq7 => ?_)
    refine go_callS (rest := [.ref v0]) (st' := [.int q7, .ref v0]) (c' := 0) (s' := 0) (pc := 107) C O miX11_181 w_1488 [.ref x6] rfl (mX11_framesOf hq7) dX11_writes_107 ⟨by decide, by decide, by decide, by decide⟩ rfl (Nat.le_of_ble_eq_true rfl) rfl ⟨rfl, rfl⟩ ?_
    refine go_i2l (pc := 110) C dX11_writes_110 ?_
    refine go_bind (fun q8 hq8 => ?_)
    refine go_callV (rest := []) (st' := []) (c' := 0) (s' := 0) (pc := 111) C O miX11_283 mvX11_tell [.long (Int32.toInt64 q7)] rfl (mX11_tell hq8).1 (mX11_tell hq8).2 dX11_writes_111 ⟨by decide, by decide, by decide, by decide⟩ rfl (Nat.le_of_ble_eq_true rfl) rfl ⟨rfl, rfl⟩ ?_
    refine go_aload_n (pc := 114) C 0 dX11_writes_114 rfl ?_
    refine go_aload_n (pc := 115) C 0 dX11_writes_115 rfl ?_
    refine go_gR (pc := 116) C fdX11_9 dX11_writes_116 (fun x9 => ?_)
    refine go_bind (fun q10 hq10 => ?_)
    refine go_callS (rest := [.ref v0]) (st' := [.int q10, .ref v0]) (c' := 0) (s' := 0) (pc := 119) C O miX11_224 w_1562 [.ref x9] rfl (mX11_objectsOf hq10) dX11_writes_119 ⟨by decide, by decide, by decide, by decide⟩ rfl (Nat.le_of_ble_eq_true rfl) rfl ⟨rfl, rfl⟩ ?_
    refine go_bind (fun q11 hq11 => ?_)
    refine go_callS (rest := [.ref v0]) (st' := [.int q11, .ref v0]) (c' := 0) (s' := 0) (pc := 122) C O miX11_100 w_397 [.int q10] rfl (mJ6_bitCount_0f7a4 hq11) dX11_writes_122 ⟨by decide, by decide, by decide, by decide⟩ rfl (Nat.le_of_ble_eq_true rfl) rfl ⟨rfl, rfl⟩ ?_
    refine go_i2l (pc := 125) C dX11_writes_125 ?_
    refine go_bind (fun q12 hq12 => ?_)
    refine go_callV (rest := []) (st' := []) (c' := 0) (s' := 0) (pc := 126) C O miX11_283 mvX11_tell [.long (Int32.toInt64 q11)] rfl (mX11_tell hq12).1 (mX11_tell hq12).2 dX11_writes_126 ⟨by decide, by decide, by decide, by decide⟩ rfl (Nat.le_of_ble_eq_true rfl) rfl ⟨rfl, rfl⟩ ?_
    refine go_aload_n (pc := 129) C 0 dX11_writes_129 rfl ?_
    refine go_gR (pc := 130) C fdX11_9 dX11_writes_130 (fun x13 => ?_)
    refine go_iload_n (pc := 133) C 1 dX11_writes_133 rfl ?_
    refine go_bind (fun q14 hq14 => ?_)
    refine go_callS (rest := []) (st' := [.int q14]) (c' := 0) (s' := 0) (pc := 134) C O miX11_116 w_1555 [.ref x13, .int v1] rfl (mX11_lengthOf hq14) dX11_writes_134 ⟨by decide, by decide, by decide, by decide⟩ rfl (Nat.le_of_ble_eq_true rfl) rfl ⟨rfl, rfl⟩ ?_
    exact go_iret (w := wIh) (pc := 137) C E ((q14, q12)) q14 dX11_writes_137 rfl
  · refine go_iload (pc := 75) C 4 dX11_writes_75 rfl ?_
    exact go_iret (w := wIh) (pc := 77) C E ((v4, h)) v4 dX11_writes_77 rfl
set_option maxHeartbeats 4000000 in
theorem mX11_writes {h : AH} {a0 : Nat} {a1 : Int32} {a2 : Int32} {a3 : Int32} {r : Int32 × AH} (hr : fX11_writes h a0 a1 a2 a3 = some r) : hasC h 11 a0 = true ∧ MC yX11_writes cX11_writes 5 (some .int) 210 0 0 [.ref a0, .int a1, .int a2, .int a3] h (some (.int r.1)) r.2 := by
  unfold fX11_writes at hr
  obtain ⟨hc, hr⟩ := if_some hr
  refine ⟨hc, mc_of (l0 := [(0, .ref a0), (1, .int a1), (2, .int a2), (3, .int a3)]) rfl pn_X11 (Nat.le_of_ble_eq_true rfl) (fun Y X C E O hnm => go_run hr ?_)⟩
  have C : CT Y X RX11 cX11_writes 5 := C
  refine go_aload_n (pc := 0) C 0 dX11_writes_0 rfl ?_
  refine go_iconst (pc := 1) C dX11_writes_1 ki_0 ?_
  refine go_pI (pc := 2) C fpX11_77 dX11_writes_2 (fun h15 => ?_)
  refine go_aload_n (pc := 5) C 0 dX11_writes_5 rfl ?_
  refine go_gR (pc := 6) C fdX11_9 dX11_writes_6 (fun x16 => ?_)
  refine go_iload_n (pc := 9) C 1 dX11_writes_9 rfl ?_
  refine go_bind (fun q17 hq17 => ?_)
  refine go_callS (rest := []) (st' := [.int (b2i q17)]) (c' := 0) (s' := 0) (pc := 10) C O miX11_106 w_1479 [.ref x16, .int a1] rfl (mX11_isSpace hq17) dX11_writes_10 ⟨by decide, by decide, by decide, by decide⟩ rfl (Nat.le_of_ble_eq_true rfl) rfl ⟨rfl, rfl⟩ ?_
  refine go_ifZ_eq (pc := 13) C 33 dX11_writes_13 (by decide) (fun _ => ?_) (fun _ => ?_)
  · refine go_iload_n (pc := 16) C 2 dX11_writes_16 rfl ?_
    refine go_bind (fun q18 hq18 => ?_)
    refine go_callS (rest := []) (st' := [.int (b2i q18)]) (c' := 0) (s' := 0) (pc := 17) C O miX11_249 w_1585 [.int a2] rfl (mX11_isPage hq18) dX11_writes_17 ⟨by decide, by decide, by decide, by decide⟩ rfl (Nat.le_of_ble_eq_true rfl) rfl ⟨rfl, rfl⟩ ?_
    refine go_ifZ_eq (pc := 20) C 33 dX11_writes_20 (by decide) (fun _ => ?_) (fun _ => ?_)
    · refine go_iload_n (pc := 23) C 3 dX11_writes_23 rfl ?_
      refine go_iconst (pc := 24) C dX11_writes_24 ki_0 ?_
      refine go_bipush (pc := 25) C dX11_writes_25 kb_99 ?_
      refine go_bind (fun q19 hq19 => ?_)
      refine go_callS (rest := []) (st' := [.int (b2i q19)]) (c' := 0) (s' := 0) (pc := 27) C O miX11_84 w_1437 [.int a3, .int 0, .int 99] rfl (mX11_in hq19) dX11_writes_27 ⟨by decide, by decide, by decide, by decide⟩ rfl (Nat.le_of_ble_eq_true rfl) rfl ⟨rfl, rfl⟩ ?_
      refine go_ifZ_ne (pc := 30) C 35 dX11_writes_30 (by decide) (fun _ => ?_) (fun _ => ?_)
      · refine go_aload_n (pc := 35) C 0 dX11_writes_35 rfl ?_
        refine go_gR (pc := 36) C fdX11_9 dX11_writes_36 (fun x20 => ?_)
        refine go_iload_n (pc := 39) C 1 dX11_writes_39 rfl ?_
        refine go_iload_n (pc := 40) C 2 dX11_writes_40 rfl ?_
        refine go_bind (fun q21 hq21 => ?_)
        refine go_callS (rest := []) (st' := [.int q21]) (c' := 0) (s' := 0) (pc := 41) C O miX11_293 w_1631 [.ref x20, .int a1, .int a2] rfl (mX11_refusesWrite hq21) dX11_writes_41 ⟨by decide, by decide, by decide, by decide⟩ rfl (Nat.le_of_ble_eq_true rfl) rfl ⟨rfl, rfl⟩ ?_
        refine go_istore (ls' := [(4, .int q21), (0, .ref a0), (1, .int a1), (2, .int a2), (3, .int a3)]) (pc := 44) C dX11_writes_44 (by decide) rfl ?_
        refine go_iload (pc := 46) C 0 dX11_writes_46 rfl ?_
        refine go_bipush (pc := 48) C dX11_writes_48 kb_m3 ?_
        refine go_icmp_ne (pc := 50) C 70 dX11_writes_50 (by decide) (fun _ => ?_) (fun _ => ?_)
        · refine go_aload_n (pc := 53) C 1 dX11_writes_53 rfl ?_
          refine go_aload_n (pc := 54) C 1 dX11_writes_54 rfl ?_
          refine go_gR (pc := 55) C fdX11_9 dX11_writes_55 (fun x22 => ?_)
          refine go_bind (fun q23 hq23 => ?_)
          refine go_callV (rest := []) (st' := []) (c' := 0) (s' := 0) (pc := 58) C O miX11_184 mvX11_remember [.ref x22] rfl (mX11_remember hq23).1 (mX11_remember hq23).2 dX11_writes_58 ⟨by decide, by decide, by decide, by decide⟩ rfl (Nat.le_of_ble_eq_true rfl) rfl ⟨rfl, rfl⟩ ?_
          refine go_aload_n (pc := 61) C 1 dX11_writes_61 rfl ?_
          refine go_gR (pc := 62) C fdX11_9 dX11_writes_62 (fun x24 => ?_)
          refine go_iload_n (pc := 65) C 2 dX11_writes_65 rfl ?_
          refine go_iload_n (pc := 66) C 3 dX11_writes_66 rfl ?_
          refine go_bind (fun q25 hq25 => ?_)
          refine go_callS (rest := []) (st' := []) (c' := 0) (s' := 0) (pc := 67) C O miX11_277 w_1614 [.ref x24, .int a1, .int a2] rfl (mX11_goAwait hq25) dX11_writes_67 ⟨by decide, by decide, by decide, by decide⟩ rfl (Nat.le_of_ble_eq_true rfl) rfl ⟨rfl, rfl⟩ ?_
          refine go_sub (ls' := [(0, .ref a0), (1, .int a1), (2, .int a2), (3, .int a3), (4, .int q21)]) [1, 2, 3, 4, 0] rfl ?_
          refine gX11_writes_J70 C O E q25 a0 a1 a2 a3 q21
        · refine go_sub (ls' := [(0, .ref a0), (1, .int a1), (2, .int a2), (3, .int a3), (4, .int q21)]) [1, 2, 3, 4, 0] rfl ?_
          refine gX11_writes_J70 C O E h15 a0 a1 a2 a3 q21
      · refine go_iconst (pc := 33) C dX11_writes_33 ki_m1 ?_
        exact go_iret (w := wIh) (pc := 34) C E (((-1), h15)) ((-1)) dX11_writes_34 rfl
    · refine go_iconst (pc := 33) C dX11_writes_33 ki_m1 ?_
      exact go_iret (w := wIh) (pc := 34) C E (((-1), h15)) ((-1)) dX11_writes_34 rfl
  · refine go_iconst (pc := 33) C dX11_writes_33 ki_m1 ?_
    exact go_iret (w := wIh) (pc := 34) C E (((-1), h15)) ((-1)) dX11_writes_34 rfl
theorem dX11_refusesFork_0 : decode cX11_refusesFork 0 = .ok (.aload_n 0, 1) := by decide +kernel
theorem dX11_refusesFork_1 : decode cX11_refusesFork 1 = .ok (.iload_n 1, 1) := by decide +kernel
theorem dX11_refusesFork_2 : decode cX11_refusesFork 2 = .ok (.invokestatic 106, 3) := by decide +kernel
theorem dX11_refusesFork_5 : decode cX11_refusesFork 5 = .ok (.ifCond .ne 5, 3) := by decide +kernel
theorem dX11_refusesFork_8 : decode cX11_refusesFork 8 = .ok (.iconst (-1), 1) := by decide +kernel
theorem dX11_refusesFork_9 : decode cX11_refusesFork 9 = .ok (.ireturn, 1) := by decide +kernel
theorem dX11_refusesFork_10 : decode cX11_refusesFork 10 = .ok (.aload_n 0, 1) := by decide +kernel
theorem dX11_refusesFork_11 : decode cX11_refusesFork 11 = .ok (.invokestatic 178, 3) := by decide +kernel
theorem dX11_refusesFork_14 : decode cX11_refusesFork 14 = .ok (.iconst (-1), 1) := by decide +kernel
theorem dX11_refusesFork_15 : decode cX11_refusesFork 15 = .ok (.if_icmp .ne 6, 3) := by decide +kernel
theorem dX11_refusesFork_18 : decode cX11_refusesFork 18 = .ok (.bipush (-2), 2) := by decide +kernel
theorem dX11_refusesFork_20 : decode cX11_refusesFork 20 = .ok (.ireturn, 1) := by decide +kernel
theorem dX11_refusesFork_21 : decode cX11_refusesFork 21 = .ok (.aload_n 0, 1) := by decide +kernel
theorem dX11_refusesFork_22 : decode cX11_refusesFork 22 = .ok (.sipush 216, 3) := by decide +kernel
theorem dX11_refusesFork_25 : decode cX11_refusesFork 25 = .ok (.aload_n 0, 1) := by decide +kernel
theorem dX11_refusesFork_26 : decode cX11_refusesFork 26 = .ok (.sipush 312, 3) := by decide +kernel
theorem dX11_refusesFork_29 : decode cX11_refusesFork 29 = .ok (.iload_n 1, 1) := by decide +kernel
theorem dX11_refusesFork_30 : decode cX11_refusesFork 30 = .ok (.iadd, 1) := by decide +kernel
theorem dX11_refusesFork_31 : decode cX11_refusesFork 31 = .ok (.iaload, 1) := by decide +kernel
theorem dX11_refusesFork_32 : decode cX11_refusesFork 32 = .ok (.iadd, 1) := by decide +kernel
theorem dX11_refusesFork_33 : decode cX11_refusesFork 33 = .ok (.iaload, 1) := by decide +kernel
theorem dX11_refusesFork_34 : decode cX11_refusesFork 34 = .ok (.ifCond .eq 16, 3) := by decide +kernel
theorem dX11_refusesFork_37 : decode cX11_refusesFork 37 = .ok (.aload_n 0, 1) := by decide +kernel
theorem dX11_refusesFork_38 : decode cX11_refusesFork 38 = .ok (.invokestatic 165, 3) := by decide +kernel
theorem dX11_refusesFork_41 : decode cX11_refusesFork 41 = .ok (.iconst (-1), 1) := by decide +kernel
theorem dX11_refusesFork_42 : decode cX11_refusesFork 42 = .ok (.if_icmp .ne 8, 3) := by decide +kernel
theorem dX11_refusesFork_45 : decode cX11_refusesFork 45 = .ok (.bipush (-6), 2) := by decide +kernel
theorem dX11_refusesFork_47 : decode cX11_refusesFork 47 = .ok (.goto 4, 3) := by decide +kernel
theorem dX11_refusesFork_50 : decode cX11_refusesFork 50 = .ok (.iconst 0, 1) := by decide +kernel
theorem dX11_refusesFork_51 : decode cX11_refusesFork 51 = .ok (.ireturn, 1) := by decide +kernel
def fX11_refusesFork (h : AH) (a0 : Nat) (a1 : Int32) : Option (Int32) :=
  (fX11_isSpace h a0 a1).bind fun q1 =>
  if q1 = true then (
    (fX11_freeSpace h a0).bind fun q2 =>
    if q2 = ((-1)) then (
      some ((-2))
    ) else (
      (aI h 0 a0 (312 + a1)).bind fun x3 =>
      (aI h 0 a0 (216 + x3)).bind fun x4 =>
      if x4 = 0 then (
        some 0
      ) else (
        (fX11_freeObject h a0).bind fun q5 =>
        if q5 = ((-1)) then (
          some ((-6))
        ) else (
          some 0
        )
      )
    )
  ) else (
    some ((-1))
  )
set_option maxHeartbeats 4000000 in
theorem mX11_refusesFork {h : AH} {a0 : Nat} {a1 : Int32} {r : Int32} (hr : fX11_refusesFork h a0 a1 = some r) : MC yX11_refusesFork cX11_refusesFork 2 (some .int) 4 0 0 [.ref a0, .int a1] h (some (.int r)) h := by
  unfold fX11_refusesFork at hr
  refine mc_of (l0 := [(0, .ref a0), (1, .int a1)]) rfl pn_X11 (Nat.le_of_ble_eq_true rfl) (fun Y X C E O hnm => go_run hr ?_)
  have C : CT Y X RX11 cX11_refusesFork 2 := C
  refine go_aload_n (pc := 0) C 0 dX11_refusesFork_0 rfl ?_
  refine go_iload_n (pc := 1) C 1 dX11_refusesFork_1 rfl ?_
  refine go_bind (fun q1 hq1 => ?_)
  refine go_callS (rest := []) (st' := [.int (b2i q1)]) (c' := 0) (s' := 0) (pc := 2) C O miX11_106 w_1479 [.ref a0, .int a1] rfl (mX11_isSpace hq1) dX11_refusesFork_2 ⟨by decide, by decide, by decide, by decide⟩ rfl (Nat.le_of_ble_eq_true rfl) rfl ⟨rfl, rfl⟩ ?_
  refine go_ifZ_ne (pc := 5) C 10 dX11_refusesFork_5 (by decide) (fun _ => ?_) (fun _ => ?_)
  · refine go_aload_n (pc := 10) C 0 dX11_refusesFork_10 rfl ?_
    refine go_bind (fun q2 hq2 => ?_)
    refine go_callS (rest := []) (st' := [.int q2]) (c' := 0) (s' := 0) (pc := 11) C O miX11_178 w_1476 [.ref a0] rfl (mX11_freeSpace hq2) dX11_refusesFork_11 ⟨by decide, by decide, by decide, by decide⟩ rfl (Nat.le_of_ble_eq_true rfl) rfl ⟨rfl, rfl⟩ ?_
    refine go_iconst (pc := 14) C dX11_refusesFork_14 ki_m1 ?_
    refine go_icmp_ne (pc := 15) C 21 dX11_refusesFork_15 (by decide) (fun _ => ?_) (fun _ => ?_)
    · refine go_bipush (pc := 18) C dX11_refusesFork_18 kb_m2 ?_
      exact go_iret (w := (wI h)) (pc := 20) C E ((-2)) ((-2)) dX11_refusesFork_20 rfl
    · refine go_aload_n (pc := 21) C 0 dX11_refusesFork_21 rfl ?_
      refine go_sipush (pc := 22) C dX11_refusesFork_22 ks_216 ?_
      refine go_aload_n (pc := 25) C 0 dX11_refusesFork_25 rfl ?_
      refine go_sipush (pc := 26) C dX11_refusesFork_26 ks_312 ?_
      refine go_iload_n (pc := 29) C 1 dX11_refusesFork_29 rfl ?_
      refine go_iadd (pc := 30) C dX11_refusesFork_30 ?_
      refine go_iald (pc := 31) C dX11_refusesFork_31 (fun x3 => ?_)
      refine go_iadd (pc := 32) C dX11_refusesFork_32 ?_
      refine go_iald (pc := 33) C dX11_refusesFork_33 (fun x4 => ?_)
      refine go_if_eq (pc := 34) C 50 dX11_refusesFork_34 (by decide) (fun _ => ?_) (fun _ => ?_)
      · refine go_iconst (pc := 50) C dX11_refusesFork_50 ki_0 ?_
        exact go_iret (w := (wI h)) (pc := 51) C E 0 0 dX11_refusesFork_51 rfl
      · refine go_aload_n (pc := 37) C 0 dX11_refusesFork_37 rfl ?_
        refine go_bind (fun q5 hq5 => ?_)
        refine go_callS (rest := []) (st' := [.int q5]) (c' := 0) (s' := 0) (pc := 38) C O miX11_165 w_1482 [.ref a0] rfl (mX11_freeObject hq5) dX11_refusesFork_38 ⟨by decide, by decide, by decide, by decide⟩ rfl (Nat.le_of_ble_eq_true rfl) rfl ⟨rfl, rfl⟩ ?_
        refine go_iconst (pc := 41) C dX11_refusesFork_41 ki_m1 ?_
        refine go_icmp_ne (pc := 42) C 50 dX11_refusesFork_42 (by decide) (fun _ => ?_) (fun _ => ?_)
        · refine go_bipush (pc := 45) C dX11_refusesFork_45 kb_m6 ?_
          refine go_goto (pc := 47) C 51 dX11_refusesFork_47 (by decide) ?_
          exact go_iret (w := (wI h)) (pc := 51) C E ((-6)) ((-6)) dX11_refusesFork_51 rfl
        · refine go_iconst (pc := 50) C dX11_refusesFork_50 ki_0 ?_
          exact go_iret (w := (wI h)) (pc := 51) C E 0 0 dX11_refusesFork_51 rfl
  · refine go_iconst (pc := 8) C dX11_refusesFork_8 ki_m1 ?_
    exact go_iret (w := (wI h)) (pc := 9) C E ((-1)) ((-1)) dX11_refusesFork_9 rfl
