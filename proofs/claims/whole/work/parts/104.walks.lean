/-! walks, by program: X10_object X10_page X10_sheetEntry X10_sheet X10_keepIfDone X10_reads X10_writes X10_forks X10_ends X10_arrives X10_tellTidying X10_tidies J0_coder_7d493 J0_length_8abf5 J0_isLatin1_aae02 J3_checkIndex_8e157 J0_checkIndex_df160 J1_charAt_3b067 J0_charAt_5068e X10_actDigits J0_isEmpty_aae02 X10_wrongDaySign X10_actAt X10_day X10_undo X10_chain X10_peeks X10_tellSet X10_holders X10_areTwo X10_shared X10_differ -/
theorem dX10_object_0 : decode cX10_object 0 = .ok (.aload_n 0, 1) := by decide +kernel
theorem dX10_object_1 : decode cX10_object 1 = .ok (.getfield 16, 3) := by decide +kernel
theorem dX10_object_4 : decode cX10_object 4 = .ok (.iload_n 1, 1) := by decide +kernel
theorem dX10_object_5 : decode cX10_object 5 = .ok (.invokevirtual 162, 3) := by decide +kernel
theorem dX10_object_8 : decode cX10_object 8 = .ok (.ifCond .ne 11, 3) := by decide +kernel
theorem dX10_object_19 : decode cX10_object 19 = .ok (.iload_n 2, 1) := by decide +kernel
theorem dX10_object_20 : decode cX10_object 20 = .ok (.tableswitch 107 0 6 #[44, 53, 62, 71, 80, 89, 98], 44) := by decide +kernel
theorem dX10_object_64 : decode cX10_object 64 = .ok (.aload_n 0, 1) := by decide +kernel
theorem dX10_object_65 : decode cX10_object 65 = .ok (.getfield 16, 3) := by decide +kernel
theorem dX10_object_68 : decode cX10_object 68 = .ok (.iload_n 1, 1) := by decide +kernel
theorem dX10_object_69 : decode cX10_object 69 = .ok (.invokevirtual 165, 3) := by decide +kernel
theorem dX10_object_72 : decode cX10_object 72 = .ok (.ireturn, 1) := by decide +kernel
theorem dX10_object_73 : decode cX10_object 73 = .ok (.aload_n 0, 1) := by decide +kernel
theorem dX10_object_74 : decode cX10_object 74 = .ok (.getfield 16, 3) := by decide +kernel
theorem dX10_object_77 : decode cX10_object 77 = .ok (.iload_n 1, 1) := by decide +kernel
theorem dX10_object_78 : decode cX10_object 78 = .ok (.invokevirtual 168, 3) := by decide +kernel
theorem dX10_object_81 : decode cX10_object 81 = .ok (.ireturn, 1) := by decide +kernel
theorem dX10_object_82 : decode cX10_object 82 = .ok (.aload_n 0, 1) := by decide +kernel
theorem dX10_object_83 : decode cX10_object 83 = .ok (.getfield 16, 3) := by decide +kernel
theorem dX10_object_86 : decode cX10_object 86 = .ok (.iload_n 1, 1) := by decide +kernel
theorem dX10_object_87 : decode cX10_object 87 = .ok (.invokevirtual 171, 3) := by decide +kernel
theorem dX10_object_90 : decode cX10_object 90 = .ok (.ireturn, 1) := by decide +kernel
theorem dX10_object_91 : decode cX10_object 91 = .ok (.aload_n 0, 1) := by decide +kernel
theorem dX10_object_92 : decode cX10_object 92 = .ok (.getfield 16, 3) := by decide +kernel
theorem dX10_object_95 : decode cX10_object 95 = .ok (.iload_n 1, 1) := by decide +kernel
theorem dX10_object_96 : decode cX10_object 96 = .ok (.invokevirtual 174, 3) := by decide +kernel
theorem dX10_object_99 : decode cX10_object 99 = .ok (.ireturn, 1) := by decide +kernel
theorem dX10_object_100 : decode cX10_object 100 = .ok (.aload_n 0, 1) := by decide +kernel
theorem dX10_object_101 : decode cX10_object 101 = .ok (.getfield 16, 3) := by decide +kernel
theorem dX10_object_104 : decode cX10_object 104 = .ok (.iload_n 1, 1) := by decide +kernel
theorem dX10_object_105 : decode cX10_object 105 = .ok (.invokevirtual 177, 3) := by decide +kernel
theorem dX10_object_108 : decode cX10_object 108 = .ok (.ireturn, 1) := by decide +kernel
theorem dX10_object_109 : decode cX10_object 109 = .ok (.aload_n 0, 1) := by decide +kernel
theorem dX10_object_110 : decode cX10_object 110 = .ok (.getfield 16, 3) := by decide +kernel
theorem dX10_object_113 : decode cX10_object 113 = .ok (.iload_n 1, 1) := by decide +kernel
theorem dX10_object_114 : decode cX10_object 114 = .ok (.invokevirtual 180, 3) := by decide +kernel
theorem dX10_object_117 : decode cX10_object 117 = .ok (.ireturn, 1) := by decide +kernel
theorem dX10_object_118 : decode cX10_object 118 = .ok (.aload_n 0, 1) := by decide +kernel
theorem dX10_object_119 : decode cX10_object 119 = .ok (.getfield 16, 3) := by decide +kernel
theorem dX10_object_122 : decode cX10_object 122 = .ok (.iload_n 1, 1) := by decide +kernel
theorem dX10_object_123 : decode cX10_object 123 = .ok (.invokevirtual 183, 3) := by decide +kernel
theorem dX10_object_126 : decode cX10_object 126 = .ok (.ireturn, 1) := by decide +kernel
def fX10_object (h : AH) (a0 : Nat) (a1 : Int32) (a2 : Int32) : Option (Int32 × AH) :=
  if hasC h 10 a0 = true then (
    (gR h 10 a0 2).bind fun x1 =>
    (fX9_hasObject h x1 a1).bind fun q2 =>
    if q2 = true then (
      if a2 = 0 then (
        (gR h 10 a0 2).bind fun x4 =>
        (fX9_heldOf h x4 a1).bind fun q5 =>
        some ((q5, h))
      ) else (
        if a2 = 1 then (
          (gR h 10 a0 2).bind fun x7 =>
          (fX9_shadowOf h x7 a1).bind fun q8 =>
          some ((q8, h))
        ) else (
          if a2 = 2 then (
            (gR h 10 a0 2).bind fun x10 =>
            (fX9_copyOf h x10 a1).bind fun q11 =>
            some ((q11, h))
          ) else (
            if a2 = 3 then (
              (gR h 10 a0 2).bind fun x13 =>
              (fX9_pagerOf h x13 a1).bind fun q14 =>
              some ((q14, h))
            ) else (
              if a2 = 4 then (
                (gR h 10 a0 2).bind fun x16 =>
                (fX9_digitOf h x16 a1).bind fun q17 =>
                some ((q17, h))
              ) else (
                if a2 = 5 then (
                  (gR h 10 a0 2).bind fun x19 =>
                  (fX9_holderTotal h x19 a1).bind fun q20 =>
                  some ((q20, h))
                ) else (
                  if a2 = 6 then (
                    (gR h 10 a0 2).bind fun x22 =>
                    (fX9_awaitedOf h x22 a1).bind fun q23 =>
                    some ((q23, h))
                  ) else (
                    none)))))))
    ) else (
      none
    )
  ) else none
set_option maxHeartbeats 4000000 in
theorem mX10_object {h : AH} {a0 : Nat} {a1 : Int32} {a2 : Int32} {r : Int32 × AH} (hr : fX10_object h a0 a1 a2 = some r) : hasC h 10 a0 = true ∧ MC yX10_object cX10_object 3 (some .int) 3 0 0 [.ref a0, .int a1, .int a2] h (some (.int r.1)) r.2 := by
  unfold fX10_object at hr
  obtain ⟨hc, hr⟩ := if_some hr
  refine ⟨hc, mc_of (l0 := [(0, .ref a0), (1, .int a1), (2, .int a2)]) rfl pn_X10 (Nat.le_of_ble_eq_true rfl) (fun Y X C E O hnm => go_run hr ?_)⟩
  have C : CT Y X RX10 cX10_object 3 := C
  refine go_aload_n (pc := 0) C 0 dX10_object_0 rfl ?_
  refine go_gR (pc := 1) C fdX10_16 dX10_object_1 (fun x1 => ?_)
  refine go_iload_n (pc := 4) C 1 dX10_object_4 rfl ?_
  refine go_bind (fun q2 hq2 => ?_)
  refine go_callV (rest := []) (st' := [.int (b2i q2)]) (c' := 0) (s' := 0) (pc := 5) C O miX10_162 mvX9_hasObject [.int a1] rfl (mX9_hasObject hq2).1 (mX9_hasObject hq2).2 dX10_object_5 ⟨by decide, by decide, by decide, by decide⟩ rfl (Nat.le_of_ble_eq_true rfl) rfl ⟨rfl, rfl⟩ ?_
  refine go_ifZ_ne (pc := 8) C 19 dX10_object_8 (by decide) (fun _ => ?_) (fun _ => ?_)
  · refine go_iload_n (pc := 19) C 2 dX10_object_19 rfl ?_
    refine go_ite (fun hc3 => ?_) (fun hc3 => ?_)
    · refine go_tsw (pc := 20) C 64 0 hc3 dX10_object_20 (by decide) (by decide) rfl (by decide) ?_
      refine go_aload_n (pc := 64) C 0 dX10_object_64 rfl ?_
      refine go_gR (pc := 65) C fdX10_16 dX10_object_65 (fun x4 => ?_)
      refine go_iload_n (pc := 68) C 1 dX10_object_68 rfl ?_
      refine go_bind (fun q5 hq5 => ?_)
      refine go_callV (rest := []) (st' := [.int q5]) (c' := 0) (s' := 0) (pc := 69) C O miX10_165 mvX9_heldOf [.int a1] rfl (mX9_heldOf hq5).1 (mX9_heldOf hq5).2 dX10_object_69 ⟨by decide, by decide, by decide, by decide⟩ rfl (Nat.le_of_ble_eq_true rfl) rfl ⟨rfl, rfl⟩ ?_
      exact go_iret (w := wIh) (pc := 72) C E ((q5, h)) q5 dX10_object_72 rfl
    · refine go_ite (fun hc6 => ?_) (fun hc6 => ?_)
      · refine go_tsw (pc := 20) C 73 1 hc6 dX10_object_20 (by decide) (by decide) rfl (by decide) ?_
        refine go_aload_n (pc := 73) C 0 dX10_object_73 rfl ?_
        refine go_gR (pc := 74) C fdX10_16 dX10_object_74 (fun x7 => ?_)
        refine go_iload_n (pc := 77) C 1 dX10_object_77 rfl ?_
        refine go_bind (fun q8 hq8 => ?_)
        refine go_callV (rest := []) (st' := [.int q8]) (c' := 0) (s' := 0) (pc := 78) C O miX10_168 mvX9_shadowOf [.int a1] rfl (mX9_shadowOf hq8).1 (mX9_shadowOf hq8).2 dX10_object_78 ⟨by decide, by decide, by decide, by decide⟩ rfl (Nat.le_of_ble_eq_true rfl) rfl ⟨rfl, rfl⟩ ?_
        exact go_iret (w := wIh) (pc := 81) C E ((q8, h)) q8 dX10_object_81 rfl
      · refine go_ite (fun hc9 => ?_) (fun hc9 => ?_)
        · refine go_tsw (pc := 20) C 82 2 hc9 dX10_object_20 (by decide) (by decide) rfl (by decide) ?_
          refine go_aload_n (pc := 82) C 0 dX10_object_82 rfl ?_
          refine go_gR (pc := 83) C fdX10_16 dX10_object_83 (fun x10 => ?_)
          refine go_iload_n (pc := 86) C 1 dX10_object_86 rfl ?_
          refine go_bind (fun q11 hq11 => ?_)
          refine go_callV (rest := []) (st' := [.int q11]) (c' := 0) (s' := 0) (pc := 87) C O miX10_171 mvX9_copyOf [.int a1] rfl (mX9_copyOf hq11).1 (mX9_copyOf hq11).2 dX10_object_87 ⟨by decide, by decide, by decide, by decide⟩ rfl (Nat.le_of_ble_eq_true rfl) rfl ⟨rfl, rfl⟩ ?_
          exact go_iret (w := wIh) (pc := 90) C E ((q11, h)) q11 dX10_object_90 rfl
        · refine go_ite (fun hc12 => ?_) (fun hc12 => ?_)
          · refine go_tsw (pc := 20) C 91 3 hc12 dX10_object_20 (by decide) (by decide) rfl (by decide) ?_
            refine go_aload_n (pc := 91) C 0 dX10_object_91 rfl ?_
            refine go_gR (pc := 92) C fdX10_16 dX10_object_92 (fun x13 => ?_)
            refine go_iload_n (pc := 95) C 1 dX10_object_95 rfl ?_
            refine go_bind (fun q14 hq14 => ?_)
            refine go_callV (rest := []) (st' := [.int q14]) (c' := 0) (s' := 0) (pc := 96) C O miX10_174 mvX9_pagerOf [.int a1] rfl (mX9_pagerOf hq14).1 (mX9_pagerOf hq14).2 dX10_object_96 ⟨by decide, by decide, by decide, by decide⟩ rfl (Nat.le_of_ble_eq_true rfl) rfl ⟨rfl, rfl⟩ ?_
            exact go_iret (w := wIh) (pc := 99) C E ((q14, h)) q14 dX10_object_99 rfl
          · refine go_ite (fun hc15 => ?_) (fun hc15 => ?_)
            · refine go_tsw (pc := 20) C 100 4 hc15 dX10_object_20 (by decide) (by decide) rfl (by decide) ?_
              refine go_aload_n (pc := 100) C 0 dX10_object_100 rfl ?_
              refine go_gR (pc := 101) C fdX10_16 dX10_object_101 (fun x16 => ?_)
              refine go_iload_n (pc := 104) C 1 dX10_object_104 rfl ?_
              refine go_bind (fun q17 hq17 => ?_)
              refine go_callV (rest := []) (st' := [.int q17]) (c' := 0) (s' := 0) (pc := 105) C O miX10_177 mvX9_digitOf [.int a1] rfl (mX9_digitOf hq17).1 (mX9_digitOf hq17).2 dX10_object_105 ⟨by decide, by decide, by decide, by decide⟩ rfl (Nat.le_of_ble_eq_true rfl) rfl ⟨rfl, rfl⟩ ?_
              exact go_iret (w := wIh) (pc := 108) C E ((q17, h)) q17 dX10_object_108 rfl
            · refine go_ite (fun hc18 => ?_) (fun hc18 => ?_)
              · refine go_tsw (pc := 20) C 109 5 hc18 dX10_object_20 (by decide) (by decide) rfl (by decide) ?_
                refine go_aload_n (pc := 109) C 0 dX10_object_109 rfl ?_
                refine go_gR (pc := 110) C fdX10_16 dX10_object_110 (fun x19 => ?_)
                refine go_iload_n (pc := 113) C 1 dX10_object_113 rfl ?_
                refine go_bind (fun q20 hq20 => ?_)
                refine go_callV (rest := []) (st' := [.int q20]) (c' := 0) (s' := 0) (pc := 114) C O miX10_180 mvX9_holderTotal [.int a1] rfl (mX9_holderTotal hq20).1 (mX9_holderTotal hq20).2 dX10_object_114 ⟨by decide, by decide, by decide, by decide⟩ rfl (Nat.le_of_ble_eq_true rfl) rfl ⟨rfl, rfl⟩ ?_
                exact go_iret (w := wIh) (pc := 117) C E ((q20, h)) q20 dX10_object_117 rfl
              · refine go_ite (fun hc21 => ?_) (fun hc21 => ?_)
                · refine go_tsw (pc := 20) C 118 6 hc21 dX10_object_20 (by decide) (by decide) rfl (by decide) ?_
                  refine go_aload_n (pc := 118) C 0 dX10_object_118 rfl ?_
                  refine go_gR (pc := 119) C fdX10_16 dX10_object_119 (fun x22 => ?_)
                  refine go_iload_n (pc := 122) C 1 dX10_object_122 rfl ?_
                  refine go_bind (fun q23 hq23 => ?_)
                  refine go_callV (rest := []) (st' := [.int q23]) (c' := 0) (s' := 0) (pc := 123) C O miX10_183 mvX9_awaitedOf [.int a1] rfl (mX9_awaitedOf hq23).1 (mX9_awaitedOf hq23).2 dX10_object_123 ⟨by decide, by decide, by decide, by decide⟩ rfl (Nat.le_of_ble_eq_true rfl) rfl ⟨rfl, rfl⟩ ?_
                  exact go_iret (w := wIh) (pc := 126) C E ((q23, h)) q23 dX10_object_126 rfl
                · refine go_tsw_else (pc := 20) C 127 [0, 1, 2, 3, 4, 5, 6] dX10_object_20 (fun v hv => by simp only [List.mem_cons, List.not_mem_nil, or_false] at hv; rcases hv with rfl | rfl | rfl | rfl | rfl | rfl | rfl <;> first | exact i32_ne hc3 (by decide) | exact i32_ne hc6 (by decide) | exact i32_ne hc9 (by decide) | exact i32_ne hc12 (by decide) | exact i32_ne hc15 (by decide) | exact i32_ne hc18 (by decide) | exact i32_ne hc21 (by decide)) (by decide) (by decide) (by decide) ?_
                  exact go_none _ _ _
  · exact go_none _ _ _
theorem dX10_page_0 : decode cX10_page 0 = .ok (.aload_n 0, 1) := by decide +kernel
theorem dX10_page_1 : decode cX10_page 1 = .ok (.getfield 16, 3) := by decide +kernel
theorem dX10_page_4 : decode cX10_page 4 = .ok (.iload_n 1, 1) := by decide +kernel
theorem dX10_page_5 : decode cX10_page 5 = .ok (.iload_n 2, 1) := by decide +kernel
theorem dX10_page_6 : decode cX10_page 6 = .ok (.invokevirtual 186, 3) := by decide +kernel
theorem dX10_page_9 : decode cX10_page 9 = .ok (.ifCond .ne 11, 3) := by decide +kernel
theorem dX10_page_20 : decode cX10_page 20 = .ok (.aload_n 0, 1) := by decide +kernel
theorem dX10_page_21 : decode cX10_page 21 = .ok (.getfield 16, 3) := by decide +kernel
theorem dX10_page_24 : decode cX10_page 24 = .ok (.iload_n 1, 1) := by decide +kernel
theorem dX10_page_25 : decode cX10_page 25 = .ok (.iload_n 2, 1) := by decide +kernel
theorem dX10_page_26 : decode cX10_page 26 = .ok (.invokevirtual 190, 3) := by decide +kernel
theorem dX10_page_29 : decode cX10_page 29 = .ok (.ireturn, 1) := by decide +kernel
def fX10_page (h : AH) (a0 : Nat) (a1 : Int32) (a2 : Int32) : Option (Int32 × AH) :=
  if hasC h 10 a0 = true then (
    (gR h 10 a0 2).bind fun x1 =>
    (fX9_holds h x1 a1 a2).bind fun q2 =>
    if q2 = true then (
      (gR h 10 a0 2).bind fun x3 =>
      (fX9_valueOf h x3 a1 a2).bind fun q4 =>
      some ((q4, h))
    ) else (
      none
    )
  ) else none
set_option maxHeartbeats 4000000 in
theorem mX10_page {h : AH} {a0 : Nat} {a1 : Int32} {a2 : Int32} {r : Int32 × AH} (hr : fX10_page h a0 a1 a2 = some r) : hasC h 10 a0 = true ∧ MC yX10_page cX10_page 3 (some .int) 4 0 0 [.ref a0, .int a1, .int a2] h (some (.int r.1)) r.2 := by
  unfold fX10_page at hr
  obtain ⟨hc, hr⟩ := if_some hr
  refine ⟨hc, mc_of (l0 := [(0, .ref a0), (1, .int a1), (2, .int a2)]) rfl pn_X10 (Nat.le_of_ble_eq_true rfl) (fun Y X C E O hnm => go_run hr ?_)⟩
  have C : CT Y X RX10 cX10_page 3 := C
  refine go_aload_n (pc := 0) C 0 dX10_page_0 rfl ?_
  refine go_gR (pc := 1) C fdX10_16 dX10_page_1 (fun x1 => ?_)
  refine go_iload_n (pc := 4) C 1 dX10_page_4 rfl ?_
  refine go_iload_n (pc := 5) C 2 dX10_page_5 rfl ?_
  refine go_bind (fun q2 hq2 => ?_)
  refine go_callV (rest := []) (st' := [.int (b2i q2)]) (c' := 0) (s' := 0) (pc := 6) C O miX10_186 mvX9_holds [.int a1, .int a2] rfl (mX9_holds hq2).1 (mX9_holds hq2).2 dX10_page_6 ⟨by decide, by decide, by decide, by decide⟩ rfl (Nat.le_of_ble_eq_true rfl) rfl ⟨rfl, rfl⟩ ?_
  refine go_ifZ_ne (pc := 9) C 20 dX10_page_9 (by decide) (fun _ => ?_) (fun _ => ?_)
  · refine go_aload_n (pc := 20) C 0 dX10_page_20 rfl ?_
    refine go_gR (pc := 21) C fdX10_16 dX10_page_21 (fun x3 => ?_)
    refine go_iload_n (pc := 24) C 1 dX10_page_24 rfl ?_
    refine go_iload_n (pc := 25) C 2 dX10_page_25 rfl ?_
    refine go_bind (fun q4 hq4 => ?_)
    refine go_callV (rest := []) (st' := [.int q4]) (c' := 0) (s' := 0) (pc := 26) C O miX10_190 mvX9_valueOf [.int a1, .int a2] rfl (mX9_valueOf hq4).1 (mX9_valueOf hq4).2 dX10_page_26 ⟨by decide, by decide, by decide, by decide⟩ rfl (Nat.le_of_ble_eq_true rfl) rfl ⟨rfl, rfl⟩ ?_
    exact go_iret (w := wIh) (pc := 29) C E ((q4, h)) q4 dX10_page_29 rfl
  · exact go_none _ _ _
theorem dX10_sheetEntry_0 : decode cX10_sheetEntry 0 = .ok (.iload_n 1, 1) := by decide +kernel
theorem dX10_sheetEntry_1 : decode cX10_sheetEntry 1 = .ok (.istore_n 2, 1) := by decide +kernel
theorem dX10_sheetEntry_2 : decode cX10_sheetEntry 2 = .ok (.iload_n 0, 1) := by decide +kernel
theorem dX10_sheetEntry_3 : decode cX10_sheetEntry 3 = .ok (.ifCond .ne 9, 3) := by decide +kernel
theorem dX10_sheetEntry_6 : decode cX10_sheetEntry 6 = .ok (.iload_n 1, 1) := by decide +kernel
theorem dX10_sheetEntry_7 : decode cX10_sheetEntry 7 = .ok (.i2b, 1) := by decide +kernel
theorem dX10_sheetEntry_8 : decode cX10_sheetEntry 8 = .ok (.istore_n 2, 1) := by decide +kernel
theorem dX10_sheetEntry_9 : decode cX10_sheetEntry 9 = .ok (.goto 11, 3) := by decide +kernel
theorem dX10_sheetEntry_12 : decode cX10_sheetEntry 12 = .ok (.iload_n 0, 1) := by decide +kernel
theorem dX10_sheetEntry_13 : decode cX10_sheetEntry 13 = .ok (.iconst 1, 1) := by decide +kernel
theorem dX10_sheetEntry_14 : decode cX10_sheetEntry 14 = .ok (.if_icmp .ne 6, 3) := by decide +kernel
theorem dX10_sheetEntry_17 : decode cX10_sheetEntry 17 = .ok (.iload_n 1, 1) := by decide +kernel
theorem dX10_sheetEntry_18 : decode cX10_sheetEntry 18 = .ok (.i2s, 1) := by decide +kernel
theorem dX10_sheetEntry_19 : decode cX10_sheetEntry 19 = .ok (.istore_n 2, 1) := by decide +kernel
theorem dX10_sheetEntry_20 : decode cX10_sheetEntry 20 = .ok (.iload_n 2, 1) := by decide +kernel
theorem dX10_sheetEntry_21 : decode cX10_sheetEntry 21 = .ok (.iconst 0, 1) := by decide +kernel
theorem dX10_sheetEntry_22 : decode cX10_sheetEntry 22 = .ok (.bipush 9, 2) := by decide +kernel
theorem dX10_sheetEntry_24 : decode cX10_sheetEntry 24 = .ok (.invokestatic 158, 3) := by decide +kernel
theorem dX10_sheetEntry_27 : decode cX10_sheetEntry 27 = .ok (.ireturn, 1) := by decide +kernel
def fX10_sheetEntry_J20 (h : AH) (v2 : Int32) : Option (Int32) :=
    (fX10_clamp h v2 0 9).bind fun q1 =>
    some q1
def fX10_sheetEntry (h : AH) (a0 : Int32) (a1 : Int32) : Option (Int32) :=
  if a0 = 0 then (
    letF (Int8.toInt32 (Int32.toInt8 a1) : Int32) fun x2 =>
    fX10_sheetEntry_J20 h x2
  ) else (
    if a0 = 1 then (
      letF (Int16.toInt32 (Int32.toInt16 a1) : Int32) fun x3 =>
      fX10_sheetEntry_J20 h x3
    ) else (
      fX10_sheetEntry_J20 h a1
    )
  )
set_option maxHeartbeats 4000000 in
theorem gX10_sheetEntry_J20 {Y : YT} {X : XT} (C : CT Y X RX10 cX10_sheetEntry 3) (O : RO X 2 0 0) {h : AH} {r : Int32} (E : RX Y X (some .int) (some (.int r)) h 0 0) : ∀ (v2 : Int32), GO Y X 3 r h 0 0 20 [(2, .int v2)] [] (fX10_sheetEntry_J20 h v2) := by
  intro v2
  unfold fX10_sheetEntry_J20
  refine go_iload_n (pc := 20) C 0 dX10_sheetEntry_20 rfl ?_
  refine go_iconst (pc := 21) C dX10_sheetEntry_21 ki_0 ?_
  refine go_bipush (pc := 22) C dX10_sheetEntry_22 kb_9 ?_
  refine go_bind (fun q1 hq1 => ?_)
  refine go_callS (rest := []) (st' := [.int q1]) (c' := 0) (s' := 0) (pc := 24) C O miX10_158 w_547 [.int v2, .int 0, .int 9] rfl (mX10_clamp hq1) dX10_sheetEntry_24 ⟨by decide, by decide, by decide, by decide⟩ rfl (Nat.le_of_ble_eq_true rfl) rfl ⟨rfl, rfl⟩ ?_
  exact go_iret (w := (wI h)) (pc := 27) C E q1 q1 dX10_sheetEntry_27 rfl
set_option maxHeartbeats 4000000 in
theorem mX10_sheetEntry {h : AH} {a0 : Int32} {a1 : Int32} {r : Int32} (hr : fX10_sheetEntry h a0 a1 = some r) : MC yX10_sheetEntry cX10_sheetEntry 3 (some .int) 2 0 0 [.int a0, .int a1] h (some (.int r)) h := by
  unfold fX10_sheetEntry at hr
  refine mc_of (l0 := [(0, .int a0), (1, .int a1)]) rfl pn_X10 (Nat.le_of_ble_eq_true rfl) (fun Y X C E O hnm => go_run hr ?_)
  have C : CT Y X RX10 cX10_sheetEntry 3 := C
  refine go_iload_n (pc := 0) C 1 dX10_sheetEntry_0 rfl ?_
  refine go_istore_n (ls' := [(2, .int a1), (0, .int a0), (1, .int a1)]) (pc := 1) C dX10_sheetEntry_1 (by decide) rfl ?_
  refine go_iload_n (pc := 2) C 1 dX10_sheetEntry_2 rfl ?_
  refine go_if_ne (pc := 3) C 12 dX10_sheetEntry_3 (by decide) (fun _ => ?_) (fun _ => ?_)
  · refine go_iload_n (pc := 6) C 2 dX10_sheetEntry_6 rfl ?_
    refine go_i2b (pc := 7) C dX10_sheetEntry_7 ?_
    refine go_istore_nL (pc := 8) C dX10_sheetEntry_8 (by decide) (fun x2 => [(2, .int x2), (0, .int a0), (1, .int a1)]) (fun _ => rfl) (fun x2 => ?_)
    refine go_goto (pc := 9) C 20 dX10_sheetEntry_9 (by decide) ?_
    refine go_sub (ls' := [(2, .int x2)]) [0] rfl ?_
    refine gX10_sheetEntry_J20 C O E x2
  · refine go_iload_n (pc := 12) C 1 dX10_sheetEntry_12 rfl ?_
    refine go_iconst (pc := 13) C dX10_sheetEntry_13 ki_1 ?_
    refine go_icmp_ne (pc := 14) C 20 dX10_sheetEntry_14 (by decide) (fun _ => ?_) (fun _ => ?_)
    · refine go_iload_n (pc := 17) C 2 dX10_sheetEntry_17 rfl ?_
      refine go_i2s (pc := 18) C dX10_sheetEntry_18 ?_
      refine go_istore_nL (pc := 19) C dX10_sheetEntry_19 (by decide) (fun x3 => [(2, .int x3), (0, .int a0), (1, .int a1)]) (fun _ => rfl) (fun x3 => ?_)
      refine go_sub (ls' := [(2, .int x3)]) [0] rfl ?_
      refine gX10_sheetEntry_J20 C O E x3
    · refine go_sub (ls' := [(2, .int a1)]) [0] rfl ?_
      refine gX10_sheetEntry_J20 C O E a1
theorem dX10_sheet_0 : decode cX10_sheet 0 = .ok (.iload_n 1, 1) := by decide +kernel
theorem dX10_sheet_1 : decode cX10_sheet 1 = .ok (.ifCond .lt 14, 3) := by decide +kernel
theorem dX10_sheet_4 : decode cX10_sheet 4 = .ok (.iload_n 1, 1) := by decide +kernel
theorem dX10_sheet_5 : decode cX10_sheet 5 = .ok (.iconst 3, 1) := by decide +kernel
theorem dX10_sheet_6 : decode cX10_sheet 6 = .ok (.if_icmp .gt 9, 3) := by decide +kernel
theorem dX10_sheet_9 : decode cX10_sheet 9 = .ok (.iload_n 2, 1) := by decide +kernel
theorem dX10_sheet_10 : decode cX10_sheet 10 = .ok (.bipush 24, 2) := by decide +kernel
theorem dX10_sheet_12 : decode cX10_sheet 12 = .ok (.if_icmp .le 5, 3) := by decide +kernel
theorem dX10_sheet_15 : decode cX10_sheet 15 = .ok (.iconst (-1), 1) := by decide +kernel
theorem dX10_sheet_16 : decode cX10_sheet 16 = .ok (.ireturn, 1) := by decide +kernel
theorem dX10_sheet_17 : decode cX10_sheet 17 = .ok (.iload_n 1, 1) := by decide +kernel
theorem dX10_sheet_18 : decode cX10_sheet 18 = .ok (.iconst 3, 1) := by decide +kernel
theorem dX10_sheet_19 : decode cX10_sheet 19 = .ok (.if_icmp .ne 7, 3) := by decide +kernel
theorem dX10_sheet_22 : decode cX10_sheet 22 = .ok (.iconst 1, 1) := by decide +kernel
theorem dX10_sheet_23 : decode cX10_sheet 23 = .ok (.goto 4, 3) := by decide +kernel
theorem dX10_sheet_26 : decode cX10_sheet 26 = .ok (.iconst 0, 1) := by decide +kernel
theorem dX10_sheet_27 : decode cX10_sheet 27 = .ok (.istore 5, 2) := by decide +kernel
theorem dX10_sheet_29 : decode cX10_sheet 29 = .ok (.iload 5, 2) := by decide +kernel
theorem dX10_sheet_31 : decode cX10_sheet 31 = .ok (.ifCond .ne 10, 3) := by decide +kernel
theorem dX10_sheet_34 : decode cX10_sheet 34 = .ok (.iload_n 2, 1) := by decide +kernel
theorem dX10_sheet_35 : decode cX10_sheet 35 = .ok (.ifCond .ge 6, 3) := by decide +kernel
theorem dX10_sheet_38 : decode cX10_sheet 38 = .ok (.bipush (-2), 2) := by decide +kernel
theorem dX10_sheet_40 : decode cX10_sheet 40 = .ok (.ireturn, 1) := by decide +kernel
theorem dX10_sheet_41 : decode cX10_sheet 41 = .ok (.iconst 0, 1) := by decide +kernel
theorem dX10_sheet_42 : decode cX10_sheet 42 = .ok (.istore 6, 2) := by decide +kernel
theorem dX10_sheet_44 : decode cX10_sheet 44 = .ok (.iconst 0, 1) := by decide +kernel
theorem dX10_sheet_45 : decode cX10_sheet 45 = .ok (.istore 7, 2) := by decide +kernel
theorem dX10_sheet_47 : decode cX10_sheet 47 = .ok (.iconst 0, 1) := by decide +kernel
theorem dX10_sheet_48 : decode cX10_sheet 48 = .ok (.istore 8, 2) := by decide +kernel
theorem dX10_sheet_50 : decode cX10_sheet 50 = .ok (.iload 8, 2) := by decide +kernel
theorem dX10_sheet_52 : decode cX10_sheet 52 = .ok (.bipush 24, 2) := by decide +kernel
theorem dX10_sheet_54 : decode cX10_sheet 54 = .ok (.if_icmp .ge 70, 3) := by decide +kernel
theorem dX10_sheet_57 : decode cX10_sheet 57 = .ok (.aload_n 0, 1) := by decide +kernel
theorem dX10_sheet_58 : decode cX10_sheet 58 = .ok (.getfield 16, 3) := by decide +kernel
theorem dX10_sheet_61 : decode cX10_sheet 61 = .ok (.iload 8, 2) := by decide +kernel
theorem dX10_sheet_63 : decode cX10_sheet 63 = .ok (.invokevirtual 162, 3) := by decide +kernel
theorem dX10_sheet_66 : decode cX10_sheet 66 = .ok (.ifCond .eq 52, 3) := by decide +kernel
theorem dX10_sheet_69 : decode cX10_sheet 69 = .ok (.iload 5, 2) := by decide +kernel
theorem dX10_sheet_71 : decode cX10_sheet 71 = .ok (.ifCond .ne 23, 3) := by decide +kernel
theorem dX10_sheet_74 : decode cX10_sheet 74 = .ok (.iload 7, 2) := by decide +kernel
theorem dX10_sheet_76 : decode cX10_sheet 76 = .ok (.iload_n 2, 1) := by decide +kernel
theorem dX10_sheet_77 : decode cX10_sheet 77 = .ok (.if_icmp .ge 17, 3) := by decide +kernel
theorem dX10_sheet_80 : decode cX10_sheet 80 = .ok (.iload_n 1, 1) := by decide +kernel
theorem dX10_sheet_81 : decode cX10_sheet 81 = .ok (.iload_n 3, 1) := by decide +kernel
theorem dX10_sheet_82 : decode cX10_sheet 82 = .ok (.iload 7, 2) := by decide +kernel
theorem dX10_sheet_84 : decode cX10_sheet 84 = .ok (.iload 4, 2) := by decide +kernel
theorem dX10_sheet_86 : decode cX10_sheet 86 = .ok (.imul, 1) := by decide +kernel
theorem dX10_sheet_87 : decode cX10_sheet 87 = .ok (.iadd, 1) := by decide +kernel
theorem dX10_sheet_88 : decode cX10_sheet 88 = .ok (.invokestatic 193, 3) := by decide +kernel
theorem dX10_sheet_91 : decode cX10_sheet 91 = .ok (.goto 4, 3) := by decide +kernel
theorem dX10_sheet_94 : decode cX10_sheet 94 = .ok (.iconst 0, 1) := by decide +kernel
theorem dX10_sheet_95 : decode cX10_sheet 95 = .ok (.istore 9, 2) := by decide +kernel
theorem dX10_sheet_97 : decode cX10_sheet 97 = .ok (.aload_n 0, 1) := by decide +kernel
theorem dX10_sheet_98 : decode cX10_sheet 98 = .ok (.getfield 16, 3) := by decide +kernel
theorem dX10_sheet_101 : decode cX10_sheet 101 = .ok (.iload 8, 2) := by decide +kernel
theorem dX10_sheet_103 : decode cX10_sheet 103 = .ok (.iload 9, 2) := by decide +kernel
theorem dX10_sheet_105 : decode cX10_sheet 105 = .ok (.invokevirtual 196, 3) := by decide +kernel
theorem dX10_sheet_108 : decode cX10_sheet 108 = .ok (.iload 6, 2) := by decide +kernel
theorem dX10_sheet_110 : decode cX10_sheet 110 = .ok (.iload 9, 2) := by decide +kernel
theorem dX10_sheet_112 : decode cX10_sheet 112 = .ok (.iadd, 1) := by decide +kernel
theorem dX10_sheet_113 : decode cX10_sheet 113 = .ok (.istore 6, 2) := by decide +kernel
theorem dX10_sheet_115 : decode cX10_sheet 115 = .ok (.iinc 7 1, 3) := by decide +kernel
theorem dX10_sheet_118 : decode cX10_sheet 118 = .ok (.iinc 8 1, 3) := by decide +kernel
theorem dX10_sheet_121 : decode cX10_sheet 121 = .ok (.goto (-71), 3) := by decide +kernel
theorem dX10_sheet_124 : decode cX10_sheet 124 = .ok (.iload 5, 2) := by decide +kernel
theorem dX10_sheet_126 : decode cX10_sheet 126 = .ok (.ifCond .eq 8, 3) := by decide +kernel
theorem dX10_sheet_129 : decode cX10_sheet 129 = .ok (.bipush (-3), 2) := by decide +kernel
theorem dX10_sheet_131 : decode cX10_sheet 131 = .ok (.goto 5, 3) := by decide +kernel
theorem dX10_sheet_134 : decode cX10_sheet 134 = .ok (.iload 6, 2) := by decide +kernel
theorem dX10_sheet_136 : decode cX10_sheet 136 = .ok (.ireturn, 1) := by decide +kernel
def fX10_sheet_J95 (k118 : AH → Nat → Int32 → Int32 → Int32 → Int32 → Int32 → Int32 → Int32 → Int32 → Option (Int32 × AH)) (h : AH) (v0 : Nat) (v1 : Int32) (v2 : Int32) (v3 : Int32) (v4 : Int32) (v5 : Int32) (v6 : Int32) (v7 : Int32) (v8 : Int32) (s0 : Int32) : Option (Int32 × AH) :=
    (gR h 10 v0 2).bind fun x1 =>
    (fX9_setDigit h x1 v8 s0).bind fun q2 =>
    letF (v6 + s0 : Int32) fun x3 =>
    letF (v7 + 1 : Int32) fun x4 =>
    k118 q2 v0 v1 v2 v3 v4 v5 x3 x4 v8
def fX10_sheet_L50 (k124 : AH → Int32 → Int32 → Option (Int32 × AH)) : Nat → AH → Nat → Int32 → Int32 → Int32 → Int32 → Int32 → Int32 → Int32 → Int32 → Option (Int32 × AH)
  | 0, _, _, _, _, _, _, _, _, _, _ => none
  | n + 1, h, v0, v1, v2, v3, v4, v5, v6, v7, v8 =>
    if 24 ≤ v8 then (
      k124 h v5 v6
    ) else (
      (gR h 10 v0 2).bind fun x5 =>
      (fX9_hasObject h x5 v8).bind fun q6 =>
      if q6 = true then (
        if v5 = 0 then (
          if v2 ≤ v7 then (
            fX10_sheet_J95
              (fun h16 x7 x8 x9 x10 x11 x12 x13 x14 x15 =>
                letF (x15 + 1 : Int32) fun x17 =>
                fX10_sheet_L50 k124 n h16 x7 x8 x9 x10 x11 x12 x13 x14 x17)
              h v0 v1 v2 v3 v4 v5 v6 v7 v8 0
          ) else (
            (fX10_sheetEntry h v1 (v3 + (v7 * v4))).bind fun q18 =>
            fX10_sheet_J95
              (fun h28 x19 x20 x21 x22 x23 x24 x25 x26 x27 =>
                letF (x27 + 1 : Int32) fun x29 =>
                fX10_sheet_L50 k124 n h28 x19 x20 x21 x22 x23 x24 x25 x26 x29)
              h v0 v1 v2 v3 v4 v5 v6 v7 v8 q18
          )
        ) else (
          fX10_sheet_J95
            (fun h39 x30 x31 x32 x33 x34 x35 x36 x37 x38 =>
              letF (x38 + 1 : Int32) fun x40 =>
              fX10_sheet_L50 k124 n h39 x30 x31 x32 x33 x34 x35 x36 x37 x40)
            h v0 v1 v2 v3 v4 v5 v6 v7 v8 0
        )
      ) else (
        letF (v8 + 1 : Int32) fun x41 =>
        fX10_sheet_L50 k124 n h v0 v1 v2 v3 v4 v5 v6 v7 x41
      )
    )
def fX10_sheet_J41 (h : AH) (v0 : Nat) (v1 : Int32) (v2 : Int32) (v3 : Int32) (v4 : Int32) (v5 : Int32) : Option (Int32 × AH) :=
    fX10_sheet_L50
      (fun h44 x42 x43 =>
        if x42 = 0 then (
          some ((x43, h44))
        ) else (
          some (((-3), h44))
        ))
      FU h v0 v1 v2 v3 v4 v5 0 0 0
def fX10_sheet_J27 (h : AH) (v0 : Nat) (v1 : Int32) (v2 : Int32) (v3 : Int32) (v4 : Int32) (s0 : Int32) : Option (Int32 × AH) :=
    if s0 = 0 then (
      if 0 ≤ v2 then (
        fX10_sheet_J41 h v0 v1 v2 v3 v4 s0
      ) else (
        some (((-2), h))
      )
    ) else (
      fX10_sheet_J41 h v0 v1 v2 v3 v4 s0
    )
def fX10_sheet (h : AH) (a0 : Nat) (a1 : Int32) (a2 : Int32) (a3 : Int32) (a4 : Int32) : Option (Int32 × AH) :=
  if hasC h 10 a0 = true then (
    if a1 < 0 then (
      some (((-1), h))
    ) else (
      if 3 < a1 then (
        some (((-1), h))
      ) else (
        if a2 ≤ 24 then (
          if a1 = 3 then (
            fX10_sheet_J27 h a0 a1 a2 a3 a4 1
          ) else (
            fX10_sheet_J27 h a0 a1 a2 a3 a4 0
          )
        ) else (
          some (((-1), h))
        )
      )
    )
  ) else none
set_option maxHeartbeats 4000000 in
theorem gX10_sheet_J95 {Y : YT} {X : XT} (C : CT Y X RX10 cX10_sheet 10) (O : RO X 3 0 0) {r : Int32 × AH} (E : RX Y X (some .int) (some (.int r.1)) r.2 0 0) {k118 : AH → Nat → Int32 → Int32 → Int32 → Int32 → Int32 → Int32 → Int32 → Int32 → Option (Int32 × AH)} (hk118 : ∀ (h : AH) (v0 : Nat) (v1 : Int32) (v2 : Int32) (v3 : Int32) (v4 : Int32) (v5 : Int32) (v6 : Int32) (v7 : Int32) (v8 : Int32), GO Y X 10 r h 0 0 118 [(0, .ref v0), (1, .int v1), (2, .int v2), (3, .int v3), (4, .int v4), (5, .int v5), (6, .int v6), (7, .int v7), (8, .int v8)] [] (k118 h v0 v1 v2 v3 v4 v5 v6 v7 v8)) : ∀ (h : AH) (v0 : Nat) (v1 : Int32) (v2 : Int32) (v3 : Int32) (v4 : Int32) (v5 : Int32) (v6 : Int32) (v7 : Int32) (v8 : Int32) (s0 : Int32), GO Y X 10 r h 0 0 95 [(0, .ref v0), (1, .int v1), (2, .int v2), (3, .int v3), (4, .int v4), (5, .int v5), (6, .int v6), (7, .int v7), (8, .int v8)] [.int s0] (fX10_sheet_J95 k118 h v0 v1 v2 v3 v4 v5 v6 v7 v8 s0) := by
  intro h v0 v1 v2 v3 v4 v5 v6 v7 v8 s0
  unfold fX10_sheet_J95
  refine go_istore (ls' := [(9, .int s0), (0, .ref v0), (1, .int v1), (2, .int v2), (3, .int v3), (4, .int v4), (5, .int v5), (6, .int v6), (7, .int v7), (8, .int v8)]) (pc := 95) C dX10_sheet_95 (by decide) rfl ?_
  refine go_aload_n (pc := 97) C 1 dX10_sheet_97 rfl ?_
  refine go_gR (pc := 98) C fdX10_16 dX10_sheet_98 (fun x1 => ?_)
  refine go_iload (pc := 101) C 9 dX10_sheet_101 rfl ?_
  refine go_iload (pc := 103) C 0 dX10_sheet_103 rfl ?_
  refine go_bind (fun q2 hq2 => ?_)
  refine go_callV (rest := []) (st' := []) (c' := 0) (s' := 0) (pc := 105) C O miX10_196 mvX9_setDigit [.int v8, .int s0] rfl (mX9_setDigit hq2).1 (mX9_setDigit hq2).2 dX10_sheet_105 ⟨by decide, by decide, by decide, by decide⟩ rfl (Nat.le_of_ble_eq_true rfl) rfl ⟨rfl, rfl⟩ ?_
  refine go_iload (pc := 108) C 7 dX10_sheet_108 rfl ?_
  refine go_iload (pc := 110) C 0 dX10_sheet_110 rfl ?_
  refine go_iadd (pc := 112) C dX10_sheet_112 ?_
  refine go_istoreL (pc := 113) C dX10_sheet_113 (by decide) (fun x3 => [(6, .int x3), (9, .int s0), (0, .ref v0), (1, .int v1), (2, .int v2), (3, .int v3), (4, .int v4), (5, .int v5), (7, .int v7), (8, .int v8)]) (fun _ => rfl) (fun x3 => ?_)
  refine go_iincL (pc := 115) C 8 dX10_sheet_115 rfl ki_1 (by decide) (fun x4 => [(7, .int x4), (6, .int x3), (9, .int s0), (0, .ref v0), (1, .int v1), (2, .int v2), (3, .int v3), (4, .int v4), (5, .int v5), (8, .int v8)]) (fun _ => rfl) (fun x4 => ?_)
  refine go_sub (ls' := [(0, .ref v0), (1, .int v1), (2, .int v2), (3, .int v3), (4, .int v4), (5, .int v5), (6, .int x3), (7, .int x4), (8, .int v8)]) [3, 4, 5, 6, 7, 8, 1, 0, 9] rfl ?_
  exact hk118 q2 v0 v1 v2 v3 v4 v5 x3 x4 v8
set_option maxHeartbeats 4000000 in
theorem gX10_sheet_L50 {Y : YT} {X : XT} (C : CT Y X RX10 cX10_sheet 10) (O : RO X 3 0 0) {r : Int32 × AH} (E : RX Y X (some .int) (some (.int r.1)) r.2 0 0) {k124 : AH → Int32 → Int32 → Option (Int32 × AH)} (hk124 : ∀ (h : AH) (v5 : Int32) (v6 : Int32), GO Y X 10 r h 0 0 124 [(5, .int v5), (6, .int v6)] [] (k124 h v5 v6)) : ∀ (n : Nat) (h : AH) (v0 : Nat) (v1 : Int32) (v2 : Int32) (v3 : Int32) (v4 : Int32) (v5 : Int32) (v6 : Int32) (v7 : Int32) (v8 : Int32), GO Y X 10 r h 0 0 50 [(0, .ref v0), (1, .int v1), (2, .int v2), (3, .int v3), (4, .int v4), (5, .int v5), (6, .int v6), (7, .int v7), (8, .int v8)] [] (fX10_sheet_L50 k124 n h v0 v1 v2 v3 v4 v5 v6 v7 v8) := by
  intro n
  induction n with
  | zero => intros; exact go_none _ _ _
  | succ n ih =>
    intro h v0 v1 v2 v3 v4 v5 v6 v7 v8
    rw [fX10_sheet_L50]
    refine go_iload (pc := 50) C 8 dX10_sheet_50 rfl ?_
    refine go_bipush (pc := 52) C dX10_sheet_52 kb_24 ?_
    refine go_icmp_ge (pc := 54) C 124 dX10_sheet_54 (by decide) (fun _ => ?_) (fun _ => ?_)
    · refine go_sub (ls' := [(5, .int v5), (6, .int v6)]) [5, 6] rfl ?_
      exact hk124 h v5 v6
    · refine go_aload_n (pc := 57) C 0 dX10_sheet_57 rfl ?_
      refine go_gR (pc := 58) C fdX10_16 dX10_sheet_58 (fun x5 => ?_)
      refine go_iload (pc := 61) C 8 dX10_sheet_61 rfl ?_
      refine go_bind (fun q6 hq6 => ?_)
      refine go_callV (rest := []) (st' := [.int (b2i q6)]) (c' := 0) (s' := 0) (pc := 63) C O miX10_162 mvX9_hasObject [.int v8] rfl (mX9_hasObject hq6).1 (mX9_hasObject hq6).2 dX10_sheet_63 ⟨by decide, by decide, by decide, by decide⟩ rfl (Nat.le_of_ble_eq_true rfl) rfl ⟨rfl, rfl⟩ ?_
      refine go_ifZ_eq (pc := 66) C 118 dX10_sheet_66 (by decide) (fun _ => ?_) (fun _ => ?_)
      · refine go_iload (pc := 69) C 5 dX10_sheet_69 rfl ?_
        refine go_if_ne (pc := 71) C 94 dX10_sheet_71 (by decide) (fun _ => ?_) (fun _ => ?_)
        · refine go_iload (pc := 74) C 7 dX10_sheet_74 rfl ?_
          refine go_iload_n (pc := 76) C 2 dX10_sheet_76 rfl ?_
          refine go_icmp_ge (pc := 77) C 94 dX10_sheet_77 (by decide) (fun _ => ?_) (fun _ => ?_)
          · refine go_iconst (pc := 94) C dX10_sheet_94 ki_0 ?_
            refine go_sub (ls' := [(0, .ref v0), (1, .int v1), (2, .int v2), (3, .int v3), (4, .int v4), (5, .int v5), (6, .int v6), (7, .int v7), (8, .int v8)]) [0, 1, 2, 3, 4, 5, 6, 7, 8] rfl ?_
            refine gX10_sheet_J95 C O E (fun h16 x7 x8 x9 x10 x11 x12 x13 x14 x15 => ?_) h v0 v1 v2 v3 v4 v5 v6 v7 v8 0
            · refine go_iincL (pc := 118) C 8 dX10_sheet_118 rfl ki_1 (by decide) (fun x17 => [(8, .int x17), (0, .ref x7), (1, .int x8), (2, .int x9), (3, .int x10), (4, .int x11), (5, .int x12), (6, .int x13), (7, .int x14)]) (fun _ => rfl) (fun x17 => ?_)
              refine go_goto (pc := 121) C 50 dX10_sheet_121 (by decide) ?_
              refine go_sub (ls' := [(0, .ref x7), (1, .int x8), (2, .int x9), (3, .int x10), (4, .int x11), (5, .int x12), (6, .int x13), (7, .int x14), (8, .int x17)]) [1, 2, 3, 4, 5, 6, 7, 8, 0] rfl ?_
              exact ih h16 x7 x8 x9 x10 x11 x12 x13 x14 x17
          · refine go_iload_n (pc := 80) C 1 dX10_sheet_80 rfl ?_
            refine go_iload_n (pc := 81) C 3 dX10_sheet_81 rfl ?_
            refine go_iload (pc := 82) C 7 dX10_sheet_82 rfl ?_
            refine go_iload (pc := 84) C 4 dX10_sheet_84 rfl ?_
            refine go_imul (pc := 86) C dX10_sheet_86 ?_
            refine go_iadd (pc := 87) C dX10_sheet_87 ?_
            refine go_bind (fun q18 hq18 => ?_)
            refine go_callS (rest := []) (st' := [.int q18]) (c' := 0) (s' := 0) (pc := 88) C O miX10_193 w_544 [.int v1, .int (v3 + (v7 * v4))] rfl (mX10_sheetEntry hq18) dX10_sheet_88 ⟨by decide, by decide, by decide, by decide⟩ rfl (Nat.le_of_ble_eq_true rfl) rfl ⟨rfl, rfl⟩ ?_
            refine go_goto (pc := 91) C 95 dX10_sheet_91 (by decide) ?_
            refine go_sub (ls' := [(0, .ref v0), (1, .int v1), (2, .int v2), (3, .int v3), (4, .int v4), (5, .int v5), (6, .int v6), (7, .int v7), (8, .int v8)]) [0, 1, 2, 3, 4, 5, 6, 7, 8] rfl ?_
            refine gX10_sheet_J95 C O E (fun h28 x19 x20 x21 x22 x23 x24 x25 x26 x27 => ?_) h v0 v1 v2 v3 v4 v5 v6 v7 v8 q18
            · refine go_iincL (pc := 118) C 8 dX10_sheet_118 rfl ki_1 (by decide) (fun x29 => [(8, .int x29), (0, .ref x19), (1, .int x20), (2, .int x21), (3, .int x22), (4, .int x23), (5, .int x24), (6, .int x25), (7, .int x26)]) (fun _ => rfl) (fun x29 => ?_)
              refine go_goto (pc := 121) C 50 dX10_sheet_121 (by decide) ?_
              refine go_sub (ls' := [(0, .ref x19), (1, .int x20), (2, .int x21), (3, .int x22), (4, .int x23), (5, .int x24), (6, .int x25), (7, .int x26), (8, .int x29)]) [1, 2, 3, 4, 5, 6, 7, 8, 0] rfl ?_
              exact ih h28 x19 x20 x21 x22 x23 x24 x25 x26 x29
        · refine go_iconst (pc := 94) C dX10_sheet_94 ki_0 ?_
          refine go_sub (ls' := [(0, .ref v0), (1, .int v1), (2, .int v2), (3, .int v3), (4, .int v4), (5, .int v5), (6, .int v6), (7, .int v7), (8, .int v8)]) [0, 1, 2, 3, 4, 5, 6, 7, 8] rfl ?_
          refine gX10_sheet_J95 C O E (fun h39 x30 x31 x32 x33 x34 x35 x36 x37 x38 => ?_) h v0 v1 v2 v3 v4 v5 v6 v7 v8 0
          · refine go_iincL (pc := 118) C 8 dX10_sheet_118 rfl ki_1 (by decide) (fun x40 => [(8, .int x40), (0, .ref x30), (1, .int x31), (2, .int x32), (3, .int x33), (4, .int x34), (5, .int x35), (6, .int x36), (7, .int x37)]) (fun _ => rfl) (fun x40 => ?_)
            refine go_goto (pc := 121) C 50 dX10_sheet_121 (by decide) ?_
            refine go_sub (ls' := [(0, .ref x30), (1, .int x31), (2, .int x32), (3, .int x33), (4, .int x34), (5, .int x35), (6, .int x36), (7, .int x37), (8, .int x40)]) [1, 2, 3, 4, 5, 6, 7, 8, 0] rfl ?_
            exact ih h39 x30 x31 x32 x33 x34 x35 x36 x37 x40
      · refine go_iincL (pc := 118) C 8 dX10_sheet_118 rfl ki_1 (by decide) (fun x41 => [(8, .int x41), (0, .ref v0), (1, .int v1), (2, .int v2), (3, .int v3), (4, .int v4), (5, .int v5), (6, .int v6), (7, .int v7)]) (fun _ => rfl) (fun x41 => ?_)
        refine go_goto (pc := 121) C 50 dX10_sheet_121 (by decide) ?_
        refine go_sub (ls' := [(0, .ref v0), (1, .int v1), (2, .int v2), (3, .int v3), (4, .int v4), (5, .int v5), (6, .int v6), (7, .int v7), (8, .int x41)]) [1, 2, 3, 4, 5, 6, 7, 8, 0] rfl ?_
        exact ih h v0 v1 v2 v3 v4 v5 v6 v7 x41
set_option maxHeartbeats 4000000 in
theorem gX10_sheet_J41 {Y : YT} {X : XT} (C : CT Y X RX10 cX10_sheet 10) (O : RO X 3 0 0) {r : Int32 × AH} (E : RX Y X (some .int) (some (.int r.1)) r.2 0 0) : ∀ (h : AH) (v0 : Nat) (v1 : Int32) (v2 : Int32) (v3 : Int32) (v4 : Int32) (v5 : Int32), GO Y X 10 r h 0 0 41 [(0, .ref v0), (1, .int v1), (2, .int v2), (3, .int v3), (4, .int v4), (5, .int v5)] [] (fX10_sheet_J41 h v0 v1 v2 v3 v4 v5) := by
  intro h v0 v1 v2 v3 v4 v5
  unfold fX10_sheet_J41
  refine go_iconst (pc := 41) C dX10_sheet_41 ki_0 ?_
  refine go_istore (ls' := [(6, .int 0), (0, .ref v0), (1, .int v1), (2, .int v2), (3, .int v3), (4, .int v4), (5, .int v5)]) (pc := 42) C dX10_sheet_42 (by decide) rfl ?_
  refine go_iconst (pc := 44) C dX10_sheet_44 ki_0 ?_
  refine go_istore (ls' := [(7, .int 0), (6, .int 0), (0, .ref v0), (1, .int v1), (2, .int v2), (3, .int v3), (4, .int v4), (5, .int v5)]) (pc := 45) C dX10_sheet_45 (by decide) rfl ?_
  refine go_iconst (pc := 47) C dX10_sheet_47 ki_0 ?_
  refine go_istore (ls' := [(8, .int 0), (7, .int 0), (6, .int 0), (0, .ref v0), (1, .int v1), (2, .int v2), (3, .int v3), (4, .int v4), (5, .int v5)]) (pc := 48) C dX10_sheet_48 (by decide) rfl ?_
  refine go_sub (ls' := [(0, .ref v0), (1, .int v1), (2, .int v2), (3, .int v3), (4, .int v4), (5, .int v5), (6, .int 0), (7, .int 0), (8, .int 0)]) [3, 4, 5, 6, 7, 8, 2, 1, 0] rfl ?_
  refine gX10_sheet_L50 C O E (fun h44 x42 x43 => ?_) FU h v0 v1 v2 v3 v4 v5 0 0 0
  · refine go_iload (pc := 124) C 0 dX10_sheet_124 rfl ?_
    refine go_if_eq (pc := 126) C 134 dX10_sheet_126 (by decide) (fun _ => ?_) (fun _ => ?_)
    · refine go_iload (pc := 134) C 1 dX10_sheet_134 rfl ?_
      exact go_iret (w := wIh) (pc := 136) C E ((x43, h44)) x43 dX10_sheet_136 rfl
    · refine go_bipush (pc := 129) C dX10_sheet_129 kb_m3 ?_
      refine go_goto (pc := 131) C 136 dX10_sheet_131 (by decide) ?_
      exact go_iret (w := wIh) (pc := 136) C E (((-3), h44)) ((-3)) dX10_sheet_136 rfl
set_option maxHeartbeats 4000000 in
theorem gX10_sheet_J27 {Y : YT} {X : XT} (C : CT Y X RX10 cX10_sheet 10) (O : RO X 3 0 0) {r : Int32 × AH} (E : RX Y X (some .int) (some (.int r.1)) r.2 0 0) : ∀ (h : AH) (v0 : Nat) (v1 : Int32) (v2 : Int32) (v3 : Int32) (v4 : Int32) (s0 : Int32), GO Y X 10 r h 0 0 27 [(0, .ref v0), (1, .int v1), (2, .int v2), (3, .int v3), (4, .int v4)] [.int s0] (fX10_sheet_J27 h v0 v1 v2 v3 v4 s0) := by
  intro h v0 v1 v2 v3 v4 s0
  unfold fX10_sheet_J27
  refine go_istore (ls' := [(5, .int s0), (0, .ref v0), (1, .int v1), (2, .int v2), (3, .int v3), (4, .int v4)]) (pc := 27) C dX10_sheet_27 (by decide) rfl ?_
  refine go_iload (pc := 29) C 0 dX10_sheet_29 rfl ?_
  refine go_if_ne (pc := 31) C 41 dX10_sheet_31 (by decide) (fun _ => ?_) (fun _ => ?_)
  · refine go_iload_n (pc := 34) C 3 dX10_sheet_34 rfl ?_
    refine go_if_ge (pc := 35) C 41 dX10_sheet_35 (by decide) (fun _ => ?_) (fun _ => ?_)
    · refine go_sub (ls' := [(0, .ref v0), (1, .int v1), (2, .int v2), (3, .int v3), (4, .int v4), (5, .int s0)]) [1, 2, 3, 4, 5, 0] rfl ?_
      refine gX10_sheet_J41 C O E h v0 v1 v2 v3 v4 s0
    · refine go_bipush (pc := 38) C dX10_sheet_38 kb_m2 ?_
      exact go_iret (w := wIh) (pc := 40) C E (((-2), h)) ((-2)) dX10_sheet_40 rfl
  · refine go_sub (ls' := [(0, .ref v0), (1, .int v1), (2, .int v2), (3, .int v3), (4, .int v4), (5, .int s0)]) [1, 2, 3, 4, 5, 0] rfl ?_
    refine gX10_sheet_J41 C O E h v0 v1 v2 v3 v4 s0
set_option maxHeartbeats 4000000 in
theorem mX10_sheet {h : AH} {a0 : Nat} {a1 : Int32} {a2 : Int32} {a3 : Int32} {a4 : Int32} {r : Int32 × AH} (hr : fX10_sheet h a0 a1 a2 a3 a4 = some r) : hasC h 10 a0 = true ∧ MC yX10_sheet cX10_sheet 10 (some .int) 3 0 0 [.ref a0, .int a1, .int a2, .int a3, .int a4] h (some (.int r.1)) r.2 := by
  unfold fX10_sheet at hr
  obtain ⟨hc, hr⟩ := if_some hr
  refine ⟨hc, mc_of (l0 := [(0, .ref a0), (1, .int a1), (2, .int a2), (3, .int a3), (4, .int a4)]) rfl pn_X10 (Nat.le_of_ble_eq_true rfl) (fun Y X C E O hnm => go_run hr ?_)⟩
  have C : CT Y X RX10 cX10_sheet 10 := C
  refine go_iload_n (pc := 0) C 1 dX10_sheet_0 rfl ?_
  refine go_if_lt (pc := 1) C 15 dX10_sheet_1 (by decide) (fun _ => ?_) (fun _ => ?_)
  · refine go_iconst (pc := 15) C dX10_sheet_15 ki_m1 ?_
    exact go_iret (w := wIh) (pc := 16) C E (((-1), h)) ((-1)) dX10_sheet_16 rfl
  · refine go_iload_n (pc := 4) C 1 dX10_sheet_4 rfl ?_
    refine go_iconst (pc := 5) C dX10_sheet_5 ki_3 ?_
    refine go_icmp_gt (pc := 6) C 15 dX10_sheet_6 (by decide) (fun _ => ?_) (fun _ => ?_)
    · refine go_iconst (pc := 15) C dX10_sheet_15 ki_m1 ?_
      exact go_iret (w := wIh) (pc := 16) C E (((-1), h)) ((-1)) dX10_sheet_16 rfl
    · refine go_iload_n (pc := 9) C 2 dX10_sheet_9 rfl ?_
      refine go_bipush (pc := 10) C dX10_sheet_10 kb_24 ?_
      refine go_icmp_le (pc := 12) C 17 dX10_sheet_12 (by decide) (fun _ => ?_) (fun _ => ?_)
      · refine go_iload_n (pc := 17) C 1 dX10_sheet_17 rfl ?_
        refine go_iconst (pc := 18) C dX10_sheet_18 ki_3 ?_
        refine go_icmp_ne (pc := 19) C 26 dX10_sheet_19 (by decide) (fun _ => ?_) (fun _ => ?_)
        · refine go_iconst (pc := 22) C dX10_sheet_22 ki_1 ?_
          refine go_goto (pc := 23) C 27 dX10_sheet_23 (by decide) ?_
          refine go_sub (ls' := [(0, .ref a0), (1, .int a1), (2, .int a2), (3, .int a3), (4, .int a4)]) [0, 1, 2, 3, 4] rfl ?_
          refine gX10_sheet_J27 C O E h a0 a1 a2 a3 a4 1
        · refine go_iconst (pc := 26) C dX10_sheet_26 ki_0 ?_
          refine go_sub (ls' := [(0, .ref a0), (1, .int a1), (2, .int a2), (3, .int a3), (4, .int a4)]) [0, 1, 2, 3, 4] rfl ?_
          refine gX10_sheet_J27 C O E h a0 a1 a2 a3 a4 0
      · refine go_iconst (pc := 15) C dX10_sheet_15 ki_m1 ?_
        exact go_iret (w := wIh) (pc := 16) C E (((-1), h)) ((-1)) dX10_sheet_16 rfl
theorem dX10_keepIfDone_0 : decode cX10_keepIfDone 0 = .ok (.iload_n 1, 1) := by decide +kernel
theorem dX10_keepIfDone_1 : decode cX10_keepIfDone 1 = .ok (.ifCond .eq 10, 3) := by decide +kernel
theorem dX10_keepIfDone_4 : decode cX10_keepIfDone 4 = .ok (.aload_n 0, 1) := by decide +kernel
theorem dX10_keepIfDone_5 : decode cX10_keepIfDone 5 = .ok (.getfield 26, 3) := by decide +kernel
theorem dX10_keepIfDone_8 : decode cX10_keepIfDone 8 = .ok (.invokevirtual 124, 3) := by decide +kernel
theorem dX10_keepIfDone_11 : decode cX10_keepIfDone 11 = .ok (.return_, 1) := by decide +kernel
def fX10_keepIfDone (h : AH) (a0 : Nat) (a1 : Bool) : Option (AH) :=
  if hasC h 10 a0 = true then (
    if a1 = true then (
      (gR h 10 a0 4).bind fun x1 =>
      (fX2_keepMark h x1).bind fun q2 =>
      some q2
    ) else (
      some h
    )
  ) else none
set_option maxHeartbeats 4000000 in
theorem mX10_keepIfDone {h : AH} {a0 : Nat} {a1 : Bool} {r : AH} (hr : fX10_keepIfDone h a0 a1 = some r) : hasC h 10 a0 = true ∧ MC yX10_keepIfDone cX10_keepIfDone 2 none 2 0 0 [.ref a0, .int (b2i a1)] h none r := by
  unfold fX10_keepIfDone at hr
  obtain ⟨hc, hr⟩ := if_some hr
  refine ⟨hc, mc_of (l0 := [(0, .ref a0), (1, .int (b2i a1))]) rfl pn_X10 (Nat.le_of_ble_eq_true rfl) (fun Y X C E O hnm => go_run hr ?_)⟩
  have C : CT Y X RX10 cX10_keepIfDone 2 := C
  refine go_iload_n (pc := 0) C 1 dX10_keepIfDone_0 rfl ?_
  refine go_ifZ_eq (pc := 1) C 11 dX10_keepIfDone_1 (by decide) (fun _ => ?_) (fun _ => ?_)
  · refine go_aload_n (pc := 4) C 0 dX10_keepIfDone_4 rfl ?_
    refine go_gR (pc := 5) C fdX10_26 dX10_keepIfDone_5 (fun x1 => ?_)
    refine go_bind (fun q2 hq2 => ?_)
    refine go_callV (rest := []) (st' := []) (c' := 0) (s' := 0) (pc := 8) C O miX10_124 mvX2_keepMark [] rfl (mX2_keepMark hq2).1 (mX2_keepMark hq2).2 dX10_keepIfDone_8 ⟨by decide, by decide, by decide, by decide⟩ rfl (Nat.le_of_ble_eq_true rfl) rfl ⟨rfl, rfl⟩ ?_
    exact go_vret (w := wV) (pc := 11) C E q2 dX10_keepIfDone_11 rfl
  · exact go_vret (w := wV) (pc := 11) C E h dX10_keepIfDone_11 rfl
theorem dX10_reads_0 : decode cX10_reads 0 = .ok (.aload_n 0, 1) := by decide +kernel
theorem dX10_reads_1 : decode cX10_reads 1 = .ok (.getfield 26, 3) := by decide +kernel
theorem dX10_reads_4 : decode cX10_reads 4 = .ok (.aload_n 0, 1) := by decide +kernel
theorem dX10_reads_5 : decode cX10_reads 5 = .ok (.getfield 16, 3) := by decide +kernel
theorem dX10_reads_8 : decode cX10_reads 8 = .ok (.invokevirtual 102, 3) := by decide +kernel
theorem dX10_reads_11 : decode cX10_reads 11 = .ok (.aload_n 0, 1) := by decide +kernel
theorem dX10_reads_12 : decode cX10_reads 12 = .ok (.getfield 16, 3) := by decide +kernel
theorem dX10_reads_15 : decode cX10_reads 15 = .ok (.iload_n 1, 1) := by decide +kernel
theorem dX10_reads_16 : decode cX10_reads 16 = .ok (.aload_n 0, 1) := by decide +kernel
theorem dX10_reads_17 : decode cX10_reads 17 = .ok (.getfield 16, 3) := by decide +kernel
theorem dX10_reads_20 : decode cX10_reads 20 = .ok (.iload_n 1, 1) := by decide +kernel
theorem dX10_reads_21 : decode cX10_reads 21 = .ok (.iload_n 2, 1) := by decide +kernel
theorem dX10_reads_22 : decode cX10_reads 22 = .ok (.invokevirtual 200, 3) := by decide +kernel
theorem dX10_reads_25 : decode cX10_reads 25 = .ok (.invokevirtual 203, 3) := by decide +kernel
theorem dX10_reads_28 : decode cX10_reads 28 = .ok (.istore_n 3, 1) := by decide +kernel
theorem dX10_reads_29 : decode cX10_reads 29 = .ok (.aload_n 0, 1) := by decide +kernel
theorem dX10_reads_30 : decode cX10_reads 30 = .ok (.getfield 16, 3) := by decide +kernel
theorem dX10_reads_33 : decode cX10_reads 33 = .ok (.iload_n 1, 1) := by decide +kernel
theorem dX10_reads_34 : decode cX10_reads 34 = .ok (.iload_n 2, 1) := by decide +kernel
theorem dX10_reads_35 : decode cX10_reads 35 = .ok (.invokevirtual 206, 3) := by decide +kernel
theorem dX10_reads_38 : decode cX10_reads 38 = .ok (.istore 4, 2) := by decide +kernel
theorem dX10_reads_40 : decode cX10_reads 40 = .ok (.iload 4, 2) := by decide +kernel
theorem dX10_reads_42 : decode cX10_reads 42 = .ok (.ifCond .lt 19, 3) := by decide +kernel
theorem dX10_reads_45 : decode cX10_reads 45 = .ok (.aload_n 0, 1) := by decide +kernel
theorem dX10_reads_46 : decode cX10_reads 46 = .ok (.getfield 50, 3) := by decide +kernel
theorem dX10_reads_49 : decode cX10_reads 49 = .ok (.invokevirtual 209, 3) := by decide +kernel
theorem dX10_reads_52 : decode cX10_reads 52 = .ok (.aload_n 0, 1) := by decide +kernel
theorem dX10_reads_53 : decode cX10_reads 53 = .ok (.getfield 50, 3) := by decide +kernel
theorem dX10_reads_56 : decode cX10_reads 56 = .ok (.iload_n 3, 1) := by decide +kernel
theorem dX10_reads_57 : decode cX10_reads 57 = .ok (.i2l, 1) := by decide +kernel
theorem dX10_reads_58 : decode cX10_reads 58 = .ok (.invokevirtual 212, 3) := by decide +kernel
theorem dX10_reads_61 : decode cX10_reads 61 = .ok (.aload_n 0, 1) := by decide +kernel
theorem dX10_reads_62 : decode cX10_reads 62 = .ok (.iload 4, 2) := by decide +kernel
theorem dX10_reads_64 : decode cX10_reads 64 = .ok (.ifCond .ge 10, 3) := by decide +kernel
theorem dX10_reads_67 : decode cX10_reads 67 = .ok (.iload 4, 2) := by decide +kernel
theorem dX10_reads_69 : decode cX10_reads 69 = .ok (.bipush (-3), 2) := by decide +kernel
theorem dX10_reads_71 : decode cX10_reads 71 = .ok (.if_icmp .ne 7, 3) := by decide +kernel
theorem dX10_reads_74 : decode cX10_reads 74 = .ok (.iconst 1, 1) := by decide +kernel
theorem dX10_reads_75 : decode cX10_reads 75 = .ok (.goto 4, 3) := by decide +kernel
theorem dX10_reads_78 : decode cX10_reads 78 = .ok (.iconst 0, 1) := by decide +kernel
theorem dX10_reads_79 : decode cX10_reads 79 = .ok (.invokevirtual 216, 3) := by decide +kernel
theorem dX10_reads_82 : decode cX10_reads 82 = .ok (.iload 4, 2) := by decide +kernel
theorem dX10_reads_84 : decode cX10_reads 84 = .ok (.ireturn, 1) := by decide +kernel
def fX10_reads_J79 (h : AH) (v4 : Int32) (s0 : Int32) (s1 : Nat) : Option (Int32 × AH) :=
    (i2z s0).bind fun x1 =>
    (fX10_keepIfDone h s1 x1).bind fun q2 =>
    some ((v4, q2))
def fX10_reads_J61 (h : AH) (v0 : Nat) (v4 : Int32) : Option (Int32 × AH) :=
    if 0 ≤ v4 then (
      fX10_reads_J79 h v4 1 v0
    ) else (
      if v4 = ((-3)) then (
        fX10_reads_J79 h v4 1 v0
      ) else (
        fX10_reads_J79 h v4 0 v0
      )
    )
def fX10_reads (h : AH) (a0 : Nat) (a1 : Int32) (a2 : Int32) : Option (Int32 × AH) :=
  if hasC h 10 a0 = true then (
    (gR h 10 a0 4).bind fun x3 =>
    (gR h 10 a0 2).bind fun x4 =>
    (fX2_mark h x3 x4).bind fun q5 =>
    (gR q5 10 a0 2).bind fun x6 =>
    (gR q5 10 a0 2).bind fun x7 =>
    (fX9_firstHolder q5 x7 a1 a2).bind fun q8 =>
    (fX9_placeOf q5 x6 a1 q8).bind fun q9 =>
    (gR q5 10 a0 2).bind fun x10 =>
    (fX9_readPage q5 x10 a1 a2).bind fun q11 =>
    if q11.1 < 0 then (
      fX10_reads_J61 q11.2 a0 q11.1
    ) else (
      (gR q11.2 10 a0 8).bind fun x12 =>
      (fX5_clear q11.2 x12).bind fun q13 =>
      (gR q13 10 a0 8).bind fun x14 =>
      (fX5_add q13 x14 (Int32.toInt64 q9)).bind fun q15 =>
      fX10_reads_J61 q15 a0 q11.1
    )
  ) else none
set_option maxHeartbeats 4000000 in
theorem gX10_reads_J79 {Y : YT} {X : XT} (C : CT Y X RX10 cX10_reads 5) (O : RO X 6 0 0) {r : Int32 × AH} (E : RX Y X (some .int) (some (.int r.1)) r.2 0 0) : ∀ (h : AH) (v4 : Int32) (s0 : Int32) (s1 : Nat), GO Y X 5 r h 0 0 79 [(4, .int v4)] [.int s0, .ref s1] (fX10_reads_J79 h v4 s0 s1) := by
  intro h v4 s0 s1
  unfold fX10_reads_J79
  refine go_i2z (fun x1 hzx1 => ?_)
  rw [hzx1]
  refine go_bind (fun q2 hq2 => ?_)
  refine go_callV (rest := []) (st' := []) (c' := 0) (s' := 0) (pc := 79) C O miX10_216 mvX10_keepIfDone [.int (b2i x1)] rfl (mX10_keepIfDone hq2).1 (mX10_keepIfDone hq2).2 dX10_reads_79 ⟨by decide, by decide, by decide, by decide⟩ rfl (Nat.le_of_ble_eq_true rfl) rfl ⟨rfl, rfl⟩ ?_
  refine go_iload (pc := 82) C 0 dX10_reads_82 rfl ?_
  exact go_iret (w := wIh) (pc := 84) C E ((v4, q2)) v4 dX10_reads_84 rfl
set_option maxHeartbeats 4000000 in
theorem gX10_reads_J61 {Y : YT} {X : XT} (C : CT Y X RX10 cX10_reads 5) (O : RO X 6 0 0) {r : Int32 × AH} (E : RX Y X (some .int) (some (.int r.1)) r.2 0 0) : ∀ (h : AH) (v0 : Nat) (v4 : Int32), GO Y X 5 r h 0 0 61 [(0, .ref v0), (4, .int v4)] [] (fX10_reads_J61 h v0 v4) := by
  intro h v0 v4
  unfold fX10_reads_J61
  refine go_aload_n (pc := 61) C 0 dX10_reads_61 rfl ?_
  refine go_iload (pc := 62) C 1 dX10_reads_62 rfl ?_
  refine go_if_ge (pc := 64) C 74 dX10_reads_64 (by decide) (fun _ => ?_) (fun _ => ?_)
  · refine go_iconst (pc := 74) C dX10_reads_74 ki_1 ?_
    refine go_goto (pc := 75) C 79 dX10_reads_75 (by decide) ?_
    refine go_sub (ls' := [(4, .int v4)]) [1] rfl ?_
    refine gX10_reads_J79 C O E h v4 1 v0
  · refine go_iload (pc := 67) C 1 dX10_reads_67 rfl ?_
    refine go_bipush (pc := 69) C dX10_reads_69 kb_m3 ?_
    refine go_icmp_ne (pc := 71) C 78 dX10_reads_71 (by decide) (fun _ => ?_) (fun _ => ?_)
    · refine go_iconst (pc := 74) C dX10_reads_74 ki_1 ?_
      refine go_goto (pc := 75) C 79 dX10_reads_75 (by decide) ?_
      refine go_sub (ls' := [(4, .int v4)]) [1] rfl ?_
      refine gX10_reads_J79 C O E h v4 1 v0
    · refine go_iconst (pc := 78) C dX10_reads_78 ki_0 ?_
      refine go_sub (ls' := [(4, .int v4)]) [1] rfl ?_
      refine gX10_reads_J79 C O E h v4 0 v0
set_option maxHeartbeats 4000000 in
theorem mX10_reads {h : AH} {a0 : Nat} {a1 : Int32} {a2 : Int32} {r : Int32 × AH} (hr : fX10_reads h a0 a1 a2 = some r) : hasC h 10 a0 = true ∧ MC yX10_reads cX10_reads 5 (some .int) 6 0 0 [.ref a0, .int a1, .int a2] h (some (.int r.1)) r.2 := by
  unfold fX10_reads at hr
  obtain ⟨hc, hr⟩ := if_some hr
  refine ⟨hc, mc_of (l0 := [(0, .ref a0), (1, .int a1), (2, .int a2)]) rfl pn_X10 (Nat.le_of_ble_eq_true rfl) (fun Y X C E O hnm => go_run hr ?_)⟩
  have C : CT Y X RX10 cX10_reads 5 := C
  refine go_aload_n (pc := 0) C 0 dX10_reads_0 rfl ?_
  refine go_gR (pc := 1) C fdX10_26 dX10_reads_1 (fun x3 => ?_)
  refine go_aload_n (pc := 4) C 0 dX10_reads_4 rfl ?_
  refine go_gR (pc := 5) C fdX10_16 dX10_reads_5 (fun x4 => ?_)
  refine go_bind (fun q5 hq5 => ?_)
  refine go_callV (rest := []) (st' := []) (c' := 0) (s' := 0) (pc := 8) C O miX10_102 mvX2_mark [.ref x4] rfl (mX2_mark hq5).1 (mX2_mark hq5).2 dX10_reads_8 ⟨by decide, by decide, by decide, by decide⟩ rfl (Nat.le_of_ble_eq_true rfl) rfl ⟨rfl, rfl⟩ ?_
  refine go_aload_n (pc := 11) C 0 dX10_reads_11 rfl ?_
  refine go_gR (pc := 12) C fdX10_16 dX10_reads_12 (fun x6 => ?_)
  refine go_iload_n (pc := 15) C 1 dX10_reads_15 rfl ?_
  refine go_aload_n (pc := 16) C 0 dX10_reads_16 rfl ?_
  refine go_gR (pc := 17) C fdX10_16 dX10_reads_17 (fun x7 => ?_)
  refine go_iload_n (pc := 20) C 1 dX10_reads_20 rfl ?_
  refine go_iload_n (pc := 21) C 2 dX10_reads_21 rfl ?_
  refine go_bind (fun q8 hq8 => ?_)
  refine go_callV (rest := [.int a1, .ref x6]) (st' := [.int q8, .int a1, .ref x6]) (c' := 0) (s' := 0) (pc := 22) C O miX10_200 mvX9_firstHolder [.int a1, .int a2] rfl (mX9_firstHolder hq8).1 (mX9_firstHolder hq8).2 dX10_reads_22 ⟨by decide, by decide, by decide, by decide⟩ rfl (Nat.le_of_ble_eq_true rfl) rfl ⟨rfl, rfl⟩ ?_
  refine go_bind (fun q9 hq9 => ?_)
  refine go_callV (rest := []) (st' := [.int q9]) (c' := 0) (s' := 0) (pc := 25) C O miX10_203 mvX9_placeOf [.int a1, .int q8] rfl (mX9_placeOf hq9).1 (mX9_placeOf hq9).2 dX10_reads_25 ⟨by decide, by decide, by decide, by decide⟩ rfl (Nat.le_of_ble_eq_true rfl) rfl ⟨rfl, rfl⟩ ?_
  refine go_istore_n (ls' := [(3, .int q9), (0, .ref a0), (1, .int a1), (2, .int a2)]) (pc := 28) C dX10_reads_28 (by decide) rfl ?_
  refine go_aload_n (pc := 29) C 1 dX10_reads_29 rfl ?_
  refine go_gR (pc := 30) C fdX10_16 dX10_reads_30 (fun x10 => ?_)
  refine go_iload_n (pc := 33) C 2 dX10_reads_33 rfl ?_
  refine go_iload_n (pc := 34) C 3 dX10_reads_34 rfl ?_
  refine go_bind (fun q11 hq11 => ?_)
  refine go_callV (rest := []) (st' := [.int q11.1]) (c' := 0) (s' := 0) (pc := 35) C O miX10_206 mvX9_readPage [.int a1, .int a2] rfl (mX9_readPage hq11).1 (mX9_readPage hq11).2 dX10_reads_35 ⟨by decide, by decide, by decide, by decide⟩ rfl (Nat.le_of_ble_eq_true rfl) rfl ⟨rfl, rfl⟩ ?_
  refine go_istore (ls' := [(4, .int q11.1), (3, .int q9), (0, .ref a0), (1, .int a1), (2, .int a2)]) (pc := 38) C dX10_reads_38 (by decide) rfl ?_
  refine go_iload (pc := 40) C 0 dX10_reads_40 rfl ?_
  refine go_if_lt (pc := 42) C 61 dX10_reads_42 (by decide) (fun _ => ?_) (fun _ => ?_)
  · refine go_sub (ls' := [(0, .ref a0), (4, .int q11.1)]) [2, 0] rfl ?_
    refine gX10_reads_J61 C O E q11.2 a0 q11.1
  · refine go_aload_n (pc := 45) C 2 dX10_reads_45 rfl ?_
    refine go_gR (pc := 46) C fdX10_50 dX10_reads_46 (fun x12 => ?_)
    refine go_bind (fun q13 hq13 => ?_)
    refine go_callV (rest := []) (st' := []) (c' := 0) (s' := 0) (pc := 49) C O miX10_209 mvX5_clear [] rfl (mX5_clear hq13).1 (mX5_clear hq13).2 dX10_reads_49 ⟨by decide, by decide, by decide, by decide⟩ rfl (Nat.le_of_ble_eq_true rfl) rfl ⟨rfl, rfl⟩ ?_
    refine go_aload_n (pc := 52) C 2 dX10_reads_52 rfl ?_
    refine go_gR (pc := 53) C fdX10_50 dX10_reads_53 (fun x14 => ?_)
    refine go_iload_n (pc := 56) C 1 dX10_reads_56 rfl ?_
    refine go_i2l (pc := 57) C dX10_reads_57 ?_
    refine go_bind (fun q15 hq15 => ?_)
    refine go_callV (rest := []) (st' := []) (c' := 0) (s' := 0) (pc := 58) C O miX10_212 mvX5_add [.long (Int32.toInt64 q9)] rfl (mX5_add hq15).1 (mX5_add hq15).2 dX10_reads_58 ⟨by decide, by decide, by decide, by decide⟩ rfl (Nat.le_of_ble_eq_true rfl) rfl ⟨rfl, rfl⟩ ?_
    refine go_sub (ls' := [(0, .ref a0), (4, .int q11.1)]) [2, 0] rfl ?_
    refine gX10_reads_J61 C O E q15 a0 q11.1
theorem dX10_writes_0 : decode cX10_writes 0 = .ok (.aload_n 0, 1) := by decide +kernel
theorem dX10_writes_1 : decode cX10_writes 1 = .ok (.getfield 26, 3) := by decide +kernel
theorem dX10_writes_4 : decode cX10_writes 4 = .ok (.aload_n 0, 1) := by decide +kernel
theorem dX10_writes_5 : decode cX10_writes 5 = .ok (.getfield 16, 3) := by decide +kernel
theorem dX10_writes_8 : decode cX10_writes 8 = .ok (.invokevirtual 102, 3) := by decide +kernel
theorem dX10_writes_11 : decode cX10_writes 11 = .ok (.aload_n 0, 1) := by decide +kernel
theorem dX10_writes_12 : decode cX10_writes 12 = .ok (.getfield 16, 3) := by decide +kernel
theorem dX10_writes_15 : decode cX10_writes 15 = .ok (.iload_n 1, 1) := by decide +kernel
theorem dX10_writes_16 : decode cX10_writes 16 = .ok (.iload_n 2, 1) := by decide +kernel
theorem dX10_writes_17 : decode cX10_writes 17 = .ok (.iload_n 3, 1) := by decide +kernel
theorem dX10_writes_18 : decode cX10_writes 18 = .ok (.aload_n 0, 1) := by decide +kernel
theorem dX10_writes_19 : decode cX10_writes 19 = .ok (.getfield 33, 3) := by decide +kernel
theorem dX10_writes_22 : decode cX10_writes 22 = .ok (.invokevirtual 220, 3) := by decide +kernel
theorem dX10_writes_25 : decode cX10_writes 25 = .ok (.istore 4, 2) := by decide +kernel
theorem dX10_writes_27 : decode cX10_writes 27 = .ok (.iload 4, 2) := by decide +kernel
theorem dX10_writes_29 : decode cX10_writes 29 = .ok (.ifCond .lt 40, 3) := by decide +kernel
theorem dX10_writes_32 : decode cX10_writes 32 = .ok (.aload_n 0, 1) := by decide +kernel
theorem dX10_writes_33 : decode cX10_writes 33 = .ok (.getfield 50, 3) := by decide +kernel
theorem dX10_writes_36 : decode cX10_writes 36 = .ok (.invokevirtual 209, 3) := by decide +kernel
theorem dX10_writes_39 : decode cX10_writes 39 = .ok (.aload_n 0, 1) := by decide +kernel
theorem dX10_writes_40 : decode cX10_writes 40 = .ok (.getfield 50, 3) := by decide +kernel
theorem dX10_writes_43 : decode cX10_writes 43 = .ok (.aload_n 0, 1) := by decide +kernel
theorem dX10_writes_44 : decode cX10_writes 44 = .ok (.getfield 16, 3) := by decide +kernel
theorem dX10_writes_47 : decode cX10_writes 47 = .ok (.invokevirtual 96, 3) := by decide +kernel
theorem dX10_writes_50 : decode cX10_writes 50 = .ok (.i2l, 1) := by decide +kernel
theorem dX10_writes_51 : decode cX10_writes 51 = .ok (.invokevirtual 212, 3) := by decide +kernel
theorem dX10_writes_54 : decode cX10_writes 54 = .ok (.aload_n 0, 1) := by decide +kernel
theorem dX10_writes_55 : decode cX10_writes 55 = .ok (.getfield 50, 3) := by decide +kernel
theorem dX10_writes_58 : decode cX10_writes 58 = .ok (.aload_n 0, 1) := by decide +kernel
theorem dX10_writes_59 : decode cX10_writes 59 = .ok (.getfield 16, 3) := by decide +kernel
theorem dX10_writes_62 : decode cX10_writes 62 = .ok (.invokevirtual 93, 3) := by decide +kernel
theorem dX10_writes_65 : decode cX10_writes 65 = .ok (.i2l, 1) := by decide +kernel
theorem dX10_writes_66 : decode cX10_writes 66 = .ok (.invokevirtual 212, 3) := by decide +kernel
theorem dX10_writes_69 : decode cX10_writes 69 = .ok (.aload_n 0, 1) := by decide +kernel
theorem dX10_writes_70 : decode cX10_writes 70 = .ok (.iload 4, 2) := by decide +kernel
theorem dX10_writes_72 : decode cX10_writes 72 = .ok (.ifCond .ge 10, 3) := by decide +kernel
theorem dX10_writes_75 : decode cX10_writes 75 = .ok (.iload 4, 2) := by decide +kernel
theorem dX10_writes_77 : decode cX10_writes 77 = .ok (.bipush (-3), 2) := by decide +kernel
theorem dX10_writes_79 : decode cX10_writes 79 = .ok (.if_icmp .ne 7, 3) := by decide +kernel
theorem dX10_writes_82 : decode cX10_writes 82 = .ok (.iconst 1, 1) := by decide +kernel
theorem dX10_writes_83 : decode cX10_writes 83 = .ok (.goto 4, 3) := by decide +kernel
theorem dX10_writes_86 : decode cX10_writes 86 = .ok (.iconst 0, 1) := by decide +kernel
theorem dX10_writes_87 : decode cX10_writes 87 = .ok (.invokevirtual 216, 3) := by decide +kernel
theorem dX10_writes_90 : decode cX10_writes 90 = .ok (.iload 4, 2) := by decide +kernel
theorem dX10_writes_92 : decode cX10_writes 92 = .ok (.ireturn, 1) := by decide +kernel
def fX10_writes_J87 (h : AH) (v4 : Int32) (s0 : Int32) (s1 : Nat) : Option (Int32 × AH) :=
    (i2z s0).bind fun x1 =>
    (fX10_keepIfDone h s1 x1).bind fun q2 =>
    some ((v4, q2))
def fX10_writes_J69 (h : AH) (v0 : Nat) (v4 : Int32) : Option (Int32 × AH) :=
    if 0 ≤ v4 then (
      fX10_writes_J87 h v4 1 v0
    ) else (
      if v4 = ((-3)) then (
        fX10_writes_J87 h v4 1 v0
      ) else (
        fX10_writes_J87 h v4 0 v0
      )
    )
def fX10_writes (h : AH) (a0 : Nat) (a1 : Int32) (a2 : Int32) (a3 : Int32) : Option (Int32 × AH) :=
  if hasC h 10 a0 = true then (
    (gR h 10 a0 4).bind fun x3 =>
    (gR h 10 a0 2).bind fun x4 =>
    (fX2_mark h x3 x4).bind fun q5 =>
    (gR q5 10 a0 2).bind fun x6 =>
    (gR q5 10 a0 5).bind fun x7 =>
    (fX9_writePage q5 x6 a1 a2 a3 x7).bind fun q8 =>
    if q8.1 < 0 then (
      fX10_writes_J69 q8.2 a0 q8.1
    ) else (
      (gR q8.2 10 a0 8).bind fun x9 =>
      (fX5_clear q8.2 x9).bind fun q10 =>
      (gR q10 10 a0 8).bind fun x11 =>
      (gR q10 10 a0 2).bind fun x12 =>
      (fX9_frameTotal q10 x12).bind fun q13 =>
      (fX5_add q10 x11 (Int32.toInt64 q13)).bind fun q14 =>
      (gR q14 10 a0 8).bind fun x15 =>
      (gR q14 10 a0 2).bind fun x16 =>
      (fX9_objectTotal q14 x16).bind fun q17 =>
      (fX5_add q14 x15 (Int32.toInt64 q17)).bind fun q18 =>
      fX10_writes_J69 q18 a0 q8.1
    )
  ) else none
set_option maxHeartbeats 4000000 in
theorem gX10_writes_J87 {Y : YT} {X : XT} (C : CT Y X RX10 cX10_writes 5) (O : RO X 7 0 0) {r : Int32 × AH} (E : RX Y X (some .int) (some (.int r.1)) r.2 0 0) : ∀ (h : AH) (v4 : Int32) (s0 : Int32) (s1 : Nat), GO Y X 5 r h 0 0 87 [(4, .int v4)] [.int s0, .ref s1] (fX10_writes_J87 h v4 s0 s1) := by
  intro h v4 s0 s1
  unfold fX10_writes_J87
  refine go_i2z (fun x1 hzx1 => ?_)
  rw [hzx1]
  refine go_bind (fun q2 hq2 => ?_)
  refine go_callV (rest := []) (st' := []) (c' := 0) (s' := 0) (pc := 87) C O miX10_216 mvX10_keepIfDone [.int (b2i x1)] rfl (mX10_keepIfDone hq2).1 (mX10_keepIfDone hq2).2 dX10_writes_87 ⟨by decide, by decide, by decide, by decide⟩ rfl (Nat.le_of_ble_eq_true rfl) rfl ⟨rfl, rfl⟩ ?_
  refine go_iload (pc := 90) C 0 dX10_writes_90 rfl ?_
  exact go_iret (w := wIh) (pc := 92) C E ((v4, q2)) v4 dX10_writes_92 rfl
set_option maxHeartbeats 4000000 in
theorem gX10_writes_J69 {Y : YT} {X : XT} (C : CT Y X RX10 cX10_writes 5) (O : RO X 7 0 0) {r : Int32 × AH} (E : RX Y X (some .int) (some (.int r.1)) r.2 0 0) : ∀ (h : AH) (v0 : Nat) (v4 : Int32), GO Y X 5 r h 0 0 69 [(0, .ref v0), (4, .int v4)] [] (fX10_writes_J69 h v0 v4) := by
  intro h v0 v4
  unfold fX10_writes_J69
  refine go_aload_n (pc := 69) C 0 dX10_writes_69 rfl ?_
  refine go_iload (pc := 70) C 1 dX10_writes_70 rfl ?_
  refine go_if_ge (pc := 72) C 82 dX10_writes_72 (by decide) (fun _ => ?_) (fun _ => ?_)
  · refine go_iconst (pc := 82) C dX10_writes_82 ki_1 ?_
    refine go_goto (pc := 83) C 87 dX10_writes_83 (by decide) ?_
    refine go_sub (ls' := [(4, .int v4)]) [1] rfl ?_
    refine gX10_writes_J87 C O E h v4 1 v0
  · refine go_iload (pc := 75) C 1 dX10_writes_75 rfl ?_
    refine go_bipush (pc := 77) C dX10_writes_77 kb_m3 ?_
    refine go_icmp_ne (pc := 79) C 86 dX10_writes_79 (by decide) (fun _ => ?_) (fun _ => ?_)
    · refine go_iconst (pc := 82) C dX10_writes_82 ki_1 ?_
      refine go_goto (pc := 83) C 87 dX10_writes_83 (by decide) ?_
      refine go_sub (ls' := [(4, .int v4)]) [1] rfl ?_
      refine gX10_writes_J87 C O E h v4 1 v0
    · refine go_iconst (pc := 86) C dX10_writes_86 ki_0 ?_
      refine go_sub (ls' := [(4, .int v4)]) [1] rfl ?_
      refine gX10_writes_J87 C O E h v4 0 v0
set_option maxHeartbeats 4000000 in
theorem mX10_writes {h : AH} {a0 : Nat} {a1 : Int32} {a2 : Int32} {a3 : Int32} {r : Int32 × AH} (hr : fX10_writes h a0 a1 a2 a3 = some r) : hasC h 10 a0 = true ∧ MC yX10_writes cX10_writes 5 (some .int) 7 0 0 [.ref a0, .int a1, .int a2, .int a3] h (some (.int r.1)) r.2 := by
  unfold fX10_writes at hr
  obtain ⟨hc, hr⟩ := if_some hr
  refine ⟨hc, mc_of (l0 := [(0, .ref a0), (1, .int a1), (2, .int a2), (3, .int a3)]) rfl pn_X10 (Nat.le_of_ble_eq_true rfl) (fun Y X C E O hnm => go_run hr ?_)⟩
  have C : CT Y X RX10 cX10_writes 5 := C
  refine go_aload_n (pc := 0) C 0 dX10_writes_0 rfl ?_
  refine go_gR (pc := 1) C fdX10_26 dX10_writes_1 (fun x3 => ?_)
  refine go_aload_n (pc := 4) C 0 dX10_writes_4 rfl ?_
  refine go_gR (pc := 5) C fdX10_16 dX10_writes_5 (fun x4 => ?_)
  refine go_bind (fun q5 hq5 => ?_)
  refine go_callV (rest := []) (st' := []) (c' := 0) (s' := 0) (pc := 8) C O miX10_102 mvX2_mark [.ref x4] rfl (mX2_mark hq5).1 (mX2_mark hq5).2 dX10_writes_8 ⟨by decide, by decide, by decide, by decide⟩ rfl (Nat.le_of_ble_eq_true rfl) rfl ⟨rfl, rfl⟩ ?_
  refine go_aload_n (pc := 11) C 0 dX10_writes_11 rfl ?_
  refine go_gR (pc := 12) C fdX10_16 dX10_writes_12 (fun x6 => ?_)
  refine go_iload_n (pc := 15) C 1 dX10_writes_15 rfl ?_
  refine go_iload_n (pc := 16) C 2 dX10_writes_16 rfl ?_
  refine go_iload_n (pc := 17) C 3 dX10_writes_17 rfl ?_
  refine go_aload_n (pc := 18) C 0 dX10_writes_18 rfl ?_
  refine go_gR (pc := 19) C fdX10_33 dX10_writes_19 (fun x7 => ?_)
  refine go_bind (fun q8 hq8 => ?_)
  refine go_callV (rest := []) (st' := [.int q8.1]) (c' := 0) (s' := 0) (pc := 22) C O miX10_220 mvX9_writePage [.int a1, .int a2, .int a3, .ref x7] rfl (mX9_writePage hq8).1 (mX9_writePage hq8).2 dX10_writes_22 ⟨by decide, by decide, by decide, by decide⟩ rfl (Nat.le_of_ble_eq_true rfl) rfl ⟨rfl, rfl⟩ ?_
  refine go_istore (ls' := [(4, .int q8.1), (0, .ref a0), (1, .int a1), (2, .int a2), (3, .int a3)]) (pc := 25) C dX10_writes_25 (by decide) rfl ?_
  refine go_iload (pc := 27) C 0 dX10_writes_27 rfl ?_
  refine go_if_lt (pc := 29) C 69 dX10_writes_29 (by decide) (fun _ => ?_) (fun _ => ?_)
  · refine go_sub (ls' := [(0, .ref a0), (4, .int q8.1)]) [1, 0] rfl ?_
    refine gX10_writes_J69 C O E q8.2 a0 q8.1
  · refine go_aload_n (pc := 32) C 1 dX10_writes_32 rfl ?_
    refine go_gR (pc := 33) C fdX10_50 dX10_writes_33 (fun x9 => ?_)
    refine go_bind (fun q10 hq10 => ?_)
    refine go_callV (rest := []) (st' := []) (c' := 0) (s' := 0) (pc := 36) C O miX10_209 mvX5_clear [] rfl (mX5_clear hq10).1 (mX5_clear hq10).2 dX10_writes_36 ⟨by decide, by decide, by decide, by decide⟩ rfl (Nat.le_of_ble_eq_true rfl) rfl ⟨rfl, rfl⟩ ?_
    refine go_aload_n (pc := 39) C 1 dX10_writes_39 rfl ?_
    refine go_gR (pc := 40) C fdX10_50 dX10_writes_40 (fun x11 => ?_)
    refine go_aload_n (pc := 43) C 1 dX10_writes_43 rfl ?_
    refine go_gR (pc := 44) C fdX10_16 dX10_writes_44 (fun x12 => ?_)
    refine go_bind (fun q13 hq13 => ?_)
    refine go_callV (rest := [.ref x11]) (st' := [.int q13, .ref x11]) (c' := 0) (s' := 0) (pc := 47) C O miX10_96 mvX9_frameTotal [] rfl (mX9_frameTotal hq13).1 (mX9_frameTotal hq13).2 dX10_writes_47 ⟨by decide, by decide, by decide, by decide⟩ rfl (Nat.le_of_ble_eq_true rfl) rfl ⟨rfl, rfl⟩ ?_
    refine go_i2l (pc := 50) C dX10_writes_50 ?_
    refine go_bind (fun q14 hq14 => ?_)
    refine go_callV (rest := []) (st' := []) (c' := 0) (s' := 0) (pc := 51) C O miX10_212 mvX5_add [.long (Int32.toInt64 q13)] rfl (mX5_add hq14).1 (mX5_add hq14).2 dX10_writes_51 ⟨by decide, by decide, by decide, by decide⟩ rfl (Nat.le_of_ble_eq_true rfl) rfl ⟨rfl, rfl⟩ ?_
    refine go_aload_n (pc := 54) C 1 dX10_writes_54 rfl ?_
    refine go_gR (pc := 55) C fdX10_50 dX10_writes_55 (fun x15 => ?_)
    refine go_aload_n (pc := 58) C 1 dX10_writes_58 rfl ?_
    refine go_gR (pc := 59) C fdX10_16 dX10_writes_59 (fun x16 => ?_)
    refine go_bind (fun q17 hq17 => ?_)
    refine go_callV (rest := [.ref x15]) (st' := [.int q17, .ref x15]) (c' := 0) (s' := 0) (pc := 62) C O miX10_93 mvX9_objectTotal [] rfl (mX9_objectTotal hq17).1 (mX9_objectTotal hq17).2 dX10_writes_62 ⟨by decide, by decide, by decide, by decide⟩ rfl (Nat.le_of_ble_eq_true rfl) rfl ⟨rfl, rfl⟩ ?_
    refine go_i2l (pc := 65) C dX10_writes_65 ?_
    refine go_bind (fun q18 hq18 => ?_)
    refine go_callV (rest := []) (st' := []) (c' := 0) (s' := 0) (pc := 66) C O miX10_212 mvX5_add [.long (Int32.toInt64 q17)] rfl (mX5_add hq18).1 (mX5_add hq18).2 dX10_writes_66 ⟨by decide, by decide, by decide, by decide⟩ rfl (Nat.le_of_ble_eq_true rfl) rfl ⟨rfl, rfl⟩ ?_
    refine go_sub (ls' := [(0, .ref a0), (4, .int q8.1)]) [1, 0] rfl ?_
    refine gX10_writes_J69 C O E q18 a0 q8.1
theorem dX10_forks_0 : decode cX10_forks 0 = .ok (.aload_n 0, 1) := by decide +kernel
theorem dX10_forks_1 : decode cX10_forks 1 = .ok (.getfield 26, 3) := by decide +kernel
theorem dX10_forks_4 : decode cX10_forks 4 = .ok (.aload_n 0, 1) := by decide +kernel
theorem dX10_forks_5 : decode cX10_forks 5 = .ok (.getfield 16, 3) := by decide +kernel
theorem dX10_forks_8 : decode cX10_forks 8 = .ok (.invokevirtual 102, 3) := by decide +kernel
theorem dX10_forks_11 : decode cX10_forks 11 = .ok (.aload_n 0, 1) := by decide +kernel
theorem dX10_forks_12 : decode cX10_forks 12 = .ok (.getfield 16, 3) := by decide +kernel
theorem dX10_forks_15 : decode cX10_forks 15 = .ok (.iload_n 1, 1) := by decide +kernel
theorem dX10_forks_16 : decode cX10_forks 16 = .ok (.invokevirtual 224, 3) := by decide +kernel
theorem dX10_forks_19 : decode cX10_forks 19 = .ok (.istore_n 2, 1) := by decide +kernel
theorem dX10_forks_20 : decode cX10_forks 20 = .ok (.aload_n 0, 1) := by decide +kernel
theorem dX10_forks_21 : decode cX10_forks 21 = .ok (.iload_n 2, 1) := by decide +kernel
theorem dX10_forks_22 : decode cX10_forks 22 = .ok (.ifCond .lt 7, 3) := by decide +kernel
theorem dX10_forks_25 : decode cX10_forks 25 = .ok (.iconst 1, 1) := by decide +kernel
theorem dX10_forks_26 : decode cX10_forks 26 = .ok (.goto 4, 3) := by decide +kernel
theorem dX10_forks_29 : decode cX10_forks 29 = .ok (.iconst 0, 1) := by decide +kernel
theorem dX10_forks_30 : decode cX10_forks 30 = .ok (.invokevirtual 216, 3) := by decide +kernel
theorem dX10_forks_33 : decode cX10_forks 33 = .ok (.iload_n 2, 1) := by decide +kernel
theorem dX10_forks_34 : decode cX10_forks 34 = .ok (.ireturn, 1) := by decide +kernel
def fX10_forks_J30 (h : AH) (v2 : Int32) (s0 : Int32) (s1 : Nat) : Option (Int32 × AH) :=
    (i2z s0).bind fun x1 =>
    (fX10_keepIfDone h s1 x1).bind fun q2 =>
    some ((v2, q2))
def fX10_forks (h : AH) (a0 : Nat) (a1 : Int32) : Option (Int32 × AH) :=
  if hasC h 10 a0 = true then (
    (gR h 10 a0 4).bind fun x3 =>
    (gR h 10 a0 2).bind fun x4 =>
    (fX2_mark h x3 x4).bind fun q5 =>
    (gR q5 10 a0 2).bind fun x6 =>
    (fX9_forkSpace q5 x6 a1).bind fun q7 =>
    if q7.1 < 0 then (
      fX10_forks_J30 q7.2 q7.1 0 a0
    ) else (
      fX10_forks_J30 q7.2 q7.1 1 a0
    )
  ) else none
set_option maxHeartbeats 4000000 in
theorem gX10_forks_J30 {Y : YT} {X : XT} (C : CT Y X RX10 cX10_forks 3) (O : RO X 6 0 0) {r : Int32 × AH} (E : RX Y X (some .int) (some (.int r.1)) r.2 0 0) : ∀ (h : AH) (v2 : Int32) (s0 : Int32) (s1 : Nat), GO Y X 3 r h 0 0 30 [(2, .int v2)] [.int s0, .ref s1] (fX10_forks_J30 h v2 s0 s1) := by
  intro h v2 s0 s1
  unfold fX10_forks_J30
  refine go_i2z (fun x1 hzx1 => ?_)
  rw [hzx1]
  refine go_bind (fun q2 hq2 => ?_)
  refine go_callV (rest := []) (st' := []) (c' := 0) (s' := 0) (pc := 30) C O miX10_216 mvX10_keepIfDone [.int (b2i x1)] rfl (mX10_keepIfDone hq2).1 (mX10_keepIfDone hq2).2 dX10_forks_30 ⟨by decide, by decide, by decide, by decide⟩ rfl (Nat.le_of_ble_eq_true rfl) rfl ⟨rfl, rfl⟩ ?_
  refine go_iload_n (pc := 33) C 0 dX10_forks_33 rfl ?_
  exact go_iret (w := wIh) (pc := 34) C E ((v2, q2)) v2 dX10_forks_34 rfl
set_option maxHeartbeats 4000000 in
theorem mX10_forks {h : AH} {a0 : Nat} {a1 : Int32} {r : Int32 × AH} (hr : fX10_forks h a0 a1 = some r) : hasC h 10 a0 = true ∧ MC yX10_forks cX10_forks 3 (some .int) 6 0 0 [.ref a0, .int a1] h (some (.int r.1)) r.2 := by
  unfold fX10_forks at hr
  obtain ⟨hc, hr⟩ := if_some hr
  refine ⟨hc, mc_of (l0 := [(0, .ref a0), (1, .int a1)]) rfl pn_X10 (Nat.le_of_ble_eq_true rfl) (fun Y X C E O hnm => go_run hr ?_)⟩
  have C : CT Y X RX10 cX10_forks 3 := C
  refine go_aload_n (pc := 0) C 0 dX10_forks_0 rfl ?_
  refine go_gR (pc := 1) C fdX10_26 dX10_forks_1 (fun x3 => ?_)
  refine go_aload_n (pc := 4) C 0 dX10_forks_4 rfl ?_
  refine go_gR (pc := 5) C fdX10_16 dX10_forks_5 (fun x4 => ?_)
  refine go_bind (fun q5 hq5 => ?_)
  refine go_callV (rest := []) (st' := []) (c' := 0) (s' := 0) (pc := 8) C O miX10_102 mvX2_mark [.ref x4] rfl (mX2_mark hq5).1 (mX2_mark hq5).2 dX10_forks_8 ⟨by decide, by decide, by decide, by decide⟩ rfl (Nat.le_of_ble_eq_true rfl) rfl ⟨rfl, rfl⟩ ?_
  refine go_aload_n (pc := 11) C 0 dX10_forks_11 rfl ?_
  refine go_gR (pc := 12) C fdX10_16 dX10_forks_12 (fun x6 => ?_)
  refine go_iload_n (pc := 15) C 1 dX10_forks_15 rfl ?_
  refine go_bind (fun q7 hq7 => ?_)
  refine go_callV (rest := []) (st' := [.int q7.1]) (c' := 0) (s' := 0) (pc := 16) C O miX10_224 mvX9_forkSpace [.int a1] rfl (mX9_forkSpace hq7).1 (mX9_forkSpace hq7).2 dX10_forks_16 ⟨by decide, by decide, by decide, by decide⟩ rfl (Nat.le_of_ble_eq_true rfl) rfl ⟨rfl, rfl⟩ ?_
  refine go_istore_n (ls' := [(2, .int q7.1), (0, .ref a0), (1, .int a1)]) (pc := 19) C dX10_forks_19 (by decide) rfl ?_
  refine go_aload_n (pc := 20) C 1 dX10_forks_20 rfl ?_
  refine go_iload_n (pc := 21) C 0 dX10_forks_21 rfl ?_
  refine go_if_lt (pc := 22) C 29 dX10_forks_22 (by decide) (fun _ => ?_) (fun _ => ?_)
  · refine go_iconst (pc := 29) C dX10_forks_29 ki_0 ?_
    refine go_sub (ls' := [(2, .int q7.1)]) [0] rfl ?_
    refine gX10_forks_J30 C O E q7.2 q7.1 0 a0
  · refine go_iconst (pc := 25) C dX10_forks_25 ki_1 ?_
    refine go_goto (pc := 26) C 30 dX10_forks_26 (by decide) ?_
    refine go_sub (ls' := [(2, .int q7.1)]) [0] rfl ?_
    refine gX10_forks_J30 C O E q7.2 q7.1 1 a0
theorem dX10_ends_0 : decode cX10_ends 0 = .ok (.aload_n 0, 1) := by decide +kernel
theorem dX10_ends_1 : decode cX10_ends 1 = .ok (.getfield 26, 3) := by decide +kernel
theorem dX10_ends_4 : decode cX10_ends 4 = .ok (.aload_n 0, 1) := by decide +kernel
theorem dX10_ends_5 : decode cX10_ends 5 = .ok (.getfield 16, 3) := by decide +kernel
theorem dX10_ends_8 : decode cX10_ends 8 = .ok (.invokevirtual 102, 3) := by decide +kernel
theorem dX10_ends_11 : decode cX10_ends 11 = .ok (.aload_n 0, 1) := by decide +kernel
theorem dX10_ends_12 : decode cX10_ends 12 = .ok (.getfield 16, 3) := by decide +kernel
theorem dX10_ends_15 : decode cX10_ends 15 = .ok (.iload_n 1, 1) := by decide +kernel
theorem dX10_ends_16 : decode cX10_ends 16 = .ok (.invokevirtual 227, 3) := by decide +kernel
theorem dX10_ends_19 : decode cX10_ends 19 = .ok (.istore_n 2, 1) := by decide +kernel
theorem dX10_ends_20 : decode cX10_ends 20 = .ok (.aload_n 0, 1) := by decide +kernel
theorem dX10_ends_21 : decode cX10_ends 21 = .ok (.iload_n 2, 1) := by decide +kernel
theorem dX10_ends_22 : decode cX10_ends 22 = .ok (.ifCond .lt 7, 3) := by decide +kernel
theorem dX10_ends_25 : decode cX10_ends 25 = .ok (.iconst 1, 1) := by decide +kernel
theorem dX10_ends_26 : decode cX10_ends 26 = .ok (.goto 4, 3) := by decide +kernel
theorem dX10_ends_29 : decode cX10_ends 29 = .ok (.iconst 0, 1) := by decide +kernel
theorem dX10_ends_30 : decode cX10_ends 30 = .ok (.invokevirtual 216, 3) := by decide +kernel
theorem dX10_ends_33 : decode cX10_ends 33 = .ok (.iload_n 2, 1) := by decide +kernel
theorem dX10_ends_34 : decode cX10_ends 34 = .ok (.ireturn, 1) := by decide +kernel
def fX10_ends_J30 (h : AH) (v2 : Int32) (s0 : Int32) (s1 : Nat) : Option (Int32 × AH) :=
    (i2z s0).bind fun x1 =>
    (fX10_keepIfDone h s1 x1).bind fun q2 =>
    some ((v2, q2))
def fX10_ends (h : AH) (a0 : Nat) (a1 : Int32) : Option (Int32 × AH) :=
  if hasC h 10 a0 = true then (
    (gR h 10 a0 4).bind fun x3 =>
    (gR h 10 a0 2).bind fun x4 =>
    (fX2_mark h x3 x4).bind fun q5 =>
    (gR q5 10 a0 2).bind fun x6 =>
    (fX9_endSpace q5 x6 a1).bind fun q7 =>
    if q7.1 < 0 then (
      fX10_ends_J30 q7.2 q7.1 0 a0
    ) else (
      fX10_ends_J30 q7.2 q7.1 1 a0
    )
  ) else none
set_option maxHeartbeats 4000000 in
theorem gX10_ends_J30 {Y : YT} {X : XT} (C : CT Y X RX10 cX10_ends 3) (O : RO X 5 0 0) {r : Int32 × AH} (E : RX Y X (some .int) (some (.int r.1)) r.2 0 0) : ∀ (h : AH) (v2 : Int32) (s0 : Int32) (s1 : Nat), GO Y X 3 r h 0 0 30 [(2, .int v2)] [.int s0, .ref s1] (fX10_ends_J30 h v2 s0 s1) := by
  intro h v2 s0 s1
  unfold fX10_ends_J30
  refine go_i2z (fun x1 hzx1 => ?_)
  rw [hzx1]
  refine go_bind (fun q2 hq2 => ?_)
  refine go_callV (rest := []) (st' := []) (c' := 0) (s' := 0) (pc := 30) C O miX10_216 mvX10_keepIfDone [.int (b2i x1)] rfl (mX10_keepIfDone hq2).1 (mX10_keepIfDone hq2).2 dX10_ends_30 ⟨by decide, by decide, by decide, by decide⟩ rfl (Nat.le_of_ble_eq_true rfl) rfl ⟨rfl, rfl⟩ ?_
  refine go_iload_n (pc := 33) C 0 dX10_ends_33 rfl ?_
  exact go_iret (w := wIh) (pc := 34) C E ((v2, q2)) v2 dX10_ends_34 rfl
set_option maxHeartbeats 4000000 in
theorem mX10_ends {h : AH} {a0 : Nat} {a1 : Int32} {r : Int32 × AH} (hr : fX10_ends h a0 a1 = some r) : hasC h 10 a0 = true ∧ MC yX10_ends cX10_ends 3 (some .int) 5 0 0 [.ref a0, .int a1] h (some (.int r.1)) r.2 := by
  unfold fX10_ends at hr
  obtain ⟨hc, hr⟩ := if_some hr
  refine ⟨hc, mc_of (l0 := [(0, .ref a0), (1, .int a1)]) rfl pn_X10 (Nat.le_of_ble_eq_true rfl) (fun Y X C E O hnm => go_run hr ?_)⟩
  have C : CT Y X RX10 cX10_ends 3 := C
  refine go_aload_n (pc := 0) C 0 dX10_ends_0 rfl ?_
  refine go_gR (pc := 1) C fdX10_26 dX10_ends_1 (fun x3 => ?_)
  refine go_aload_n (pc := 4) C 0 dX10_ends_4 rfl ?_
  refine go_gR (pc := 5) C fdX10_16 dX10_ends_5 (fun x4 => ?_)
  refine go_bind (fun q5 hq5 => ?_)
  refine go_callV (rest := []) (st' := []) (c' := 0) (s' := 0) (pc := 8) C O miX10_102 mvX2_mark [.ref x4] rfl (mX2_mark hq5).1 (mX2_mark hq5).2 dX10_ends_8 ⟨by decide, by decide, by decide, by decide⟩ rfl (Nat.le_of_ble_eq_true rfl) rfl ⟨rfl, rfl⟩ ?_
  refine go_aload_n (pc := 11) C 0 dX10_ends_11 rfl ?_
  refine go_gR (pc := 12) C fdX10_16 dX10_ends_12 (fun x6 => ?_)
  refine go_iload_n (pc := 15) C 1 dX10_ends_15 rfl ?_
  refine go_bind (fun q7 hq7 => ?_)
  refine go_callV (rest := []) (st' := [.int q7.1]) (c' := 0) (s' := 0) (pc := 16) C O miX10_227 mvX9_endSpace [.int a1] rfl (mX9_endSpace hq7).1 (mX9_endSpace hq7).2 dX10_ends_16 ⟨by decide, by decide, by decide, by decide⟩ rfl (Nat.le_of_ble_eq_true rfl) rfl ⟨rfl, rfl⟩ ?_
  refine go_istore_n (ls' := [(2, .int q7.1), (0, .ref a0), (1, .int a1)]) (pc := 19) C dX10_ends_19 (by decide) rfl ?_
  refine go_aload_n (pc := 20) C 1 dX10_ends_20 rfl ?_
  refine go_iload_n (pc := 21) C 0 dX10_ends_21 rfl ?_
  refine go_if_lt (pc := 22) C 29 dX10_ends_22 (by decide) (fun _ => ?_) (fun _ => ?_)
  · refine go_iconst (pc := 29) C dX10_ends_29 ki_0 ?_
    refine go_sub (ls' := [(2, .int q7.1)]) [0] rfl ?_
    refine gX10_ends_J30 C O E q7.2 q7.1 0 a0
  · refine go_iconst (pc := 25) C dX10_ends_25 ki_1 ?_
    refine go_goto (pc := 26) C 30 dX10_ends_26 (by decide) ?_
    refine go_sub (ls' := [(2, .int q7.1)]) [0] rfl ?_
    refine gX10_ends_J30 C O E q7.2 q7.1 1 a0
theorem dX10_arrives_0 : decode cX10_arrives 0 = .ok (.aload_n 0, 1) := by decide +kernel
theorem dX10_arrives_1 : decode cX10_arrives 1 = .ok (.getfield 26, 3) := by decide +kernel
theorem dX10_arrives_4 : decode cX10_arrives 4 = .ok (.aload_n 0, 1) := by decide +kernel
theorem dX10_arrives_5 : decode cX10_arrives 5 = .ok (.getfield 16, 3) := by decide +kernel
theorem dX10_arrives_8 : decode cX10_arrives 8 = .ok (.invokevirtual 102, 3) := by decide +kernel
theorem dX10_arrives_11 : decode cX10_arrives 11 = .ok (.aload_n 0, 1) := by decide +kernel
theorem dX10_arrives_12 : decode cX10_arrives 12 = .ok (.getfield 16, 3) := by decide +kernel
theorem dX10_arrives_15 : decode cX10_arrives 15 = .ok (.iload_n 1, 1) := by decide +kernel
theorem dX10_arrives_16 : decode cX10_arrives 16 = .ok (.iload_n 2, 1) := by decide +kernel
theorem dX10_arrives_17 : decode cX10_arrives 17 = .ok (.iload_n 3, 1) := by decide +kernel
theorem dX10_arrives_18 : decode cX10_arrives 18 = .ok (.invokevirtual 230, 3) := by decide +kernel
theorem dX10_arrives_21 : decode cX10_arrives 21 = .ok (.istore 4, 2) := by decide +kernel
theorem dX10_arrives_23 : decode cX10_arrives 23 = .ok (.aload_n 0, 1) := by decide +kernel
theorem dX10_arrives_24 : decode cX10_arrives 24 = .ok (.iload 4, 2) := by decide +kernel
theorem dX10_arrives_26 : decode cX10_arrives 26 = .ok (.ifCond .lt 7, 3) := by decide +kernel
theorem dX10_arrives_29 : decode cX10_arrives 29 = .ok (.iconst 1, 1) := by decide +kernel
theorem dX10_arrives_30 : decode cX10_arrives 30 = .ok (.goto 4, 3) := by decide +kernel
theorem dX10_arrives_33 : decode cX10_arrives 33 = .ok (.iconst 0, 1) := by decide +kernel
theorem dX10_arrives_34 : decode cX10_arrives 34 = .ok (.invokevirtual 216, 3) := by decide +kernel
theorem dX10_arrives_37 : decode cX10_arrives 37 = .ok (.iload 4, 2) := by decide +kernel
theorem dX10_arrives_39 : decode cX10_arrives 39 = .ok (.ireturn, 1) := by decide +kernel
def fX10_arrives_J34 (h : AH) (v4 : Int32) (s0 : Int32) (s1 : Nat) : Option (Int32 × AH) :=
    (i2z s0).bind fun x1 =>
    (fX10_keepIfDone h s1 x1).bind fun q2 =>
    some ((v4, q2))
def fX10_arrives (h : AH) (a0 : Nat) (a1 : Int32) (a2 : Int32) (a3 : Int32) : Option (Int32 × AH) :=
  if hasC h 10 a0 = true then (
    (gR h 10 a0 4).bind fun x3 =>
    (gR h 10 a0 2).bind fun x4 =>
    (fX2_mark h x3 x4).bind fun q5 =>
    (gR q5 10 a0 2).bind fun x6 =>
    (fX9_arrivePage q5 x6 a1 a2 a3).bind fun q7 =>
    if q7.1 < 0 then (
      fX10_arrives_J34 q7.2 q7.1 0 a0
    ) else (
      fX10_arrives_J34 q7.2 q7.1 1 a0
    )
  ) else none
set_option maxHeartbeats 4000000 in
theorem gX10_arrives_J34 {Y : YT} {X : XT} (C : CT Y X RX10 cX10_arrives 5) (O : RO X 4 0 0) {r : Int32 × AH} (E : RX Y X (some .int) (some (.int r.1)) r.2 0 0) : ∀ (h : AH) (v4 : Int32) (s0 : Int32) (s1 : Nat), GO Y X 5 r h 0 0 34 [(4, .int v4)] [.int s0, .ref s1] (fX10_arrives_J34 h v4 s0 s1) := by
  intro h v4 s0 s1
  unfold fX10_arrives_J34
  refine go_i2z (fun x1 hzx1 => ?_)
  rw [hzx1]
  refine go_bind (fun q2 hq2 => ?_)
  refine go_callV (rest := []) (st' := []) (c' := 0) (s' := 0) (pc := 34) C O miX10_216 mvX10_keepIfDone [.int (b2i x1)] rfl (mX10_keepIfDone hq2).1 (mX10_keepIfDone hq2).2 dX10_arrives_34 ⟨by decide, by decide, by decide, by decide⟩ rfl (Nat.le_of_ble_eq_true rfl) rfl ⟨rfl, rfl⟩ ?_
  refine go_iload (pc := 37) C 0 dX10_arrives_37 rfl ?_
  exact go_iret (w := wIh) (pc := 39) C E ((v4, q2)) v4 dX10_arrives_39 rfl
set_option maxHeartbeats 4000000 in
theorem mX10_arrives {h : AH} {a0 : Nat} {a1 : Int32} {a2 : Int32} {a3 : Int32} {r : Int32 × AH} (hr : fX10_arrives h a0 a1 a2 a3 = some r) : hasC h 10 a0 = true ∧ MC yX10_arrives cX10_arrives 5 (some .int) 4 0 0 [.ref a0, .int a1, .int a2, .int a3] h (some (.int r.1)) r.2 := by
  unfold fX10_arrives at hr
  obtain ⟨hc, hr⟩ := if_some hr
  refine ⟨hc, mc_of (l0 := [(0, .ref a0), (1, .int a1), (2, .int a2), (3, .int a3)]) rfl pn_X10 (Nat.le_of_ble_eq_true rfl) (fun Y X C E O hnm => go_run hr ?_)⟩
  have C : CT Y X RX10 cX10_arrives 5 := C
  refine go_aload_n (pc := 0) C 0 dX10_arrives_0 rfl ?_
  refine go_gR (pc := 1) C fdX10_26 dX10_arrives_1 (fun x3 => ?_)
  refine go_aload_n (pc := 4) C 0 dX10_arrives_4 rfl ?_
  refine go_gR (pc := 5) C fdX10_16 dX10_arrives_5 (fun x4 => ?_)
  refine go_bind (fun q5 hq5 => ?_)
  refine go_callV (rest := []) (st' := []) (c' := 0) (s' := 0) (pc := 8) C O miX10_102 mvX2_mark [.ref x4] rfl (mX2_mark hq5).1 (mX2_mark hq5).2 dX10_arrives_8 ⟨by decide, by decide, by decide, by decide⟩ rfl (Nat.le_of_ble_eq_true rfl) rfl ⟨rfl, rfl⟩ ?_
  refine go_aload_n (pc := 11) C 0 dX10_arrives_11 rfl ?_
  refine go_gR (pc := 12) C fdX10_16 dX10_arrives_12 (fun x6 => ?_)
  refine go_iload_n (pc := 15) C 1 dX10_arrives_15 rfl ?_
  refine go_iload_n (pc := 16) C 2 dX10_arrives_16 rfl ?_
  refine go_iload_n (pc := 17) C 3 dX10_arrives_17 rfl ?_
  refine go_bind (fun q7 hq7 => ?_)
  refine go_callV (rest := []) (st' := [.int q7.1]) (c' := 0) (s' := 0) (pc := 18) C O miX10_230 mvX9_arrivePage [.int a1, .int a2, .int a3] rfl (mX9_arrivePage hq7).1 (mX9_arrivePage hq7).2 dX10_arrives_18 ⟨by decide, by decide, by decide, by decide⟩ rfl (Nat.le_of_ble_eq_true rfl) rfl ⟨rfl, rfl⟩ ?_
  refine go_istore (ls' := [(4, .int q7.1), (0, .ref a0), (1, .int a1), (2, .int a2), (3, .int a3)]) (pc := 21) C dX10_arrives_21 (by decide) rfl ?_
  refine go_aload_n (pc := 23) C 1 dX10_arrives_23 rfl ?_
  refine go_iload (pc := 24) C 0 dX10_arrives_24 rfl ?_
  refine go_if_lt (pc := 26) C 33 dX10_arrives_26 (by decide) (fun _ => ?_) (fun _ => ?_)
  · refine go_iconst (pc := 33) C dX10_arrives_33 ki_0 ?_
    refine go_sub (ls' := [(4, .int q7.1)]) [0] rfl ?_
    refine gX10_arrives_J34 C O E q7.2 q7.1 0 a0
  · refine go_iconst (pc := 29) C dX10_arrives_29 ki_1 ?_
    refine go_goto (pc := 30) C 34 dX10_arrives_30 (by decide) ?_
    refine go_sub (ls' := [(4, .int q7.1)]) [0] rfl ?_
    refine gX10_arrives_J34 C O E q7.2 q7.1 1 a0
theorem dX10_tellTidying_0 : decode cX10_tellTidying 0 = .ok (.aload_n 0, 1) := by decide +kernel
theorem dX10_tellTidying_1 : decode cX10_tellTidying 1 = .ok (.getfield 50, 3) := by decide +kernel
theorem dX10_tellTidying_4 : decode cX10_tellTidying 4 = .ok (.invokevirtual 209, 3) := by decide +kernel
theorem dX10_tellTidying_7 : decode cX10_tellTidying 7 = .ok (.aload_n 0, 1) := by decide +kernel
theorem dX10_tellTidying_8 : decode cX10_tellTidying 8 = .ok (.getfield 50, 3) := by decide +kernel
theorem dX10_tellTidying_11 : decode cX10_tellTidying 11 = .ok (.aload_n 1, 1) := by decide +kernel
theorem dX10_tellTidying_12 : decode cX10_tellTidying 12 = .ok (.invokevirtual 435, 3) := by decide +kernel
theorem dX10_tellTidying_15 : decode cX10_tellTidying 15 = .ok (.i2l, 1) := by decide +kernel
theorem dX10_tellTidying_16 : decode cX10_tellTidying 16 = .ok (.invokevirtual 212, 3) := by decide +kernel
theorem dX10_tellTidying_19 : decode cX10_tellTidying 19 = .ok (.aload_n 0, 1) := by decide +kernel
theorem dX10_tellTidying_20 : decode cX10_tellTidying 20 = .ok (.getfield 50, 3) := by decide +kernel
theorem dX10_tellTidying_23 : decode cX10_tellTidying 23 = .ok (.aload_n 1, 1) := by decide +kernel
theorem dX10_tellTidying_24 : decode cX10_tellTidying 24 = .ok (.invokevirtual 438, 3) := by decide +kernel
theorem dX10_tellTidying_27 : decode cX10_tellTidying 27 = .ok (.i2l, 1) := by decide +kernel
theorem dX10_tellTidying_28 : decode cX10_tellTidying 28 = .ok (.invokevirtual 212, 3) := by decide +kernel
theorem dX10_tellTidying_31 : decode cX10_tellTidying 31 = .ok (.aload_n 0, 1) := by decide +kernel
theorem dX10_tellTidying_32 : decode cX10_tellTidying 32 = .ok (.getfield 50, 3) := by decide +kernel
theorem dX10_tellTidying_35 : decode cX10_tellTidying 35 = .ok (.aload_n 1, 1) := by decide +kernel
theorem dX10_tellTidying_36 : decode cX10_tellTidying 36 = .ok (.iload_n 2, 1) := by decide +kernel
theorem dX10_tellTidying_37 : decode cX10_tellTidying 37 = .ok (.invokevirtual 151, 3) := by decide +kernel
theorem dX10_tellTidying_40 : decode cX10_tellTidying 40 = .ok (.i2l, 1) := by decide +kernel
theorem dX10_tellTidying_41 : decode cX10_tellTidying 41 = .ok (.invokevirtual 212, 3) := by decide +kernel
theorem dX10_tellTidying_44 : decode cX10_tellTidying 44 = .ok (.return_, 1) := by decide +kernel
def fX10_tellTidying (h : AH) (a0 : Nat) (a1 : Nat) (a2 : Int32) : Option (AH) :=
  if hasC h 10 a0 = true then (
    (gR h 10 a0 8).bind fun x1 =>
    (fX5_clear h x1).bind fun q2 =>
    (gR q2 10 a0 8).bind fun x3 =>
    (fX9_collapseTotal q2 a1).bind fun q4 =>
    (fX5_add q2 x3 (Int32.toInt64 q4)).bind fun q5 =>
    (gR q5 10 a0 8).bind fun x6 =>
    (fX9_bypassTotal q5 a1).bind fun q7 =>
    (fX5_add q5 x6 (Int32.toInt64 q7)).bind fun q8 =>
    (gR q8 10 a0 8).bind fun x9 =>
    (fX9_chainLength q8 a1 a2).bind fun q10 =>
    (fX5_add q8 x9 (Int32.toInt64 q10)).bind fun q11 =>
    some q11
  ) else none
set_option maxHeartbeats 4000000 in
theorem mX10_tellTidying {h : AH} {a0 : Nat} {a1 : Nat} {a2 : Int32} {r : AH} (hr : fX10_tellTidying h a0 a1 a2 = some r) : hasC h 10 a0 = true ∧ MC yX10_tellTidying cX10_tellTidying 3 none 4 0 0 [.ref a0, .ref a1, .int a2] h none r := by
  unfold fX10_tellTidying at hr
  obtain ⟨hc, hr⟩ := if_some hr
  refine ⟨hc, mc_of (l0 := [(0, .ref a0), (1, .ref a1), (2, .int a2)]) rfl pn_X10 (Nat.le_of_ble_eq_true rfl) (fun Y X C E O hnm => go_run hr ?_)⟩
  have C : CT Y X RX10 cX10_tellTidying 3 := C
  refine go_aload_n (pc := 0) C 0 dX10_tellTidying_0 rfl ?_
  refine go_gR (pc := 1) C fdX10_50 dX10_tellTidying_1 (fun x1 => ?_)
  refine go_bind (fun q2 hq2 => ?_)
  refine go_callV (rest := []) (st' := []) (c' := 0) (s' := 0) (pc := 4) C O miX10_209 mvX5_clear [] rfl (mX5_clear hq2).1 (mX5_clear hq2).2 dX10_tellTidying_4 ⟨by decide, by decide, by decide, by decide⟩ rfl (Nat.le_of_ble_eq_true rfl) rfl ⟨rfl, rfl⟩ ?_
  refine go_aload_n (pc := 7) C 0 dX10_tellTidying_7 rfl ?_
  refine go_gR (pc := 8) C fdX10_50 dX10_tellTidying_8 (fun x3 => ?_)
  refine go_aload_n (pc := 11) C 1 dX10_tellTidying_11 rfl ?_
  refine go_bind (fun q4 hq4 => ?_)
  refine go_callV (rest := [.ref x3]) (st' := [.int q4, .ref x3]) (c' := 0) (s' := 0) (pc := 12) C O miX10_435 mvX9_collapseTotal [] rfl (mX9_collapseTotal hq4).1 (mX9_collapseTotal hq4).2 dX10_tellTidying_12 ⟨by decide, by decide, by decide, by decide⟩ rfl (Nat.le_of_ble_eq_true rfl) rfl ⟨rfl, rfl⟩ ?_
  refine go_i2l (pc := 15) C dX10_tellTidying_15 ?_
  refine go_bind (fun q5 hq5 => ?_)
  refine go_callV (rest := []) (st' := []) (c' := 0) (s' := 0) (pc := 16) C O miX10_212 mvX5_add [.long (Int32.toInt64 q4)] rfl (mX5_add hq5).1 (mX5_add hq5).2 dX10_tellTidying_16 ⟨by decide, by decide, by decide, by decide⟩ rfl (Nat.le_of_ble_eq_true rfl) rfl ⟨rfl, rfl⟩ ?_
  refine go_aload_n (pc := 19) C 0 dX10_tellTidying_19 rfl ?_
  refine go_gR (pc := 20) C fdX10_50 dX10_tellTidying_20 (fun x6 => ?_)
  refine go_aload_n (pc := 23) C 1 dX10_tellTidying_23 rfl ?_
  refine go_bind (fun q7 hq7 => ?_)
  refine go_callV (rest := [.ref x6]) (st' := [.int q7, .ref x6]) (c' := 0) (s' := 0) (pc := 24) C O miX10_438 mvX9_bypassTotal [] rfl (mX9_bypassTotal hq7).1 (mX9_bypassTotal hq7).2 dX10_tellTidying_24 ⟨by decide, by decide, by decide, by decide⟩ rfl (Nat.le_of_ble_eq_true rfl) rfl ⟨rfl, rfl⟩ ?_
  refine go_i2l (pc := 27) C dX10_tellTidying_27 ?_
  refine go_bind (fun q8 hq8 => ?_)
  refine go_callV (rest := []) (st' := []) (c' := 0) (s' := 0) (pc := 28) C O miX10_212 mvX5_add [.long (Int32.toInt64 q7)] rfl (mX5_add hq8).1 (mX5_add hq8).2 dX10_tellTidying_28 ⟨by decide, by decide, by decide, by decide⟩ rfl (Nat.le_of_ble_eq_true rfl) rfl ⟨rfl, rfl⟩ ?_
  refine go_aload_n (pc := 31) C 0 dX10_tellTidying_31 rfl ?_
  refine go_gR (pc := 32) C fdX10_50 dX10_tellTidying_32 (fun x9 => ?_)
  refine go_aload_n (pc := 35) C 1 dX10_tellTidying_35 rfl ?_
  refine go_iload_n (pc := 36) C 2 dX10_tellTidying_36 rfl ?_
  refine go_bind (fun q10 hq10 => ?_)
  refine go_callV (rest := [.ref x9]) (st' := [.int q10, .ref x9]) (c' := 0) (s' := 0) (pc := 37) C O miX10_151 mvX9_chainLength [.int a2] rfl (mX9_chainLength hq10).1 (mX9_chainLength hq10).2 dX10_tellTidying_37 ⟨by decide, by decide, by decide, by decide⟩ rfl (Nat.le_of_ble_eq_true rfl) rfl ⟨rfl, rfl⟩ ?_
  refine go_i2l (pc := 40) C dX10_tellTidying_40 ?_
  refine go_bind (fun q11 hq11 => ?_)
  refine go_callV (rest := []) (st' := []) (c' := 0) (s' := 0) (pc := 41) C O miX10_212 mvX5_add [.long (Int32.toInt64 q10)] rfl (mX5_add hq11).1 (mX5_add hq11).2 dX10_tellTidying_41 ⟨by decide, by decide, by decide, by decide⟩ rfl (Nat.le_of_ble_eq_true rfl) rfl ⟨rfl, rfl⟩ ?_
  exact go_vret (w := wV) (pc := 44) C E q11 dX10_tellTidying_44 rfl
theorem dX10_tidies_0 : decode cX10_tidies 0 = .ok (.aload_n 0, 1) := by decide +kernel
theorem dX10_tidies_1 : decode cX10_tidies 1 = .ok (.getfield 26, 3) := by decide +kernel
theorem dX10_tidies_4 : decode cX10_tidies 4 = .ok (.aload_n 0, 1) := by decide +kernel
theorem dX10_tidies_5 : decode cX10_tidies 5 = .ok (.getfield 16, 3) := by decide +kernel
theorem dX10_tidies_8 : decode cX10_tidies 8 = .ok (.invokevirtual 102, 3) := by decide +kernel
theorem dX10_tidies_11 : decode cX10_tidies 11 = .ok (.aload_n 0, 1) := by decide +kernel
theorem dX10_tidies_12 : decode cX10_tidies 12 = .ok (.getfield 16, 3) := by decide +kernel
theorem dX10_tidies_15 : decode cX10_tidies 15 = .ok (.iload_n 1, 1) := by decide +kernel
theorem dX10_tidies_16 : decode cX10_tidies 16 = .ok (.invokevirtual 233, 3) := by decide +kernel
theorem dX10_tidies_19 : decode cX10_tidies 19 = .ok (.istore_n 2, 1) := by decide +kernel
theorem dX10_tidies_20 : decode cX10_tidies 20 = .ok (.iload_n 2, 1) := by decide +kernel
theorem dX10_tidies_21 : decode cX10_tidies 21 = .ok (.ifCond .lt 12, 3) := by decide +kernel
theorem dX10_tidies_24 : decode cX10_tidies 24 = .ok (.aload_n 0, 1) := by decide +kernel
theorem dX10_tidies_25 : decode cX10_tidies 25 = .ok (.aload_n 0, 1) := by decide +kernel
theorem dX10_tidies_26 : decode cX10_tidies 26 = .ok (.getfield 16, 3) := by decide +kernel
theorem dX10_tidies_29 : decode cX10_tidies 29 = .ok (.iload_n 1, 1) := by decide +kernel
theorem dX10_tidies_30 : decode cX10_tidies 30 = .ok (.invokevirtual 236, 3) := by decide +kernel
theorem dX10_tidies_33 : decode cX10_tidies 33 = .ok (.aload_n 0, 1) := by decide +kernel
theorem dX10_tidies_34 : decode cX10_tidies 34 = .ok (.iload_n 2, 1) := by decide +kernel
theorem dX10_tidies_35 : decode cX10_tidies 35 = .ok (.ifCond .lt 7, 3) := by decide +kernel
theorem dX10_tidies_38 : decode cX10_tidies 38 = .ok (.iconst 1, 1) := by decide +kernel
theorem dX10_tidies_39 : decode cX10_tidies 39 = .ok (.goto 4, 3) := by decide +kernel
theorem dX10_tidies_42 : decode cX10_tidies 42 = .ok (.iconst 0, 1) := by decide +kernel
theorem dX10_tidies_43 : decode cX10_tidies 43 = .ok (.invokevirtual 216, 3) := by decide +kernel
theorem dX10_tidies_46 : decode cX10_tidies 46 = .ok (.iload_n 2, 1) := by decide +kernel
theorem dX10_tidies_47 : decode cX10_tidies 47 = .ok (.ireturn, 1) := by decide +kernel
def fX10_tidies_J43 (h : AH) (v2 : Int32) (s0 : Int32) (s1 : Nat) : Option (Int32 × AH) :=
    (i2z s0).bind fun x1 =>
    (fX10_keepIfDone h s1 x1).bind fun q2 =>
    some ((v2, q2))
def fX10_tidies_J33 (h : AH) (v0 : Nat) (v2 : Int32) : Option (Int32 × AH) :=
    if v2 < 0 then (
      fX10_tidies_J43 h v2 0 v0
    ) else (
      fX10_tidies_J43 h v2 1 v0
    )
def fX10_tidies (h : AH) (a0 : Nat) (a1 : Int32) : Option (Int32 × AH) :=
  if hasC h 10 a0 = true then (
    (gR h 10 a0 4).bind fun x3 =>
    (gR h 10 a0 2).bind fun x4 =>
    (fX2_mark h x3 x4).bind fun q5 =>
    (gR q5 10 a0 2).bind fun x6 =>
    (fX9_tidyChain q5 x6 a1).bind fun q7 =>
    if q7.1 < 0 then (
      fX10_tidies_J33 q7.2 a0 q7.1
    ) else (
      (gR q7.2 10 a0 2).bind fun x8 =>
      (fX10_tellTidying q7.2 a0 x8 a1).bind fun q9 =>
      fX10_tidies_J33 q9 a0 q7.1
    )
  ) else none
set_option maxHeartbeats 4000000 in
theorem gX10_tidies_J43 {Y : YT} {X : XT} (C : CT Y X RX10 cX10_tidies 3) (O : RO X 6 0 0) {r : Int32 × AH} (E : RX Y X (some .int) (some (.int r.1)) r.2 0 0) : ∀ (h : AH) (v2 : Int32) (s0 : Int32) (s1 : Nat), GO Y X 3 r h 0 0 43 [(2, .int v2)] [.int s0, .ref s1] (fX10_tidies_J43 h v2 s0 s1) := by
  intro h v2 s0 s1
  unfold fX10_tidies_J43
  refine go_i2z (fun x1 hzx1 => ?_)
  rw [hzx1]
  refine go_bind (fun q2 hq2 => ?_)
  refine go_callV (rest := []) (st' := []) (c' := 0) (s' := 0) (pc := 43) C O miX10_216 mvX10_keepIfDone [.int (b2i x1)] rfl (mX10_keepIfDone hq2).1 (mX10_keepIfDone hq2).2 dX10_tidies_43 ⟨by decide, by decide, by decide, by decide⟩ rfl (Nat.le_of_ble_eq_true rfl) rfl ⟨rfl, rfl⟩ ?_
  refine go_iload_n (pc := 46) C 0 dX10_tidies_46 rfl ?_
  exact go_iret (w := wIh) (pc := 47) C E ((v2, q2)) v2 dX10_tidies_47 rfl
set_option maxHeartbeats 4000000 in
theorem gX10_tidies_J33 {Y : YT} {X : XT} (C : CT Y X RX10 cX10_tidies 3) (O : RO X 6 0 0) {r : Int32 × AH} (E : RX Y X (some .int) (some (.int r.1)) r.2 0 0) : ∀ (h : AH) (v0 : Nat) (v2 : Int32), GO Y X 3 r h 0 0 33 [(0, .ref v0), (2, .int v2)] [] (fX10_tidies_J33 h v0 v2) := by
  intro h v0 v2
  unfold fX10_tidies_J33
  refine go_aload_n (pc := 33) C 0 dX10_tidies_33 rfl ?_
  refine go_iload_n (pc := 34) C 1 dX10_tidies_34 rfl ?_
  refine go_if_lt (pc := 35) C 42 dX10_tidies_35 (by decide) (fun _ => ?_) (fun _ => ?_)
  · refine go_iconst (pc := 42) C dX10_tidies_42 ki_0 ?_
    refine go_sub (ls' := [(2, .int v2)]) [1] rfl ?_
    refine gX10_tidies_J43 C O E h v2 0 v0
  · refine go_iconst (pc := 38) C dX10_tidies_38 ki_1 ?_
    refine go_goto (pc := 39) C 43 dX10_tidies_39 (by decide) ?_
    refine go_sub (ls' := [(2, .int v2)]) [1] rfl ?_
    refine gX10_tidies_J43 C O E h v2 1 v0
set_option maxHeartbeats 4000000 in
theorem mX10_tidies {h : AH} {a0 : Nat} {a1 : Int32} {r : Int32 × AH} (hr : fX10_tidies h a0 a1 = some r) : hasC h 10 a0 = true ∧ MC yX10_tidies cX10_tidies 3 (some .int) 6 0 0 [.ref a0, .int a1] h (some (.int r.1)) r.2 := by
  unfold fX10_tidies at hr
  obtain ⟨hc, hr⟩ := if_some hr
  refine ⟨hc, mc_of (l0 := [(0, .ref a0), (1, .int a1)]) rfl pn_X10 (Nat.le_of_ble_eq_true rfl) (fun Y X C E O hnm => go_run hr ?_)⟩
  have C : CT Y X RX10 cX10_tidies 3 := C
  refine go_aload_n (pc := 0) C 0 dX10_tidies_0 rfl ?_
  refine go_gR (pc := 1) C fdX10_26 dX10_tidies_1 (fun x3 => ?_)
  refine go_aload_n (pc := 4) C 0 dX10_tidies_4 rfl ?_
  refine go_gR (pc := 5) C fdX10_16 dX10_tidies_5 (fun x4 => ?_)
  refine go_bind (fun q5 hq5 => ?_)
  refine go_callV (rest := []) (st' := []) (c' := 0) (s' := 0) (pc := 8) C O miX10_102 mvX2_mark [.ref x4] rfl (mX2_mark hq5).1 (mX2_mark hq5).2 dX10_tidies_8 ⟨by decide, by decide, by decide, by decide⟩ rfl (Nat.le_of_ble_eq_true rfl) rfl ⟨rfl, rfl⟩ ?_
  refine go_aload_n (pc := 11) C 0 dX10_tidies_11 rfl ?_
  refine go_gR (pc := 12) C fdX10_16 dX10_tidies_12 (fun x6 => ?_)
  refine go_iload_n (pc := 15) C 1 dX10_tidies_15 rfl ?_
  refine go_bind (fun q7 hq7 => ?_)
  refine go_callV (rest := []) (st' := [.int q7.1]) (c' := 0) (s' := 0) (pc := 16) C O miX10_233 mvX9_tidyChain [.int a1] rfl (mX9_tidyChain hq7).1 (mX9_tidyChain hq7).2 dX10_tidies_16 ⟨by decide, by decide, by decide, by decide⟩ rfl (Nat.le_of_ble_eq_true rfl) rfl ⟨rfl, rfl⟩ ?_
  refine go_istore_n (ls' := [(2, .int q7.1), (0, .ref a0), (1, .int a1)]) (pc := 19) C dX10_tidies_19 (by decide) rfl ?_
  refine go_iload_n (pc := 20) C 0 dX10_tidies_20 rfl ?_
  refine go_if_lt (pc := 21) C 33 dX10_tidies_21 (by decide) (fun _ => ?_) (fun _ => ?_)
  · refine go_sub (ls' := [(0, .ref a0), (2, .int q7.1)]) [1, 0] rfl ?_
    refine gX10_tidies_J33 C O E q7.2 a0 q7.1
  · refine go_aload_n (pc := 24) C 1 dX10_tidies_24 rfl ?_
    refine go_aload_n (pc := 25) C 1 dX10_tidies_25 rfl ?_
    refine go_gR (pc := 26) C fdX10_16 dX10_tidies_26 (fun x8 => ?_)
    refine go_iload_n (pc := 29) C 2 dX10_tidies_29 rfl ?_
    refine go_bind (fun q9 hq9 => ?_)
    refine go_callV (rest := []) (st' := []) (c' := 0) (s' := 0) (pc := 30) C O miX10_236 mvX10_tellTidying [.ref x8, .int a1] rfl (mX10_tellTidying hq9).1 (mX10_tellTidying hq9).2 dX10_tidies_30 ⟨by decide, by decide, by decide, by decide⟩ rfl (Nat.le_of_ble_eq_true rfl) rfl ⟨rfl, rfl⟩ ?_
    refine go_sub (ls' := [(0, .ref a0), (2, .int q7.1)]) [1, 0] rfl ?_
    refine gX10_tidies_J33 C O E q9 a0 q7.1
theorem dJ0_coder_7d493_0 : decode cJ0_coder_7d493 0 = .ok (.getstatic 38, 3) := by decide +kernel
theorem dJ0_coder_7d493_3 : decode cJ0_coder_7d493 3 = .ok (.ifCond .eq 10, 3) := by decide +kernel
theorem dJ0_coder_7d493_6 : decode cJ0_coder_7d493 6 = .ok (.aload_n 0, 1) := by decide +kernel
theorem dJ0_coder_7d493_7 : decode cJ0_coder_7d493 7 = .ok (.getfield 15, 3) := by decide +kernel
theorem dJ0_coder_7d493_10 : decode cJ0_coder_7d493 10 = .ok (.goto 4, 3) := by decide +kernel
theorem dJ0_coder_7d493_13 : decode cJ0_coder_7d493 13 = .ok (.iconst 1, 1) := by decide +kernel
theorem dJ0_coder_7d493_14 : decode cJ0_coder_7d493 14 = .ok (.ireturn, 1) := by decide +kernel
def fJ0_coder_7d493 (h : AH) (a0 : Nat) : Option (Int32) :=
  if a0 < 5 then (
    if (1 : Int32) = 0 then (
      (i2by 1).bind fun x1 => some x1
    ) else (
      (strC a0).bind fun x2 =>
      (i2by x2).bind fun x3 => some x3
    )
  ) else none
set_option maxHeartbeats 4000000 in
theorem mJ0_coder_7d493 {h : AH} {a0 : Nat} {r : Int32} (hr : fJ0_coder_7d493 h a0 = some r) : a0 < 5 ∧ MC yJ0_coder_7d493 cJ0_coder_7d493 1 (some .byte) 1 0 0 [.retAddr a0] h (some (.int r)) h := by
  unfold fJ0_coder_7d493 at hr
  obtain ⟨hc, hr⟩ := if_some hr
  refine ⟨hc, mc_of (l0 := [(0, .retAddr a0)]) rfl pn_J0 (Nat.le_of_ble_eq_true rfl) (fun Y X C E O hnm => go_run hr ?_)⟩
  have C : CT Y X RJ0 cJ0_coder_7d493 1 := C
  refine go_gCS (pc := 0) C w_810 dJ0_coder_7d493_0 ?_
  refine go_if_eq (pc := 3) C 13 dJ0_coder_7d493_3 (by decide) (fun _ => ?_) (fun _ => ?_)
  · refine go_iconst (pc := 13) C dJ0_coder_7d493_13 ki_1 ?_
    exact go_byret (w := (wI h)) (pc := 14) C E 1 (fun x1 => x1) dJ0_coder_7d493_14 (fun _ => rfl)
  · refine go_sload_n (pc := 6) C 0 dJ0_coder_7d493_6 rfl ?_
    refine go_gSc (pc := 7) C w_1931 dJ0_coder_7d493_7 (fun x2 => ?_)
    refine go_goto (pc := 10) C 14 dJ0_coder_7d493_10 (by decide) ?_
    exact go_byret (w := (wI h)) (pc := 14) C E x2 (fun x3 => x3) dJ0_coder_7d493_14 (fun _ => rfl)
theorem dJ0_length_8abf5_0 : decode cJ0_length_8abf5 0 = .ok (.aload_n 0, 1) := by decide +kernel
theorem dJ0_length_8abf5_1 : decode cJ0_length_8abf5 1 = .ok (.getfield 9, 3) := by decide +kernel
theorem dJ0_length_8abf5_4 : decode cJ0_length_8abf5 4 = .ok (.arraylength, 1) := by decide +kernel
theorem dJ0_length_8abf5_5 : decode cJ0_length_8abf5 5 = .ok (.aload_n 0, 1) := by decide +kernel
theorem dJ0_length_8abf5_6 : decode cJ0_length_8abf5 6 = .ok (.invokevirtual 335, 3) := by decide +kernel
theorem dJ0_length_8abf5_9 : decode cJ0_length_8abf5 9 = .ok (.ishr, 1) := by decide +kernel
theorem dJ0_length_8abf5_10 : decode cJ0_length_8abf5 10 = .ok (.ireturn, 1) := by decide +kernel
def fJ0_length_8abf5 (h : AH) (a0 : Nat) : Option (Int32) :=
  if a0 < 5 then (
    (strV a0).bind fun x1 =>
    (strL x1).bind fun x2 =>
    (fJ0_coder_7d493 h a0).bind fun q3 =>
    some (x2 >>> (q3 &&& 31))
  ) else none
set_option maxHeartbeats 4000000 in
theorem mJ0_length_8abf5 {h : AH} {a0 : Nat} {r : Int32} (hr : fJ0_length_8abf5 h a0 = some r) : a0 < 5 ∧ MC yJ0_length_8abf5 cJ0_length_8abf5 1 (some .int) 2 0 0 [.retAddr a0] h (some (.int r)) h := by
  unfold fJ0_length_8abf5 at hr
  obtain ⟨hc, hr⟩ := if_some hr
  refine ⟨hc, mc_of (l0 := [(0, .retAddr a0)]) rfl pn_J0 (Nat.le_of_ble_eq_true rfl) (fun Y X C E O hnm => go_run hr ?_)⟩
  have C : CT Y X RJ0 cJ0_length_8abf5 1 := C
  refine go_sload_n (pc := 0) C 0 dJ0_length_8abf5_0 rfl ?_
  refine go_gSv (pc := 1) C w_1930 dJ0_length_8abf5_1 (fun x1 => ?_)
  refine go_Sl (pc := 4) C dJ0_length_8abf5_4 (fun x2 => ?_)
  refine go_sload_n (pc := 5) C 0 dJ0_length_8abf5_5 rfl ?_
  refine go_bind (fun q3 hq3 => ?_)
  refine go_callVS (rest := [.int x2]) (st' := [.int q3, .int x2]) (c' := 0) (s' := 0) (pc := 6) C O miJ0_335 mvSJ0_coder_7d493 [] rfl (mJ0_coder_7d493 hq3).1 (mJ0_coder_7d493 hq3).2 dJ0_length_8abf5_6 ⟨by decide, by decide, by decide, by decide⟩ rfl (Nat.le_of_ble_eq_true rfl) rfl ⟨rfl, rfl⟩ ?_
  refine go_ishr (pc := 9) C dJ0_length_8abf5_9 ?_
  exact go_iret (w := (wI h)) (pc := 10) C E (x2 >>> (q3 &&& 31)) (x2 >>> (q3 &&& 31)) dJ0_length_8abf5_10 rfl
theorem dJ0_isLatin1_aae02_0 : decode cJ0_isLatin1_aae02 0 = .ok (.getstatic 38, 3) := by decide +kernel
theorem dJ0_isLatin1_aae02_3 : decode cJ0_isLatin1_aae02 3 = .ok (.ifCond .eq 14, 3) := by decide +kernel
theorem dJ0_isLatin1_aae02_6 : decode cJ0_isLatin1_aae02 6 = .ok (.aload_n 0, 1) := by decide +kernel
theorem dJ0_isLatin1_aae02_7 : decode cJ0_isLatin1_aae02 7 = .ok (.getfield 15, 3) := by decide +kernel
theorem dJ0_isLatin1_aae02_10 : decode cJ0_isLatin1_aae02 10 = .ok (.ifCond .ne 7, 3) := by decide +kernel
theorem dJ0_isLatin1_aae02_13 : decode cJ0_isLatin1_aae02 13 = .ok (.iconst 1, 1) := by decide +kernel
theorem dJ0_isLatin1_aae02_14 : decode cJ0_isLatin1_aae02 14 = .ok (.goto 4, 3) := by decide +kernel
theorem dJ0_isLatin1_aae02_17 : decode cJ0_isLatin1_aae02 17 = .ok (.iconst 0, 1) := by decide +kernel
theorem dJ0_isLatin1_aae02_18 : decode cJ0_isLatin1_aae02 18 = .ok (.ireturn, 1) := by decide +kernel
def fJ0_isLatin1_aae02 (h : AH) (a0 : Nat) : Option (Bool) :=
  if a0 < 5 then (
    if (1 : Int32) = 0 then (
      some false
    ) else (
      (strC a0).bind fun x1 =>
      if x1 = 0 then (
        some true
      ) else (
        some false
      )
    )
  ) else none
set_option maxHeartbeats 4000000 in
theorem mJ0_isLatin1_aae02 {h : AH} {a0 : Nat} {r : Bool} (hr : fJ0_isLatin1_aae02 h a0 = some r) : a0 < 5 ∧ MC yJ0_isLatin1_aae02 cJ0_isLatin1_aae02 1 (some .boolean) 1 0 0 [.retAddr a0] h (some (.int (b2i r))) h := by
  unfold fJ0_isLatin1_aae02 at hr
  obtain ⟨hc, hr⟩ := if_some hr
  refine ⟨hc, mc_of (l0 := [(0, .retAddr a0)]) rfl pn_J0 (Nat.le_of_ble_eq_true rfl) (fun Y X C E O hnm => go_run hr ?_)⟩
  have C : CT Y X RJ0 cJ0_isLatin1_aae02 1 := C
  refine go_gCS (pc := 0) C w_810 dJ0_isLatin1_aae02_0 ?_
  refine go_if_eq (pc := 3) C 17 dJ0_isLatin1_aae02_3 (by decide) (fun _ => ?_) (fun _ => ?_)
  · refine go_iconst (pc := 17) C dJ0_isLatin1_aae02_17 ki_0 ?_
    exact go_bret (w := (wZ h)) (pc := 18) C E false 0 false rfl dJ0_isLatin1_aae02_18 rfl
  · refine go_sload_n (pc := 6) C 0 dJ0_isLatin1_aae02_6 rfl ?_
    refine go_gSc (pc := 7) C w_1931 dJ0_isLatin1_aae02_7 (fun x1 => ?_)
    refine go_if_ne (pc := 10) C 17 dJ0_isLatin1_aae02_10 (by decide) (fun _ => ?_) (fun _ => ?_)
    · refine go_iconst (pc := 13) C dJ0_isLatin1_aae02_13 ki_1 ?_
      refine go_goto (pc := 14) C 18 dJ0_isLatin1_aae02_14 (by decide) ?_
      exact go_bret (w := (wZ h)) (pc := 18) C E true 1 true rfl dJ0_isLatin1_aae02_18 rfl
    · refine go_iconst (pc := 17) C dJ0_isLatin1_aae02_17 ki_0 ?_
      exact go_bret (w := (wZ h)) (pc := 18) C E false 0 false rfl dJ0_isLatin1_aae02_18 rfl
theorem dJ3_checkIndex_8e157_0 : decode cJ3_checkIndex_8e157 0 = .ok (.iload_n 0, 1) := by decide +kernel
theorem dJ3_checkIndex_8e157_1 : decode cJ3_checkIndex_8e157 1 = .ok (.ifCond .lt 8, 3) := by decide +kernel
theorem dJ3_checkIndex_8e157_4 : decode cJ3_checkIndex_8e157 4 = .ok (.iload_n 0, 1) := by decide +kernel
theorem dJ3_checkIndex_8e157_5 : decode cJ3_checkIndex_8e157 5 = .ok (.iload_n 1, 1) := by decide +kernel
theorem dJ3_checkIndex_8e157_6 : decode cJ3_checkIndex_8e157 6 = .ok (.if_icmp .lt 10, 3) := by decide +kernel
theorem dJ3_checkIndex_8e157_16 : decode cJ3_checkIndex_8e157 16 = .ok (.iload_n 0, 1) := by decide +kernel
theorem dJ3_checkIndex_8e157_17 : decode cJ3_checkIndex_8e157 17 = .ok (.ireturn, 1) := by decide +kernel
def fJ3_checkIndex_8e157 (h : AH) (a0 : Int32) (a1 : Int32) : Option (Int32) :=
  if a0 < 0 then (
    none
  ) else (
    if a0 < a1 then (
      some a0
    ) else (
      none
    )
  )
set_option maxHeartbeats 4000000 in
theorem mJ3_checkIndex_8e157 {h : AH} {a0 : Int32} {a1 : Int32} {a2 : Value} (ha2 : a2.category = 1) {r : Int32} (hr : fJ3_checkIndex_8e157 h a0 a1 = some r) : MC yJ3_checkIndex_8e157 cJ3_checkIndex_8e157 3 (some .int) 1 0 0 [.int a0, .int a1, a2] h (some (.int r)) h := by
  unfold fJ3_checkIndex_8e157 at hr
  refine mc_of (l0 := [(0, .int a0), (1, .int a1), (2, a2)]) rfl pn_J3 (by show 1 + (1 + (Value.category a2 + 0)) ≤ 3; omega) (fun Y X C E O hnm => go_run hr ?_)
  have C : CT Y X RJ3 cJ3_checkIndex_8e157 3 := C
  refine go_iload_n (pc := 0) C 0 dJ3_checkIndex_8e157_0 rfl ?_
  refine go_if_lt (pc := 1) C 9 dJ3_checkIndex_8e157_1 (by decide) (fun _ => ?_) (fun _ => ?_)
  · exact go_none _ _ _
  · refine go_iload_n (pc := 4) C 0 dJ3_checkIndex_8e157_4 rfl ?_
    refine go_iload_n (pc := 5) C 1 dJ3_checkIndex_8e157_5 rfl ?_
    refine go_icmp_lt (pc := 6) C 16 dJ3_checkIndex_8e157_6 (by decide) (fun _ => ?_) (fun _ => ?_)
    · refine go_iload_n (pc := 16) C 0 dJ3_checkIndex_8e157_16 rfl ?_
      exact go_iret (w := (wI h)) (pc := 17) C E a0 a0 dJ3_checkIndex_8e157_17 rfl
    · exact go_none _ _ _
theorem dJ0_checkIndex_df160_0 : decode cJ0_checkIndex_df160 0 = .ok (.iload_n 0, 1) := by decide +kernel
theorem dJ0_checkIndex_df160_1 : decode cJ0_checkIndex_df160 1 = .ok (.iload_n 1, 1) := by decide +kernel
theorem dJ0_checkIndex_df160_2 : decode cJ0_checkIndex_df160 2 = .ok (.getstatic 1053, 3) := by decide +kernel
theorem dJ0_checkIndex_df160_5 : decode cJ0_checkIndex_df160 5 = .ok (.invokestatic 1059, 3) := by decide +kernel
theorem dJ0_checkIndex_df160_8 : decode cJ0_checkIndex_df160 8 = .ok (.pop, 1) := by decide +kernel
theorem dJ0_checkIndex_df160_9 : decode cJ0_checkIndex_df160 9 = .ok (.return_, 1) := by decide +kernel
def fJ0_checkIndex_df160 (h : AH) (a0 : Int32) (a1 : Int32) : Option (Unit) :=
  (fJ3_checkIndex_8e157 h a0 a1).bind fun q2 =>
  some (())
set_option maxHeartbeats 4000000 in
theorem mJ0_checkIndex_df160 {h : AH} {a0 : Int32} {a1 : Int32} {r : Unit} (hr : fJ0_checkIndex_df160 h a0 a1 = some r) : MC yJ0_checkIndex_df160 cJ0_checkIndex_df160 2 none 2 0 0 [.int a0, .int a1] h none h := by
  unfold fJ0_checkIndex_df160 at hr
  refine mc_of (l0 := [(0, .int a0), (1, .int a1)]) rfl pn_J0 (Nat.le_of_ble_eq_true rfl) (fun Y X C E O hnm => go_run hr ?_)
  have C : CT Y X RJ0 cJ0_checkIndex_df160 2 := C
  refine go_iload_n (pc := 0) C 0 dJ0_checkIndex_df160_0 rfl ?_
  refine go_iload_n (pc := 1) C 1 dJ0_checkIndex_df160_1 rfl ?_
  refine go_gFM (pc := 2) C w_826 dJ0_checkIndex_df160_2 (fun w1 hw1 => ?_)
  refine go_bind (fun q2 hq2 => ?_)
  refine go_callS (rest := []) (st' := [.int q2]) (c' := 0) (s' := 0) (pc := 5) C O miJ0_1059 w_829 [.int a0, .int a1, w1] rfl (mJ3_checkIndex_8e157 hw1 hq2) dJ0_checkIndex_df160_5 ⟨by decide, by decide, by decide, by decide⟩ rfl (Nat.le_of_ble_eq_true rfl) rfl ⟨rfl, rfl⟩ ?_
  refine go_pop (pc := 8) C dJ0_checkIndex_df160_8 rfl ?_
  exact go_vret (w := (wU h)) (pc := 9) C E (()) dJ0_checkIndex_df160_9 rfl
theorem dJ1_charAt_3b067_0 : decode cJ1_charAt_3b067 0 = .ok (.iload_n 1, 1) := by decide +kernel
theorem dJ1_charAt_3b067_1 : decode cJ1_charAt_3b067 1 = .ok (.aload_n 0, 1) := by decide +kernel
theorem dJ1_charAt_3b067_2 : decode cJ1_charAt_3b067 2 = .ok (.arraylength, 1) := by decide +kernel
theorem dJ1_charAt_3b067_3 : decode cJ1_charAt_3b067 3 = .ok (.invokestatic 9, 3) := by decide +kernel
theorem dJ1_charAt_3b067_6 : decode cJ1_charAt_3b067 6 = .ok (.aload_n 0, 1) := by decide +kernel
theorem dJ1_charAt_3b067_7 : decode cJ1_charAt_3b067 7 = .ok (.iload_n 1, 1) := by decide +kernel
theorem dJ1_charAt_3b067_8 : decode cJ1_charAt_3b067 8 = .ok (.baload, 1) := by decide +kernel
theorem dJ1_charAt_3b067_9 : decode cJ1_charAt_3b067 9 = .ok (.sipush 255, 3) := by decide +kernel
theorem dJ1_charAt_3b067_12 : decode cJ1_charAt_3b067 12 = .ok (.iand, 1) := by decide +kernel
theorem dJ1_charAt_3b067_13 : decode cJ1_charAt_3b067 13 = .ok (.i2c, 1) := by decide +kernel
theorem dJ1_charAt_3b067_14 : decode cJ1_charAt_3b067 14 = .ok (.ireturn, 1) := by decide +kernel
def fJ1_charAt_3b067 (h : AH) (a0 : Nat) (a1 : Int32) : Option (Int32) :=
  (strL a0).bind fun x1 =>
  (fJ0_checkIndex_df160 h a1 x1).bind fun q2 =>
  (strB a0 a1).bind fun x3 =>
  (i2ch (UInt32.toInt32 (Int32.toUInt32 (x3 &&& 255) % 65536))).bind fun x4 => some x4
set_option maxHeartbeats 4000000 in
theorem mJ1_charAt_3b067 {h : AH} {a0 : Nat} {a1 : Int32} {r : Int32} (hr : fJ1_charAt_3b067 h a0 a1 = some r) : MC yJ1_charAt_3b067 cJ1_charAt_3b067 2 (some .char) 3 0 0 [.retAddr a0, .int a1] h (some (.int r)) h := by
  unfold fJ1_charAt_3b067 at hr
  refine mc_of (l0 := [(0, .retAddr a0), (1, .int a1)]) rfl pn_J1 (Nat.le_of_ble_eq_true rfl) (fun Y X C E O hnm => go_run hr ?_)
  have C : CT Y X RJ1 cJ1_charAt_3b067 2 := C
  refine go_iload_n (pc := 0) C 1 dJ1_charAt_3b067_0 rfl ?_
  refine go_sload_n (pc := 1) C 0 dJ1_charAt_3b067_1 rfl ?_
  refine go_Sl (pc := 2) C dJ1_charAt_3b067_2 (fun x1 => ?_)
  refine go_bind (fun q2 hq2 => ?_)
  refine go_callS (rest := []) (st' := []) (c' := 0) (s' := 0) (pc := 3) C O miJ1_9 w_824 [.int a1, .int x1] rfl (mJ0_checkIndex_df160 hq2) dJ1_charAt_3b067_3 ⟨by decide, by decide, by decide, by decide⟩ rfl (Nat.le_of_ble_eq_true rfl) rfl ⟨rfl, rfl⟩ ?_
  refine go_sload_n (pc := 6) C 0 dJ1_charAt_3b067_6 rfl ?_
  refine go_iload_n (pc := 7) C 1 dJ1_charAt_3b067_7 rfl ?_
  refine go_Sb (pc := 8) C dJ1_charAt_3b067_8 (fun x3 => ?_)
  refine go_sipush (pc := 9) C dJ1_charAt_3b067_9 ks_255 ?_
  refine go_iand (pc := 12) C dJ1_charAt_3b067_12 ?_
  refine go_i2c (pc := 13) C dJ1_charAt_3b067_13 ?_
  exact go_cret (w := (wI h)) (pc := 14) C E (UInt32.toInt32 (Int32.toUInt32 (x3 &&& 255) % 65536)) (fun x4 => x4) dJ1_charAt_3b067_14 (fun _ => rfl)
theorem dJ0_charAt_5068e_0 : decode cJ0_charAt_5068e 0 = .ok (.aload_n 0, 1) := by decide +kernel
theorem dJ0_charAt_5068e_1 : decode cJ0_charAt_5068e 1 = .ok (.invokevirtual 492, 3) := by decide +kernel
theorem dJ0_charAt_5068e_4 : decode cJ0_charAt_5068e 4 = .ok (.ifCond .eq 12, 3) := by decide +kernel
theorem dJ0_charAt_5068e_7 : decode cJ0_charAt_5068e 7 = .ok (.aload_n 0, 1) := by decide +kernel
theorem dJ0_charAt_5068e_8 : decode cJ0_charAt_5068e 8 = .ok (.getfield 9, 3) := by decide +kernel
theorem dJ0_charAt_5068e_11 : decode cJ0_charAt_5068e 11 = .ok (.iload_n 1, 1) := by decide +kernel
theorem dJ0_charAt_5068e_12 : decode cJ0_charAt_5068e 12 = .ok (.invokestatic 495, 3) := by decide +kernel
theorem dJ0_charAt_5068e_15 : decode cJ0_charAt_5068e 15 = .ok (.ireturn, 1) := by decide +kernel
def fJ0_charAt_5068e (h : AH) (a0 : Nat) (a1 : Int32) : Option (Int32 × AH) :=
  if a0 < 5 then (
    (fJ0_isLatin1_aae02 h a0).bind fun q1 =>
    if q1 = true then (
      (strV a0).bind fun x2 =>
      (fJ1_charAt_3b067 h x2 a1).bind fun q3 =>
      (i2ch q3).bind fun x4 => some ((x4, h))
    ) else (
      none
    )
  ) else none
set_option maxHeartbeats 4000000 in
theorem mJ0_charAt_5068e {h : AH} {a0 : Nat} {a1 : Int32} {r : Int32 × AH} (hr : fJ0_charAt_5068e h a0 a1 = some r) : a0 < 5 ∧ MC yJ0_charAt_5068e cJ0_charAt_5068e 2 (some .char) 4 0 0 [.retAddr a0, .int a1] h (some (.int r.1)) r.2 := by
  unfold fJ0_charAt_5068e at hr
  obtain ⟨hc, hr⟩ := if_some hr
  refine ⟨hc, mc_of (l0 := [(0, .retAddr a0), (1, .int a1)]) rfl pn_J0 (Nat.le_of_ble_eq_true rfl) (fun Y X C E O hnm => go_run hr ?_)⟩
  have C : CT Y X RJ0 cJ0_charAt_5068e 2 := C
  refine go_sload_n (pc := 0) C 0 dJ0_charAt_5068e_0 rfl ?_
  refine go_bind (fun q1 hq1 => ?_)
  refine go_callVS (rest := []) (st' := [.int (b2i q1)]) (c' := 0) (s' := 0) (pc := 1) C O miJ0_492 mvSJ0_isLatin1_aae02 [] rfl (mJ0_isLatin1_aae02 hq1).1 (mJ0_isLatin1_aae02 hq1).2 dJ0_charAt_5068e_1 ⟨by decide, by decide, by decide, by decide⟩ rfl (Nat.le_of_ble_eq_true rfl) rfl ⟨rfl, rfl⟩ ?_
  refine go_ifZ_eq (pc := 4) C 16 dJ0_charAt_5068e_4 (by decide) (fun _ => ?_) (fun _ => ?_)
  · refine go_sload_n (pc := 7) C 0 dJ0_charAt_5068e_7 rfl ?_
    refine go_gSv (pc := 8) C w_1930 dJ0_charAt_5068e_8 (fun x2 => ?_)
    refine go_iload_n (pc := 11) C 1 dJ0_charAt_5068e_11 rfl ?_
    refine go_bind (fun q3 hq3 => ?_)
    refine go_callS (rest := []) (st' := [.int q3]) (c' := 0) (s' := 0) (pc := 12) C O miJ0_495 w_821 [.retAddr x2, .int a1] rfl (mJ1_charAt_3b067 hq3) dJ0_charAt_5068e_12 ⟨by decide, by decide, by decide, by decide⟩ rfl (Nat.le_of_ble_eq_true rfl) rfl ⟨rfl, rfl⟩ ?_
    exact go_cret (w := wIh) (pc := 15) C E q3 (fun x4 => (x4, h)) dJ0_charAt_5068e_15 (fun _ => rfl)
  · exact go_none _ _ _
theorem dX10_actDigits_0 : decode cX10_actDigits 0 = .ok (.iload_n 0, 1) := by decide +kernel
theorem dX10_actDigits_1 : decode cX10_actDigits 1 = .ok (.lookupswitch 75 #[(97, 71), (101, 67), (102, 67), (114, 59), (116, 67), (119, 63)], 59) := by decide +kernel
theorem dX10_actDigits_60 : decode cX10_actDigits 60 = .ok (.ldc_w 418, 3) := by decide +kernel
theorem dX10_actDigits_63 : decode cX10_actDigits 63 = .ok (.areturn, 1) := by decide +kernel
theorem dX10_actDigits_64 : decode cX10_actDigits 64 = .ok (.ldc_w 420, 3) := by decide +kernel
theorem dX10_actDigits_67 : decode cX10_actDigits 67 = .ok (.areturn, 1) := by decide +kernel
theorem dX10_actDigits_68 : decode cX10_actDigits 68 = .ok (.ldc_w 422, 3) := by decide +kernel
theorem dX10_actDigits_71 : decode cX10_actDigits 71 = .ok (.areturn, 1) := by decide +kernel
theorem dX10_actDigits_72 : decode cX10_actDigits 72 = .ok (.ldc_w 424, 3) := by decide +kernel
theorem dX10_actDigits_75 : decode cX10_actDigits 75 = .ok (.areturn, 1) := by decide +kernel
theorem dX10_actDigits_76 : decode cX10_actDigits 76 = .ok (.ldc_w 426, 3) := by decide +kernel
theorem dX10_actDigits_79 : decode cX10_actDigits 79 = .ok (.areturn, 1) := by decide +kernel
def fX10_actDigits (h : AH) (a0 : Int32) : Option (Nat) :=
  if a0 = 97 then (
    some 4
  ) else (
    if a0 = 101 then (
      some 3
    ) else (
      if a0 = 102 then (
        some 3
      ) else (
        if a0 = 114 then (
          some 1
        ) else (
          if a0 = 116 then (
            some 3
          ) else (
            if a0 = 119 then (
              some 2
            ) else (
              some 0))))))
set_option maxHeartbeats 4000000 in
theorem mX10_actDigits {h : AH} {a0 : Int32} {r : Nat} (hr : fX10_actDigits h a0 = some r) : MC yX10_actDigits cX10_actDigits 1 (some (.object "java/lang/String")) 1 0 0 [.int a0] h (some (.retAddr r)) h := by
  unfold fX10_actDigits at hr
  refine mc_of (l0 := [(0, .int a0)]) rfl pn_X10 (Nat.le_of_ble_eq_true rfl) (fun Y X C E O hnm => go_run hr ?_)
  have C : CT Y X RX10 cX10_actDigits 1 := C
  refine go_iload_n (pc := 0) C 0 dX10_actDigits_0 rfl ?_
  refine go_ite (fun hc1 => ?_) (fun hc1 => ?_)
  · refine go_lsw (pc := 1) C 72 dX10_actDigits_1 (by decide) (by rw [hc1] <;> decide) (by decide) ?_
    refine go_ldcSw (pc := 72) C 4 (by decide) dX10_actDigits_72 ?_
    exact go_sret (w := (wS h)) (pc := 75) C E 4 4 (Or.inl ⟨_, rfl⟩) dX10_actDigits_75 rfl
  · refine go_ite (fun hc2 => ?_) (fun hc2 => ?_)
    · refine go_lsw (pc := 1) C 68 dX10_actDigits_1 (by decide) (by rw [hc2] <;> decide) (by decide) ?_
      refine go_ldcSw (pc := 68) C 3 (by decide) dX10_actDigits_68 ?_
      exact go_sret (w := (wS h)) (pc := 71) C E 3 3 (Or.inl ⟨_, rfl⟩) dX10_actDigits_71 rfl
    · refine go_ite (fun hc3 => ?_) (fun hc3 => ?_)
      · refine go_lsw (pc := 1) C 68 dX10_actDigits_1 (by decide) (by rw [hc3] <;> decide) (by decide) ?_
        refine go_ldcSw (pc := 68) C 3 (by decide) dX10_actDigits_68 ?_
        exact go_sret (w := (wS h)) (pc := 71) C E 3 3 (Or.inl ⟨_, rfl⟩) dX10_actDigits_71 rfl
      · refine go_ite (fun hc4 => ?_) (fun hc4 => ?_)
        · refine go_lsw (pc := 1) C 60 dX10_actDigits_1 (by decide) (by rw [hc4] <;> decide) (by decide) ?_
          refine go_ldcSw (pc := 60) C 1 (by decide) dX10_actDigits_60 ?_
          exact go_sret (w := (wS h)) (pc := 63) C E 1 1 (Or.inl ⟨_, rfl⟩) dX10_actDigits_63 rfl
        · refine go_ite (fun hc5 => ?_) (fun hc5 => ?_)
          · refine go_lsw (pc := 1) C 68 dX10_actDigits_1 (by decide) (by rw [hc5] <;> decide) (by decide) ?_
            refine go_ldcSw (pc := 68) C 3 (by decide) dX10_actDigits_68 ?_
            exact go_sret (w := (wS h)) (pc := 71) C E 3 3 (Or.inl ⟨_, rfl⟩) dX10_actDigits_71 rfl
          · refine go_ite (fun hc6 => ?_) (fun hc6 => ?_)
            · refine go_lsw (pc := 1) C 64 dX10_actDigits_1 (by decide) (by rw [hc6] <;> decide) (by decide) ?_
              refine go_ldcSw (pc := 64) C 2 (by decide) dX10_actDigits_64 ?_
              exact go_sret (w := (wS h)) (pc := 67) C E 2 2 (Or.inl ⟨_, rfl⟩) dX10_actDigits_67 rfl
            · refine go_lsw_else (pc := 1) C 76 dX10_actDigits_1 (by decide) (fun q hq => by simp only [List.mem_cons, List.not_mem_nil, or_false] at hq; rcases hq with rfl | rfl | rfl | rfl | rfl | rfl <;> first | exact i32_ne hc1 (by decide) | exact i32_ne hc2 (by decide) | exact i32_ne hc3 (by decide) | exact i32_ne hc4 (by decide) | exact i32_ne hc5 (by decide) | exact i32_ne hc6 (by decide)) (by decide) ?_
              refine go_ldcSw (pc := 76) C 0 (by decide) dX10_actDigits_76 ?_
              exact go_sret (w := (wS h)) (pc := 79) C E 0 0 (Or.inl ⟨_, rfl⟩) dX10_actDigits_79 rfl
theorem dJ0_isEmpty_aae02_0 : decode cJ0_isEmpty_aae02 0 = .ok (.aload_n 0, 1) := by decide +kernel
theorem dJ0_isEmpty_aae02_1 : decode cJ0_isEmpty_aae02 1 = .ok (.getfield 9, 3) := by decide +kernel
theorem dJ0_isEmpty_aae02_4 : decode cJ0_isEmpty_aae02 4 = .ok (.arraylength, 1) := by decide +kernel
theorem dJ0_isEmpty_aae02_5 : decode cJ0_isEmpty_aae02 5 = .ok (.ifCond .ne 7, 3) := by decide +kernel
theorem dJ0_isEmpty_aae02_8 : decode cJ0_isEmpty_aae02 8 = .ok (.iconst 1, 1) := by decide +kernel
theorem dJ0_isEmpty_aae02_9 : decode cJ0_isEmpty_aae02 9 = .ok (.goto 4, 3) := by decide +kernel
theorem dJ0_isEmpty_aae02_12 : decode cJ0_isEmpty_aae02 12 = .ok (.iconst 0, 1) := by decide +kernel
theorem dJ0_isEmpty_aae02_13 : decode cJ0_isEmpty_aae02 13 = .ok (.ireturn, 1) := by decide +kernel
def fJ0_isEmpty_aae02 (h : AH) (a0 : Nat) : Option (Bool) :=
  if a0 < 5 then (
    (strV a0).bind fun x1 =>
    (strL x1).bind fun x2 =>
    if x2 = 0 then (
      some true
    ) else (
      some false
    )
  ) else none
set_option maxHeartbeats 4000000 in
theorem mJ0_isEmpty_aae02 {h : AH} {a0 : Nat} {r : Bool} (hr : fJ0_isEmpty_aae02 h a0 = some r) : a0 < 5 ∧ MC yJ0_isEmpty_aae02 cJ0_isEmpty_aae02 1 (some .boolean) 1 0 0 [.retAddr a0] h (some (.int (b2i r))) h := by
  unfold fJ0_isEmpty_aae02 at hr
  obtain ⟨hc, hr⟩ := if_some hr
  refine ⟨hc, mc_of (l0 := [(0, .retAddr a0)]) rfl pn_J0 (Nat.le_of_ble_eq_true rfl) (fun Y X C E O hnm => go_run hr ?_)⟩
  have C : CT Y X RJ0 cJ0_isEmpty_aae02 1 := C
  refine go_sload_n (pc := 0) C 0 dJ0_isEmpty_aae02_0 rfl ?_
  refine go_gSv (pc := 1) C w_1930 dJ0_isEmpty_aae02_1 (fun x1 => ?_)
  refine go_Sl (pc := 4) C dJ0_isEmpty_aae02_4 (fun x2 => ?_)
  refine go_if_ne (pc := 5) C 12 dJ0_isEmpty_aae02_5 (by decide) (fun _ => ?_) (fun _ => ?_)
  · refine go_iconst (pc := 8) C dJ0_isEmpty_aae02_8 ki_1 ?_
    refine go_goto (pc := 9) C 13 dJ0_isEmpty_aae02_9 (by decide) ?_
    exact go_bret (w := (wZ h)) (pc := 13) C E true 1 true rfl dJ0_isEmpty_aae02_13 rfl
  · refine go_iconst (pc := 12) C dJ0_isEmpty_aae02_12 ki_0 ?_
    exact go_bret (w := (wZ h)) (pc := 13) C E false 0 false rfl dJ0_isEmpty_aae02_13 rfl
theorem dX10_wrongDaySign_0 : decode cX10_wrongDaySign 0 = .ok (.ldc_w 426, 3) := by decide +kernel
theorem dX10_wrongDaySign_3 : decode cX10_wrongDaySign 3 = .ok (.astore_n 2, 1) := by decide +kernel
theorem dX10_wrongDaySign_4 : decode cX10_wrongDaySign 4 = .ok (.iconst 0, 1) := by decide +kernel
theorem dX10_wrongDaySign_5 : decode cX10_wrongDaySign 5 = .ok (.istore_n 3, 1) := by decide +kernel
theorem dX10_wrongDaySign_6 : decode cX10_wrongDaySign 6 = .ok (.iconst 0, 1) := by decide +kernel
theorem dX10_wrongDaySign_7 : decode cX10_wrongDaySign 7 = .ok (.istore 4, 2) := by decide +kernel
theorem dX10_wrongDaySign_9 : decode cX10_wrongDaySign 9 = .ok (.iload 4, 2) := by decide +kernel
theorem dX10_wrongDaySign_11 : decode cX10_wrongDaySign 11 = .ok (.iload_n 1, 1) := by decide +kernel
theorem dX10_wrongDaySign_12 : decode cX10_wrongDaySign 12 = .ok (.if_icmp .ge 76, 3) := by decide +kernel
theorem dX10_wrongDaySign_15 : decode cX10_wrongDaySign 15 = .ok (.iload 4, 2) := by decide +kernel
theorem dX10_wrongDaySign_17 : decode cX10_wrongDaySign 17 = .ok (.bipush 60, 2) := by decide +kernel
theorem dX10_wrongDaySign_19 : decode cX10_wrongDaySign 19 = .ok (.if_icmp .ge 69, 3) := by decide +kernel
theorem dX10_wrongDaySign_22 : decode cX10_wrongDaySign 22 = .ok (.aload_n 0, 1) := by decide +kernel
theorem dX10_wrongDaySign_23 : decode cX10_wrongDaySign 23 = .ok (.iload 4, 2) := by decide +kernel
theorem dX10_wrongDaySign_25 : decode cX10_wrongDaySign 25 = .ok (.invokevirtual 113, 3) := by decide +kernel
theorem dX10_wrongDaySign_28 : decode cX10_wrongDaySign 28 = .ok (.istore 5, 2) := by decide +kernel
theorem dX10_wrongDaySign_30 : decode cX10_wrongDaySign 30 = .ok (.iload_n 3, 1) := by decide +kernel
theorem dX10_wrongDaySign_31 : decode cX10_wrongDaySign 31 = .ok (.aload_n 2, 1) := by decide +kernel
theorem dX10_wrongDaySign_32 : decode cX10_wrongDaySign 32 = .ok (.invokevirtual 253, 3) := by decide +kernel
theorem dX10_wrongDaySign_35 : decode cX10_wrongDaySign 35 = .ok (.if_icmp .ge 29, 3) := by decide +kernel
theorem dX10_wrongDaySign_38 : decode cX10_wrongDaySign 38 = .ok (.iload 5, 2) := by decide +kernel
theorem dX10_wrongDaySign_40 : decode cX10_wrongDaySign 40 = .ok (.bipush 48, 2) := by decide +kernel
theorem dX10_wrongDaySign_42 : decode cX10_wrongDaySign 42 = .ok (.if_icmp .lt 13, 3) := by decide +kernel
theorem dX10_wrongDaySign_45 : decode cX10_wrongDaySign 45 = .ok (.iload 5, 2) := by decide +kernel
theorem dX10_wrongDaySign_47 : decode cX10_wrongDaySign 47 = .ok (.aload_n 2, 1) := by decide +kernel
theorem dX10_wrongDaySign_48 : decode cX10_wrongDaySign 48 = .ok (.iload_n 3, 1) := by decide +kernel
theorem dX10_wrongDaySign_49 : decode cX10_wrongDaySign 49 = .ok (.invokevirtual 428, 3) := by decide +kernel
theorem dX10_wrongDaySign_52 : decode cX10_wrongDaySign 52 = .ok (.if_icmp .le 6, 3) := by decide +kernel
theorem dX10_wrongDaySign_55 : decode cX10_wrongDaySign 55 = .ok (.iload 4, 2) := by decide +kernel
theorem dX10_wrongDaySign_57 : decode cX10_wrongDaySign 57 = .ok (.ireturn, 1) := by decide +kernel
theorem dX10_wrongDaySign_58 : decode cX10_wrongDaySign 58 = .ok (.iinc 3 1, 3) := by decide +kernel
theorem dX10_wrongDaySign_61 : decode cX10_wrongDaySign 61 = .ok (.goto 21, 3) := by decide +kernel
theorem dX10_wrongDaySign_64 : decode cX10_wrongDaySign 64 = .ok (.iload 5, 2) := by decide +kernel
theorem dX10_wrongDaySign_66 : decode cX10_wrongDaySign 66 = .ok (.invokestatic 249, 3) := by decide +kernel
theorem dX10_wrongDaySign_69 : decode cX10_wrongDaySign 69 = .ok (.astore_n 2, 1) := by decide +kernel
theorem dX10_wrongDaySign_70 : decode cX10_wrongDaySign 70 = .ok (.iconst 0, 1) := by decide +kernel
theorem dX10_wrongDaySign_71 : decode cX10_wrongDaySign 71 = .ok (.istore_n 3, 1) := by decide +kernel
theorem dX10_wrongDaySign_72 : decode cX10_wrongDaySign 72 = .ok (.aload_n 2, 1) := by decide +kernel
theorem dX10_wrongDaySign_73 : decode cX10_wrongDaySign 73 = .ok (.invokevirtual 431, 3) := by decide +kernel
theorem dX10_wrongDaySign_76 : decode cX10_wrongDaySign 76 = .ok (.ifCond .eq 6, 3) := by decide +kernel
theorem dX10_wrongDaySign_79 : decode cX10_wrongDaySign 79 = .ok (.iload 4, 2) := by decide +kernel
theorem dX10_wrongDaySign_81 : decode cX10_wrongDaySign 81 = .ok (.ireturn, 1) := by decide +kernel
theorem dX10_wrongDaySign_82 : decode cX10_wrongDaySign 82 = .ok (.iinc 4 1, 3) := by decide +kernel
theorem dX10_wrongDaySign_85 : decode cX10_wrongDaySign 85 = .ok (.goto (-76), 3) := by decide +kernel
theorem dX10_wrongDaySign_88 : decode cX10_wrongDaySign 88 = .ok (.iload_n 1, 1) := by decide +kernel
theorem dX10_wrongDaySign_89 : decode cX10_wrongDaySign 89 = .ok (.bipush 60, 2) := by decide +kernel
theorem dX10_wrongDaySign_91 : decode cX10_wrongDaySign 91 = .ok (.if_icmp .le 6, 3) := by decide +kernel
theorem dX10_wrongDaySign_94 : decode cX10_wrongDaySign 94 = .ok (.bipush 60, 2) := by decide +kernel
theorem dX10_wrongDaySign_96 : decode cX10_wrongDaySign 96 = .ok (.ireturn, 1) := by decide +kernel
theorem dX10_wrongDaySign_97 : decode cX10_wrongDaySign 97 = .ok (.iload_n 3, 1) := by decide +kernel
theorem dX10_wrongDaySign_98 : decode cX10_wrongDaySign 98 = .ok (.aload_n 2, 1) := by decide +kernel
theorem dX10_wrongDaySign_99 : decode cX10_wrongDaySign 99 = .ok (.invokevirtual 253, 3) := by decide +kernel
theorem dX10_wrongDaySign_102 : decode cX10_wrongDaySign 102 = .ok (.if_icmp .ge 7, 3) := by decide +kernel
theorem dX10_wrongDaySign_105 : decode cX10_wrongDaySign 105 = .ok (.iload_n 1, 1) := by decide +kernel
theorem dX10_wrongDaySign_106 : decode cX10_wrongDaySign 106 = .ok (.goto 4, 3) := by decide +kernel
theorem dX10_wrongDaySign_109 : decode cX10_wrongDaySign 109 = .ok (.iconst (-1), 1) := by decide +kernel
theorem dX10_wrongDaySign_110 : decode cX10_wrongDaySign 110 = .ok (.ireturn, 1) := by decide +kernel
def fX10_wrongDaySign_L9 (k88 : AH → Int32 → Nat → Int32 → Option (Int32 × AH)) : Nat → AH → Nat → Int32 → Nat → Int32 → Int32 → Option (Int32 × AH)
  | 0, _, _, _, _, _, _ => none
  | n + 1, h, v0, v1, v2, v3, v4 =>
    if v1 ≤ v4 then (
      k88 h v1 v2 v3
    ) else (
      if 60 ≤ v4 then (
        k88 h v1 v2 v3
      ) else (
        (fX10_signAt h v0 v4).bind fun q1 =>
        (fJ0_length_8abf5 h v2).bind fun q2 =>
        if q2 ≤ v3 then (
          (fX10_actDigits h q1).bind fun q3 =>
          (fJ0_isEmpty_aae02 h q3).bind fun q4 =>
          if q4 = true then (
            some ((v4, h))
          ) else (
            letF (v4 + 1 : Int32) fun x5 =>
            fX10_wrongDaySign_L9 k88 n h v0 v1 q3 0 x5
          )
        ) else (
          if q1 < 48 then (
            some ((v4, h))
          ) else (
            (fJ0_charAt_5068e h v2 v3).bind fun q6 =>
            if q1 ≤ q6.1 then (
              letF (v3 + 1 : Int32) fun x7 =>
              letF (v4 + 1 : Int32) fun x8 =>
              fX10_wrongDaySign_L9 k88 n q6.2 v0 v1 v2 x7 x8
            ) else (
              some ((v4, q6.2))
            )
          )
        )
      )
    )
def fX10_wrongDaySign_J88 (h : AH) (v1 : Int32) (v2 : Nat) (v3 : Int32) : Option (Int32 × AH) :=
    if v1 ≤ 60 then (
      (fJ0_length_8abf5 h v2).bind fun q9 =>
      if q9 ≤ v3 then (
        some (((-1), h))
      ) else (
        some ((v1, h))
      )
    ) else (
      some ((60, h))
    )
def fX10_wrongDaySign (h : AH) (a0 : Nat) (a1 : Int32) : Option (Int32 × AH) :=
  if hasC h 10 a0 = true then (
    fX10_wrongDaySign_L9
      (fun h13 x10 x11 x12 =>
        fX10_wrongDaySign_J88 h13 x10 x11 x12)
      FU h a0 a1 0 0 0
  ) else none
set_option maxHeartbeats 4000000 in
theorem gX10_wrongDaySign_L9 {Y : YT} {X : XT} (C : CT Y X RX10 cX10_wrongDaySign 6) (O : RO X 5 0 0) {r : Int32 × AH} (E : RX Y X (some .int) (some (.int r.1)) r.2 0 0) {k88 : AH → Int32 → Nat → Int32 → Option (Int32 × AH)} (hk88 : ∀ (h : AH) (v1 : Int32) (v2 : Nat) (v3 : Int32), GO Y X 6 r h 0 0 88 [(1, .int v1), (2, .retAddr v2), (3, .int v3)] [] (k88 h v1 v2 v3)) : ∀ (n : Nat) (h : AH) (v0 : Nat) (v1 : Int32) (v2 : Nat) (v3 : Int32) (v4 : Int32), GO Y X 6 r h 0 0 9 [(0, .ref v0), (1, .int v1), (2, .retAddr v2), (3, .int v3), (4, .int v4)] [] (fX10_wrongDaySign_L9 k88 n h v0 v1 v2 v3 v4) := by
  intro n
  induction n with
  | zero => intros; exact go_none _ _ _
  | succ n ih =>
    intro h v0 v1 v2 v3 v4
    rw [fX10_wrongDaySign_L9]
    refine go_iload (pc := 9) C 4 dX10_wrongDaySign_9 rfl ?_
    refine go_iload_n (pc := 11) C 1 dX10_wrongDaySign_11 rfl ?_
    refine go_icmp_ge (pc := 12) C 88 dX10_wrongDaySign_12 (by decide) (fun _ => ?_) (fun _ => ?_)
    · refine go_sub (ls' := [(1, .int v1), (2, .retAddr v2), (3, .int v3)]) [1, 2, 3] rfl ?_
      exact hk88 h v1 v2 v3
    · refine go_iload (pc := 15) C 4 dX10_wrongDaySign_15 rfl ?_
      refine go_bipush (pc := 17) C dX10_wrongDaySign_17 kb_60 ?_
      refine go_icmp_ge (pc := 19) C 88 dX10_wrongDaySign_19 (by decide) (fun _ => ?_) (fun _ => ?_)
      · refine go_sub (ls' := [(1, .int v1), (2, .retAddr v2), (3, .int v3)]) [1, 2, 3] rfl ?_
        exact hk88 h v1 v2 v3
      · refine go_aload_n (pc := 22) C 0 dX10_wrongDaySign_22 rfl ?_
        refine go_iload (pc := 23) C 4 dX10_wrongDaySign_23 rfl ?_
        refine go_bind (fun q1 hq1 => ?_)
        refine go_callV (rest := []) (st' := [.int q1]) (c' := 0) (s' := 0) (pc := 25) C O miX10_113 mvX10_signAt [.int v4] rfl (mX10_signAt hq1).1 (mX10_signAt hq1).2 dX10_wrongDaySign_25 ⟨by decide, by decide, by decide, by decide⟩ rfl (Nat.le_of_ble_eq_true rfl) rfl ⟨rfl, rfl⟩ ?_
        refine go_istore (ls' := [(5, .int q1), (0, .ref v0), (1, .int v1), (2, .retAddr v2), (3, .int v3), (4, .int v4)]) (pc := 28) C dX10_wrongDaySign_28 (by decide) rfl ?_
        refine go_iload_n (pc := 30) C 4 dX10_wrongDaySign_30 rfl ?_
        refine go_sload_n (pc := 31) C 3 dX10_wrongDaySign_31 rfl ?_
        refine go_bind (fun q2 hq2 => ?_)
        refine go_callVS (rest := [.int v3]) (st' := [.int q2, .int v3]) (c' := 0) (s' := 0) (pc := 32) C O miX10_253 mvSJ0_length_8abf5 [] rfl (mJ0_length_8abf5 hq2).1 (mJ0_length_8abf5 hq2).2 dX10_wrongDaySign_32 ⟨by decide, by decide, by decide, by decide⟩ rfl (Nat.le_of_ble_eq_true rfl) rfl ⟨rfl, rfl⟩ ?_
        refine go_icmp_ge (pc := 35) C 64 dX10_wrongDaySign_35 (by decide) (fun _ => ?_) (fun _ => ?_)
        · refine go_iload (pc := 64) C 0 dX10_wrongDaySign_64 rfl ?_
          refine go_bind (fun q3 hq3 => ?_)
          refine go_callS (rest := []) (st' := [.retAddr q3]) (c' := 0) (s' := 0) (pc := 66) C O miX10_249 w_851 [.int q1] rfl (mX10_actDigits hq3) dX10_wrongDaySign_66 ⟨by decide, by decide, by decide, by decide⟩ rfl (Nat.le_of_ble_eq_true rfl) rfl ⟨rfl, rfl⟩ ?_
          refine go_sstore_n (ls' := [(2, .retAddr q3), (5, .int q1), (0, .ref v0), (1, .int v1), (3, .int v3), (4, .int v4)]) (pc := 69) C dX10_wrongDaySign_69 (by decide) rfl ?_
          refine go_iconst (pc := 70) C dX10_wrongDaySign_70 ki_0 ?_
          refine go_istore_n (ls' := [(3, .int 0), (2, .retAddr q3), (5, .int q1), (0, .ref v0), (1, .int v1), (4, .int v4)]) (pc := 71) C dX10_wrongDaySign_71 (by decide) rfl ?_
          refine go_sload_n (pc := 72) C 1 dX10_wrongDaySign_72 rfl ?_
          refine go_bind (fun q4 hq4 => ?_)
          refine go_callVS (rest := []) (st' := [.int (b2i q4)]) (c' := 0) (s' := 0) (pc := 73) C O miX10_431 mvSJ0_isEmpty_aae02 [] rfl (mJ0_isEmpty_aae02 hq4).1 (mJ0_isEmpty_aae02 hq4).2 dX10_wrongDaySign_73 ⟨by decide, by decide, by decide, by decide⟩ rfl (Nat.le_of_ble_eq_true rfl) rfl ⟨rfl, rfl⟩ ?_
          refine go_ifZ_eq (pc := 76) C 82 dX10_wrongDaySign_76 (by decide) (fun _ => ?_) (fun _ => ?_)
          · refine go_iload (pc := 79) C 5 dX10_wrongDaySign_79 rfl ?_
            exact go_iret (w := wIh) (pc := 81) C E ((v4, h)) v4 dX10_wrongDaySign_81 rfl
          · refine go_iincL (pc := 82) C 5 dX10_wrongDaySign_82 rfl ki_1 (by decide) (fun x5 => [(4, .int x5), (3, .int 0), (2, .retAddr q3), (5, .int q1), (0, .ref v0), (1, .int v1)]) (fun _ => rfl) (fun x5 => ?_)
            refine go_goto (pc := 85) C 9 dX10_wrongDaySign_85 (by decide) ?_
            refine go_sub (ls' := [(0, .ref v0), (1, .int v1), (2, .retAddr q3), (3, .int 0), (4, .int x5)]) [4, 5, 2, 1, 0] rfl ?_
            exact ih h v0 v1 q3 0 x5
        · refine go_iload (pc := 38) C 0 dX10_wrongDaySign_38 rfl ?_
          refine go_bipush (pc := 40) C dX10_wrongDaySign_40 kb_48 ?_
          refine go_icmp_lt (pc := 42) C 55 dX10_wrongDaySign_42 (by decide) (fun _ => ?_) (fun _ => ?_)
          · refine go_iload (pc := 55) C 5 dX10_wrongDaySign_55 rfl ?_
            exact go_iret (w := wIh) (pc := 57) C E ((v4, h)) v4 dX10_wrongDaySign_57 rfl
          · refine go_iload (pc := 45) C 0 dX10_wrongDaySign_45 rfl ?_
            refine go_sload_n (pc := 47) C 3 dX10_wrongDaySign_47 rfl ?_
            refine go_iload_n (pc := 48) C 4 dX10_wrongDaySign_48 rfl ?_
            refine go_bind (fun q6 hq6 => ?_)
            refine go_callVS (rest := [.int q1]) (st' := [.int q6.1, .int q1]) (c' := 0) (s' := 0) (pc := 49) C O miX10_428 mvSJ0_charAt_5068e [.int v3] rfl (mJ0_charAt_5068e hq6).1 (mJ0_charAt_5068e hq6).2 dX10_wrongDaySign_49 ⟨by decide, by decide, by decide, by decide⟩ rfl (Nat.le_of_ble_eq_true rfl) rfl ⟨rfl, rfl⟩ ?_
            refine go_icmp_le (pc := 52) C 58 dX10_wrongDaySign_52 (by decide) (fun _ => ?_) (fun _ => ?_)
            · refine go_iincL (pc := 58) C 4 dX10_wrongDaySign_58 rfl ki_1 (by decide) (fun x7 => [(3, .int x7), (5, .int q1), (0, .ref v0), (1, .int v1), (2, .retAddr v2), (4, .int v4)]) (fun _ => rfl) (fun x7 => ?_)
              refine go_goto (pc := 61) C 82 dX10_wrongDaySign_61 (by decide) ?_
              refine go_iincL (pc := 82) C 5 dX10_wrongDaySign_82 rfl ki_1 (by decide) (fun x8 => [(4, .int x8), (3, .int x7), (5, .int q1), (0, .ref v0), (1, .int v1), (2, .retAddr v2)]) (fun _ => rfl) (fun x8 => ?_)
              refine go_goto (pc := 85) C 9 dX10_wrongDaySign_85 (by decide) ?_
              refine go_sub (ls' := [(0, .ref v0), (1, .int v1), (2, .retAddr v2), (3, .int x7), (4, .int x8)]) [3, 4, 5, 1, 0] rfl ?_
              exact ih q6.2 v0 v1 v2 x7 x8
            · refine go_iload (pc := 55) C 5 dX10_wrongDaySign_55 rfl ?_
              exact go_iret (w := wIh) (pc := 57) C E ((v4, q6.2)) v4 dX10_wrongDaySign_57 rfl
set_option maxHeartbeats 4000000 in
theorem gX10_wrongDaySign_J88 {Y : YT} {X : XT} (C : CT Y X RX10 cX10_wrongDaySign 6) (O : RO X 5 0 0) {r : Int32 × AH} (E : RX Y X (some .int) (some (.int r.1)) r.2 0 0) : ∀ (h : AH) (v1 : Int32) (v2 : Nat) (v3 : Int32), GO Y X 6 r h 0 0 88 [(1, .int v1), (2, .retAddr v2), (3, .int v3)] [] (fX10_wrongDaySign_J88 h v1 v2 v3) := by
  intro h v1 v2 v3
  unfold fX10_wrongDaySign_J88
  refine go_iload_n (pc := 88) C 0 dX10_wrongDaySign_88 rfl ?_
  refine go_bipush (pc := 89) C dX10_wrongDaySign_89 kb_60 ?_
  refine go_icmp_le (pc := 91) C 97 dX10_wrongDaySign_91 (by decide) (fun _ => ?_) (fun _ => ?_)
  · refine go_iload_n (pc := 97) C 2 dX10_wrongDaySign_97 rfl ?_
    refine go_sload_n (pc := 98) C 1 dX10_wrongDaySign_98 rfl ?_
    refine go_bind (fun q9 hq9 => ?_)
    refine go_callVS (rest := [.int v3]) (st' := [.int q9, .int v3]) (c' := 0) (s' := 0) (pc := 99) C O miX10_253 mvSJ0_length_8abf5 [] rfl (mJ0_length_8abf5 hq9).1 (mJ0_length_8abf5 hq9).2 dX10_wrongDaySign_99 ⟨by decide, by decide, by decide, by decide⟩ rfl (Nat.le_of_ble_eq_true rfl) rfl ⟨rfl, rfl⟩ ?_
    refine go_icmp_ge (pc := 102) C 109 dX10_wrongDaySign_102 (by decide) (fun _ => ?_) (fun _ => ?_)
    · refine go_iconst (pc := 109) C dX10_wrongDaySign_109 ki_m1 ?_
      exact go_iret (w := wIh) (pc := 110) C E (((-1), h)) ((-1)) dX10_wrongDaySign_110 rfl
    · refine go_iload_n (pc := 105) C 0 dX10_wrongDaySign_105 rfl ?_
      refine go_goto (pc := 106) C 110 dX10_wrongDaySign_106 (by decide) ?_
      exact go_iret (w := wIh) (pc := 110) C E ((v1, h)) v1 dX10_wrongDaySign_110 rfl
  · refine go_bipush (pc := 94) C dX10_wrongDaySign_94 kb_60 ?_
    exact go_iret (w := wIh) (pc := 96) C E ((60, h)) 60 dX10_wrongDaySign_96 rfl
set_option maxHeartbeats 4000000 in
theorem mX10_wrongDaySign {h : AH} {a0 : Nat} {a1 : Int32} {r : Int32 × AH} (hr : fX10_wrongDaySign h a0 a1 = some r) : hasC h 10 a0 = true ∧ MC yX10_wrongDaySign cX10_wrongDaySign 6 (some .int) 5 0 0 [.ref a0, .int a1] h (some (.int r.1)) r.2 := by
  unfold fX10_wrongDaySign at hr
  obtain ⟨hc, hr⟩ := if_some hr
  refine ⟨hc, mc_of (l0 := [(0, .ref a0), (1, .int a1)]) rfl pn_X10 (Nat.le_of_ble_eq_true rfl) (fun Y X C E O hnm => go_run hr ?_)⟩
  have C : CT Y X RX10 cX10_wrongDaySign 6 := C
  refine go_ldcSw (pc := 0) C 0 (by decide) dX10_wrongDaySign_0 ?_
  refine go_sstore_n (ls' := [(2, .retAddr 0), (0, .ref a0), (1, .int a1)]) (pc := 3) C dX10_wrongDaySign_3 (by decide) rfl ?_
  refine go_iconst (pc := 4) C dX10_wrongDaySign_4 ki_0 ?_
  refine go_istore_n (ls' := [(3, .int 0), (2, .retAddr 0), (0, .ref a0), (1, .int a1)]) (pc := 5) C dX10_wrongDaySign_5 (by decide) rfl ?_
  refine go_iconst (pc := 6) C dX10_wrongDaySign_6 ki_0 ?_
  refine go_istore (ls' := [(4, .int 0), (3, .int 0), (2, .retAddr 0), (0, .ref a0), (1, .int a1)]) (pc := 7) C dX10_wrongDaySign_7 (by decide) rfl ?_
  refine go_sub (ls' := [(0, .ref a0), (1, .int a1), (2, .retAddr 0), (3, .int 0), (4, .int 0)]) [3, 4, 2, 1, 0] rfl ?_
  refine gX10_wrongDaySign_L9 C O E (fun h13 x10 x11 x12 => ?_) FU h a0 a1 0 0 0
  · refine go_sub (ls' := [(1, .int x10), (2, .retAddr x11), (3, .int x12)]) [0, 1, 2] rfl ?_
    refine gX10_wrongDaySign_J88 C O E h13 x10 x11 x12
theorem dX10_actAt_0 : decode cX10_actAt 0 = .ok (.aload_n 0, 1) := by decide +kernel
theorem dX10_actAt_1 : decode cX10_actAt 1 = .ok (.iload_n 1, 1) := by decide +kernel
theorem dX10_actAt_2 : decode cX10_actAt 2 = .ok (.iconst 1, 1) := by decide +kernel
theorem dX10_actAt_3 : decode cX10_actAt 3 = .ok (.iadd, 1) := by decide +kernel
theorem dX10_actAt_4 : decode cX10_actAt 4 = .ok (.invokevirtual 106, 3) := by decide +kernel
theorem dX10_actAt_7 : decode cX10_actAt 7 = .ok (.istore_n 2, 1) := by decide +kernel
theorem dX10_actAt_8 : decode cX10_actAt 8 = .ok (.aload_n 0, 1) := by decide +kernel
theorem dX10_actAt_9 : decode cX10_actAt 9 = .ok (.iload_n 1, 1) := by decide +kernel
theorem dX10_actAt_10 : decode cX10_actAt 10 = .ok (.invokevirtual 113, 3) := by decide +kernel
theorem dX10_actAt_13 : decode cX10_actAt 13 = .ok (.lookupswitch 158 #[(97, 129), (101, 111), (102, 102), (114, 59), (116, 120), (119, 75)], 59) := by decide +kernel
theorem dX10_actAt_72 : decode cX10_actAt 72 = .ok (.aload_n 0, 1) := by decide +kernel
theorem dX10_actAt_73 : decode cX10_actAt 73 = .ok (.getfield 16, 3) := by decide +kernel
theorem dX10_actAt_76 : decode cX10_actAt 76 = .ok (.iload_n 2, 1) := by decide +kernel
theorem dX10_actAt_77 : decode cX10_actAt 77 = .ok (.aload_n 0, 1) := by decide +kernel
theorem dX10_actAt_78 : decode cX10_actAt 78 = .ok (.iload_n 1, 1) := by decide +kernel
theorem dX10_actAt_79 : decode cX10_actAt 79 = .ok (.iconst 2, 1) := by decide +kernel
theorem dX10_actAt_80 : decode cX10_actAt 80 = .ok (.iadd, 1) := by decide +kernel
theorem dX10_actAt_81 : decode cX10_actAt 81 = .ok (.invokevirtual 106, 3) := by decide +kernel
theorem dX10_actAt_84 : decode cX10_actAt 84 = .ok (.invokevirtual 206, 3) := by decide +kernel
theorem dX10_actAt_87 : decode cX10_actAt 87 = .ok (.ireturn, 1) := by decide +kernel
theorem dX10_actAt_88 : decode cX10_actAt 88 = .ok (.aload_n 0, 1) := by decide +kernel
theorem dX10_actAt_89 : decode cX10_actAt 89 = .ok (.getfield 16, 3) := by decide +kernel
theorem dX10_actAt_92 : decode cX10_actAt 92 = .ok (.iload_n 2, 1) := by decide +kernel
theorem dX10_actAt_93 : decode cX10_actAt 93 = .ok (.aload_n 0, 1) := by decide +kernel
theorem dX10_actAt_94 : decode cX10_actAt 94 = .ok (.iload_n 1, 1) := by decide +kernel
theorem dX10_actAt_95 : decode cX10_actAt 95 = .ok (.iconst 2, 1) := by decide +kernel
theorem dX10_actAt_96 : decode cX10_actAt 96 = .ok (.iadd, 1) := by decide +kernel
theorem dX10_actAt_97 : decode cX10_actAt 97 = .ok (.invokevirtual 106, 3) := by decide +kernel
theorem dX10_actAt_100 : decode cX10_actAt 100 = .ok (.aload_n 0, 1) := by decide +kernel
theorem dX10_actAt_101 : decode cX10_actAt 101 = .ok (.iload_n 1, 1) := by decide +kernel
theorem dX10_actAt_102 : decode cX10_actAt 102 = .ok (.iconst 3, 1) := by decide +kernel
theorem dX10_actAt_103 : decode cX10_actAt 103 = .ok (.iadd, 1) := by decide +kernel
theorem dX10_actAt_104 : decode cX10_actAt 104 = .ok (.invokevirtual 117, 3) := by decide +kernel
theorem dX10_actAt_107 : decode cX10_actAt 107 = .ok (.aload_n 0, 1) := by decide +kernel
theorem dX10_actAt_108 : decode cX10_actAt 108 = .ok (.getfield 33, 3) := by decide +kernel
theorem dX10_actAt_111 : decode cX10_actAt 111 = .ok (.invokevirtual 220, 3) := by decide +kernel
theorem dX10_actAt_114 : decode cX10_actAt 114 = .ok (.ireturn, 1) := by decide +kernel
theorem dX10_actAt_115 : decode cX10_actAt 115 = .ok (.aload_n 0, 1) := by decide +kernel
theorem dX10_actAt_116 : decode cX10_actAt 116 = .ok (.getfield 16, 3) := by decide +kernel
theorem dX10_actAt_119 : decode cX10_actAt 119 = .ok (.iload_n 2, 1) := by decide +kernel
theorem dX10_actAt_120 : decode cX10_actAt 120 = .ok (.invokevirtual 224, 3) := by decide +kernel
theorem dX10_actAt_123 : decode cX10_actAt 123 = .ok (.ireturn, 1) := by decide +kernel
theorem dX10_actAt_124 : decode cX10_actAt 124 = .ok (.aload_n 0, 1) := by decide +kernel
theorem dX10_actAt_125 : decode cX10_actAt 125 = .ok (.getfield 16, 3) := by decide +kernel
theorem dX10_actAt_128 : decode cX10_actAt 128 = .ok (.iload_n 2, 1) := by decide +kernel
theorem dX10_actAt_129 : decode cX10_actAt 129 = .ok (.invokevirtual 227, 3) := by decide +kernel
theorem dX10_actAt_132 : decode cX10_actAt 132 = .ok (.ireturn, 1) := by decide +kernel
theorem dX10_actAt_133 : decode cX10_actAt 133 = .ok (.aload_n 0, 1) := by decide +kernel
theorem dX10_actAt_134 : decode cX10_actAt 134 = .ok (.getfield 16, 3) := by decide +kernel
theorem dX10_actAt_137 : decode cX10_actAt 137 = .ok (.iload_n 2, 1) := by decide +kernel
theorem dX10_actAt_138 : decode cX10_actAt 138 = .ok (.invokevirtual 233, 3) := by decide +kernel
theorem dX10_actAt_141 : decode cX10_actAt 141 = .ok (.ireturn, 1) := by decide +kernel
theorem dX10_actAt_142 : decode cX10_actAt 142 = .ok (.aload_n 0, 1) := by decide +kernel
theorem dX10_actAt_143 : decode cX10_actAt 143 = .ok (.getfield 16, 3) := by decide +kernel
theorem dX10_actAt_146 : decode cX10_actAt 146 = .ok (.aload_n 0, 1) := by decide +kernel
theorem dX10_actAt_147 : decode cX10_actAt 147 = .ok (.iload_n 1, 1) := by decide +kernel
theorem dX10_actAt_148 : decode cX10_actAt 148 = .ok (.iconst 1, 1) := by decide +kernel
theorem dX10_actAt_149 : decode cX10_actAt 149 = .ok (.iadd, 1) := by decide +kernel
theorem dX10_actAt_150 : decode cX10_actAt 150 = .ok (.invokevirtual 117, 3) := by decide +kernel
theorem dX10_actAt_153 : decode cX10_actAt 153 = .ok (.aload_n 0, 1) := by decide +kernel
theorem dX10_actAt_154 : decode cX10_actAt 154 = .ok (.iload_n 1, 1) := by decide +kernel
theorem dX10_actAt_155 : decode cX10_actAt 155 = .ok (.iconst 3, 1) := by decide +kernel
theorem dX10_actAt_156 : decode cX10_actAt 156 = .ok (.iadd, 1) := by decide +kernel
theorem dX10_actAt_157 : decode cX10_actAt 157 = .ok (.invokevirtual 106, 3) := by decide +kernel
theorem dX10_actAt_160 : decode cX10_actAt 160 = .ok (.aload_n 0, 1) := by decide +kernel
theorem dX10_actAt_161 : decode cX10_actAt 161 = .ok (.iload_n 1, 1) := by decide +kernel
theorem dX10_actAt_162 : decode cX10_actAt 162 = .ok (.iconst 4, 1) := by decide +kernel
theorem dX10_actAt_163 : decode cX10_actAt 163 = .ok (.iadd, 1) := by decide +kernel
theorem dX10_actAt_164 : decode cX10_actAt 164 = .ok (.invokevirtual 117, 3) := by decide +kernel
theorem dX10_actAt_167 : decode cX10_actAt 167 = .ok (.invokevirtual 230, 3) := by decide +kernel
theorem dX10_actAt_170 : decode cX10_actAt 170 = .ok (.ireturn, 1) := by decide +kernel
theorem dX10_actAt_171 : decode cX10_actAt 171 = .ok (.iconst (-1), 1) := by decide +kernel
theorem dX10_actAt_172 : decode cX10_actAt 172 = .ok (.ireturn, 1) := by decide +kernel
def fX10_actAt (h : AH) (a0 : Nat) (a1 : Int32) : Option (Int32 × AH) :=
  if hasC h 10 a0 = true then (
    (fX10_digitAt h a0 (a1 + 1)).bind fun q1 =>
    (fX10_signAt h a0 a1).bind fun q2 =>
    if q2 = 97 then (
      (gR h 10 a0 2).bind fun x4 =>
      (fX10_numberAt h a0 (a1 + 1)).bind fun q5 =>
      (fX10_digitAt h a0 (a1 + 3)).bind fun q6 =>
      (fX10_numberAt h a0 (a1 + 4)).bind fun q7 =>
      (fX9_arrivePage h x4 q5 q6 q7).bind fun q8 =>
      some ((q8.1, q8.2))
    ) else (
      if q2 = 101 then (
        (gR h 10 a0 2).bind fun x10 =>
        (fX9_endSpace h x10 q1).bind fun q11 =>
        some ((q11.1, q11.2))
      ) else (
        if q2 = 102 then (
          (gR h 10 a0 2).bind fun x13 =>
          (fX9_forkSpace h x13 q1).bind fun q14 =>
          some ((q14.1, q14.2))
        ) else (
          if q2 = 114 then (
            (gR h 10 a0 2).bind fun x16 =>
            (fX10_digitAt h a0 (a1 + 2)).bind fun q17 =>
            (fX9_readPage h x16 q1 q17).bind fun q18 =>
            some ((q18.1, q18.2))
          ) else (
            if q2 = 116 then (
              (gR h 10 a0 2).bind fun x20 =>
              (fX9_tidyChain h x20 q1).bind fun q21 =>
              some ((q21.1, q21.2))
            ) else (
              if q2 = 119 then (
                (gR h 10 a0 2).bind fun x23 =>
                (fX10_digitAt h a0 (a1 + 2)).bind fun q24 =>
                (fX10_numberAt h a0 (a1 + 3)).bind fun q25 =>
                (gR h 10 a0 5).bind fun x26 =>
                (fX9_writePage h x23 q1 q24 q25 x26).bind fun q27 =>
                some ((q27.1, q27.2))
              ) else (
                some (((-1), h))))))))
  ) else none
set_option maxHeartbeats 4000000 in
theorem mX10_actAt {h : AH} {a0 : Nat} {a1 : Int32} {r : Int32 × AH} (hr : fX10_actAt h a0 a1 = some r) : hasC h 10 a0 = true ∧ MC yX10_actAt cX10_actAt 3 (some .int) 7 0 0 [.ref a0, .int a1] h (some (.int r.1)) r.2 := by
  unfold fX10_actAt at hr
  obtain ⟨hc, hr⟩ := if_some hr
  refine ⟨hc, mc_of (l0 := [(0, .ref a0), (1, .int a1)]) rfl pn_X10 (Nat.le_of_ble_eq_true rfl) (fun Y X C E O hnm => go_run hr ?_)⟩
  have C : CT Y X RX10 cX10_actAt 3 := C
  refine go_aload_n (pc := 0) C 0 dX10_actAt_0 rfl ?_
  refine go_iload_n (pc := 1) C 1 dX10_actAt_1 rfl ?_
  refine go_iconst (pc := 2) C dX10_actAt_2 ki_1 ?_
  refine go_iadd (pc := 3) C dX10_actAt_3 ?_
  refine go_bind (fun q1 hq1 => ?_)
  refine go_callV (rest := []) (st' := [.int q1]) (c' := 0) (s' := 0) (pc := 4) C O miX10_106 mvX10_digitAt [.int (a1 + 1)] rfl (mX10_digitAt hq1).1 (mX10_digitAt hq1).2 dX10_actAt_4 ⟨by decide, by decide, by decide, by decide⟩ rfl (Nat.le_of_ble_eq_true rfl) rfl ⟨rfl, rfl⟩ ?_
  refine go_istore_n (ls' := [(2, .int q1), (0, .ref a0), (1, .int a1)]) (pc := 7) C dX10_actAt_7 (by decide) rfl ?_
  refine go_aload_n (pc := 8) C 1 dX10_actAt_8 rfl ?_
  refine go_iload_n (pc := 9) C 2 dX10_actAt_9 rfl ?_
  refine go_bind (fun q2 hq2 => ?_)
  refine go_callV (rest := []) (st' := [.int q2]) (c' := 0) (s' := 0) (pc := 10) C O miX10_113 mvX10_signAt [.int a1] rfl (mX10_signAt hq2).1 (mX10_signAt hq2).2 dX10_actAt_10 ⟨by decide, by decide, by decide, by decide⟩ rfl (Nat.le_of_ble_eq_true rfl) rfl ⟨rfl, rfl⟩ ?_
  refine go_ite (fun hc3 => ?_) (fun hc3 => ?_)
  · refine go_lsw (pc := 13) C 142 dX10_actAt_13 (by decide) (by rw [hc3] <;> decide) (by decide) ?_
    refine go_aload_n (pc := 142) C 1 dX10_actAt_142 rfl ?_
    refine go_gR (pc := 143) C fdX10_16 dX10_actAt_143 (fun x4 => ?_)
    refine go_aload_n (pc := 146) C 1 dX10_actAt_146 rfl ?_
    refine go_iload_n (pc := 147) C 2 dX10_actAt_147 rfl ?_
    refine go_iconst (pc := 148) C dX10_actAt_148 ki_1 ?_
    refine go_iadd (pc := 149) C dX10_actAt_149 ?_
    refine go_bind (fun q5 hq5 => ?_)
    refine go_callV (rest := [.ref x4]) (st' := [.int q5, .ref x4]) (c' := 0) (s' := 0) (pc := 150) C O miX10_117 mvX10_numberAt [.int (a1 + 1)] rfl (mX10_numberAt hq5).1 (mX10_numberAt hq5).2 dX10_actAt_150 ⟨by decide, by decide, by decide, by decide⟩ rfl (Nat.le_of_ble_eq_true rfl) rfl ⟨rfl, rfl⟩ ?_
    refine go_aload_n (pc := 153) C 1 dX10_actAt_153 rfl ?_
    refine go_iload_n (pc := 154) C 2 dX10_actAt_154 rfl ?_
    refine go_iconst (pc := 155) C dX10_actAt_155 ki_3 ?_
    refine go_iadd (pc := 156) C dX10_actAt_156 ?_
    refine go_bind (fun q6 hq6 => ?_)
    refine go_callV (rest := [.int q5, .ref x4]) (st' := [.int q6, .int q5, .ref x4]) (c' := 0) (s' := 0) (pc := 157) C O miX10_106 mvX10_digitAt [.int (a1 + 3)] rfl (mX10_digitAt hq6).1 (mX10_digitAt hq6).2 dX10_actAt_157 ⟨by decide, by decide, by decide, by decide⟩ rfl (Nat.le_of_ble_eq_true rfl) rfl ⟨rfl, rfl⟩ ?_
    refine go_aload_n (pc := 160) C 1 dX10_actAt_160 rfl ?_
    refine go_iload_n (pc := 161) C 2 dX10_actAt_161 rfl ?_
    refine go_iconst (pc := 162) C dX10_actAt_162 ki_4 ?_
    refine go_iadd (pc := 163) C dX10_actAt_163 ?_
    refine go_bind (fun q7 hq7 => ?_)
    refine go_callV (rest := [.int q6, .int q5, .ref x4]) (st' := [.int q7, .int q6, .int q5, .ref x4]) (c' := 0) (s' := 0) (pc := 164) C O miX10_117 mvX10_numberAt [.int (a1 + 4)] rfl (mX10_numberAt hq7).1 (mX10_numberAt hq7).2 dX10_actAt_164 ⟨by decide, by decide, by decide, by decide⟩ rfl (Nat.le_of_ble_eq_true rfl) rfl ⟨rfl, rfl⟩ ?_
    refine go_bind (fun q8 hq8 => ?_)
    refine go_callV (rest := []) (st' := [.int q8.1]) (c' := 0) (s' := 0) (pc := 167) C O miX10_230 mvX9_arrivePage [.int q5, .int q6, .int q7] rfl (mX9_arrivePage hq8).1 (mX9_arrivePage hq8).2 dX10_actAt_167 ⟨by decide, by decide, by decide, by decide⟩ rfl (Nat.le_of_ble_eq_true rfl) rfl ⟨rfl, rfl⟩ ?_
    exact go_iret (w := wIh) (pc := 170) C E ((q8.1, q8.2)) q8.1 dX10_actAt_170 rfl
  · refine go_ite (fun hc9 => ?_) (fun hc9 => ?_)
    · refine go_lsw (pc := 13) C 124 dX10_actAt_13 (by decide) (by rw [hc9] <;> decide) (by decide) ?_
      refine go_aload_n (pc := 124) C 1 dX10_actAt_124 rfl ?_
      refine go_gR (pc := 125) C fdX10_16 dX10_actAt_125 (fun x10 => ?_)
      refine go_iload_n (pc := 128) C 0 dX10_actAt_128 rfl ?_
      refine go_bind (fun q11 hq11 => ?_)
      refine go_callV (rest := []) (st' := [.int q11.1]) (c' := 0) (s' := 0) (pc := 129) C O miX10_227 mvX9_endSpace [.int q1] rfl (mX9_endSpace hq11).1 (mX9_endSpace hq11).2 dX10_actAt_129 ⟨by decide, by decide, by decide, by decide⟩ rfl (Nat.le_of_ble_eq_true rfl) rfl ⟨rfl, rfl⟩ ?_
      exact go_iret (w := wIh) (pc := 132) C E ((q11.1, q11.2)) q11.1 dX10_actAt_132 rfl
    · refine go_ite (fun hc12 => ?_) (fun hc12 => ?_)
      · refine go_lsw (pc := 13) C 115 dX10_actAt_13 (by decide) (by rw [hc12] <;> decide) (by decide) ?_
        refine go_aload_n (pc := 115) C 1 dX10_actAt_115 rfl ?_
        refine go_gR (pc := 116) C fdX10_16 dX10_actAt_116 (fun x13 => ?_)
        refine go_iload_n (pc := 119) C 0 dX10_actAt_119 rfl ?_
        refine go_bind (fun q14 hq14 => ?_)
        refine go_callV (rest := []) (st' := [.int q14.1]) (c' := 0) (s' := 0) (pc := 120) C O miX10_224 mvX9_forkSpace [.int q1] rfl (mX9_forkSpace hq14).1 (mX9_forkSpace hq14).2 dX10_actAt_120 ⟨by decide, by decide, by decide, by decide⟩ rfl (Nat.le_of_ble_eq_true rfl) rfl ⟨rfl, rfl⟩ ?_
        exact go_iret (w := wIh) (pc := 123) C E ((q14.1, q14.2)) q14.1 dX10_actAt_123 rfl
      · refine go_ite (fun hc15 => ?_) (fun hc15 => ?_)
        · refine go_lsw (pc := 13) C 72 dX10_actAt_13 (by decide) (by rw [hc15] <;> decide) (by decide) ?_
          refine go_aload_n (pc := 72) C 1 dX10_actAt_72 rfl ?_
          refine go_gR (pc := 73) C fdX10_16 dX10_actAt_73 (fun x16 => ?_)
          refine go_iload_n (pc := 76) C 0 dX10_actAt_76 rfl ?_
          refine go_aload_n (pc := 77) C 1 dX10_actAt_77 rfl ?_
          refine go_iload_n (pc := 78) C 2 dX10_actAt_78 rfl ?_
          refine go_iconst (pc := 79) C dX10_actAt_79 ki_2 ?_
          refine go_iadd (pc := 80) C dX10_actAt_80 ?_
          refine go_bind (fun q17 hq17 => ?_)
          refine go_callV (rest := [.int q1, .ref x16]) (st' := [.int q17, .int q1, .ref x16]) (c' := 0) (s' := 0) (pc := 81) C O miX10_106 mvX10_digitAt [.int (a1 + 2)] rfl (mX10_digitAt hq17).1 (mX10_digitAt hq17).2 dX10_actAt_81 ⟨by decide, by decide, by decide, by decide⟩ rfl (Nat.le_of_ble_eq_true rfl) rfl ⟨rfl, rfl⟩ ?_
          refine go_bind (fun q18 hq18 => ?_)
          refine go_callV (rest := []) (st' := [.int q18.1]) (c' := 0) (s' := 0) (pc := 84) C O miX10_206 mvX9_readPage [.int q1, .int q17] rfl (mX9_readPage hq18).1 (mX9_readPage hq18).2 dX10_actAt_84 ⟨by decide, by decide, by decide, by decide⟩ rfl (Nat.le_of_ble_eq_true rfl) rfl ⟨rfl, rfl⟩ ?_
          exact go_iret (w := wIh) (pc := 87) C E ((q18.1, q18.2)) q18.1 dX10_actAt_87 rfl
        · refine go_ite (fun hc19 => ?_) (fun hc19 => ?_)
          · refine go_lsw (pc := 13) C 133 dX10_actAt_13 (by decide) (by rw [hc19] <;> decide) (by decide) ?_
            refine go_aload_n (pc := 133) C 1 dX10_actAt_133 rfl ?_
            refine go_gR (pc := 134) C fdX10_16 dX10_actAt_134 (fun x20 => ?_)
            refine go_iload_n (pc := 137) C 0 dX10_actAt_137 rfl ?_
            refine go_bind (fun q21 hq21 => ?_)
            refine go_callV (rest := []) (st' := [.int q21.1]) (c' := 0) (s' := 0) (pc := 138) C O miX10_233 mvX9_tidyChain [.int q1] rfl (mX9_tidyChain hq21).1 (mX9_tidyChain hq21).2 dX10_actAt_138 ⟨by decide, by decide, by decide, by decide⟩ rfl (Nat.le_of_ble_eq_true rfl) rfl ⟨rfl, rfl⟩ ?_
            exact go_iret (w := wIh) (pc := 141) C E ((q21.1, q21.2)) q21.1 dX10_actAt_141 rfl
          · refine go_ite (fun hc22 => ?_) (fun hc22 => ?_)
            · refine go_lsw (pc := 13) C 88 dX10_actAt_13 (by decide) (by rw [hc22] <;> decide) (by decide) ?_
              refine go_aload_n (pc := 88) C 1 dX10_actAt_88 rfl ?_
              refine go_gR (pc := 89) C fdX10_16 dX10_actAt_89 (fun x23 => ?_)
              refine go_iload_n (pc := 92) C 0 dX10_actAt_92 rfl ?_
              refine go_aload_n (pc := 93) C 1 dX10_actAt_93 rfl ?_
              refine go_iload_n (pc := 94) C 2 dX10_actAt_94 rfl ?_
              refine go_iconst (pc := 95) C dX10_actAt_95 ki_2 ?_
              refine go_iadd (pc := 96) C dX10_actAt_96 ?_
              refine go_bind (fun q24 hq24 => ?_)
              refine go_callV (rest := [.int q1, .ref x23]) (st' := [.int q24, .int q1, .ref x23]) (c' := 0) (s' := 0) (pc := 97) C O miX10_106 mvX10_digitAt [.int (a1 + 2)] rfl (mX10_digitAt hq24).1 (mX10_digitAt hq24).2 dX10_actAt_97 ⟨by decide, by decide, by decide, by decide⟩ rfl (Nat.le_of_ble_eq_true rfl) rfl ⟨rfl, rfl⟩ ?_
              refine go_aload_n (pc := 100) C 1 dX10_actAt_100 rfl ?_
              refine go_iload_n (pc := 101) C 2 dX10_actAt_101 rfl ?_
              refine go_iconst (pc := 102) C dX10_actAt_102 ki_3 ?_
              refine go_iadd (pc := 103) C dX10_actAt_103 ?_
              refine go_bind (fun q25 hq25 => ?_)
              refine go_callV (rest := [.int q24, .int q1, .ref x23]) (st' := [.int q25, .int q24, .int q1, .ref x23]) (c' := 0) (s' := 0) (pc := 104) C O miX10_117 mvX10_numberAt [.int (a1 + 3)] rfl (mX10_numberAt hq25).1 (mX10_numberAt hq25).2 dX10_actAt_104 ⟨by decide, by decide, by decide, by decide⟩ rfl (Nat.le_of_ble_eq_true rfl) rfl ⟨rfl, rfl⟩ ?_
              refine go_aload_n (pc := 107) C 1 dX10_actAt_107 rfl ?_
              refine go_gR (pc := 108) C fdX10_33 dX10_actAt_108 (fun x26 => ?_)
              refine go_bind (fun q27 hq27 => ?_)
              refine go_callV (rest := []) (st' := [.int q27.1]) (c' := 0) (s' := 0) (pc := 111) C O miX10_220 mvX9_writePage [.int q1, .int q24, .int q25, .ref x26] rfl (mX9_writePage hq27).1 (mX9_writePage hq27).2 dX10_actAt_111 ⟨by decide, by decide, by decide, by decide⟩ rfl (Nat.le_of_ble_eq_true rfl) rfl ⟨rfl, rfl⟩ ?_
              exact go_iret (w := wIh) (pc := 114) C E ((q27.1, q27.2)) q27.1 dX10_actAt_114 rfl
            · refine go_lsw_else (pc := 13) C 171 dX10_actAt_13 (by decide) (fun q hq => by simp only [List.mem_cons, List.not_mem_nil, or_false] at hq; rcases hq with rfl | rfl | rfl | rfl | rfl | rfl <;> first | exact i32_ne hc3 (by decide) | exact i32_ne hc9 (by decide) | exact i32_ne hc12 (by decide) | exact i32_ne hc15 (by decide) | exact i32_ne hc19 (by decide) | exact i32_ne hc22 (by decide)) (by decide) ?_
              refine go_iconst (pc := 171) C dX10_actAt_171 ki_m1 ?_
              exact go_iret (w := wIh) (pc := 172) C E (((-1), h)) ((-1)) dX10_actAt_172 rfl
theorem dX10_day_0 : decode cX10_day 0 = .ok (.aload_n 0, 1) := by decide +kernel
theorem dX10_day_1 : decode cX10_day 1 = .ok (.invokevirtual 82, 3) := by decide +kernel
theorem dX10_day_4 : decode cX10_day 4 = .ok (.istore_n 1, 1) := by decide +kernel
theorem dX10_day_5 : decode cX10_day 5 = .ok (.aload_n 0, 1) := by decide +kernel
theorem dX10_day_6 : decode cX10_day 6 = .ok (.iload_n 1, 1) := by decide +kernel
theorem dX10_day_7 : decode cX10_day 7 = .ok (.invokevirtual 240, 3) := by decide +kernel
theorem dX10_day_10 : decode cX10_day 10 = .ok (.istore_n 2, 1) := by decide +kernel
theorem dX10_day_11 : decode cX10_day 11 = .ok (.iload_n 2, 1) := by decide +kernel
theorem dX10_day_12 : decode cX10_day 12 = .ok (.iconst (-1), 1) := by decide +kernel
theorem dX10_day_13 : decode cX10_day 13 = .ok (.if_icmp .eq 7, 3) := by decide +kernel
theorem dX10_day_16 : decode cX10_day 16 = .ok (.iconst (-1), 1) := by decide +kernel
theorem dX10_day_17 : decode cX10_day 17 = .ok (.iload_n 2, 1) := by decide +kernel
theorem dX10_day_18 : decode cX10_day 18 = .ok (.isub, 1) := by decide +kernel
theorem dX10_day_19 : decode cX10_day 19 = .ok (.ireturn, 1) := by decide +kernel
theorem dX10_day_20 : decode cX10_day 20 = .ok (.aload_n 0, 1) := by decide +kernel
theorem dX10_day_21 : decode cX10_day 21 = .ok (.getfield 26, 3) := by decide +kernel
theorem dX10_day_24 : decode cX10_day 24 = .ok (.aload_n 0, 1) := by decide +kernel
theorem dX10_day_25 : decode cX10_day 25 = .ok (.getfield 16, 3) := by decide +kernel
theorem dX10_day_28 : decode cX10_day 28 = .ok (.invokevirtual 102, 3) := by decide +kernel
theorem dX10_day_31 : decode cX10_day 31 = .ok (.aload_n 0, 1) := by decide +kernel
theorem dX10_day_32 : decode cX10_day 32 = .ok (.getfield 16, 3) := by decide +kernel
theorem dX10_day_35 : decode cX10_day 35 = .ok (.invokevirtual 243, 3) := by decide +kernel
theorem dX10_day_38 : decode cX10_day 38 = .ok (.istore_n 3, 1) := by decide +kernel
theorem dX10_day_39 : decode cX10_day 39 = .ok (.iconst 0, 1) := by decide +kernel
theorem dX10_day_40 : decode cX10_day 40 = .ok (.istore 4, 2) := by decide +kernel
theorem dX10_day_42 : decode cX10_day 42 = .ok (.iconst 0, 1) := by decide +kernel
theorem dX10_day_43 : decode cX10_day 43 = .ok (.istore 5, 2) := by decide +kernel
theorem dX10_day_45 : decode cX10_day 45 = .ok (.iconst 0, 1) := by decide +kernel
theorem dX10_day_46 : decode cX10_day 46 = .ok (.istore 6, 2) := by decide +kernel
theorem dX10_day_48 : decode cX10_day 48 = .ok (.iload 6, 2) := by decide +kernel
theorem dX10_day_50 : decode cX10_day 50 = .ok (.iload_n 1, 1) := by decide +kernel
theorem dX10_day_51 : decode cX10_day 51 = .ok (.if_icmp .ge 61, 3) := by decide +kernel
theorem dX10_day_54 : decode cX10_day 54 = .ok (.iload 5, 2) := by decide +kernel
theorem dX10_day_56 : decode cX10_day 56 = .ok (.ifCond .ne 56, 3) := by decide +kernel
theorem dX10_day_59 : decode cX10_day 59 = .ok (.aload_n 0, 1) := by decide +kernel
theorem dX10_day_60 : decode cX10_day 60 = .ok (.iload 6, 2) := by decide +kernel
theorem dX10_day_62 : decode cX10_day 62 = .ok (.invokevirtual 246, 3) := by decide +kernel
theorem dX10_day_65 : decode cX10_day 65 = .ok (.ifCond .ge 7, 3) := by decide +kernel
theorem dX10_day_68 : decode cX10_day 68 = .ok (.iconst 1, 1) := by decide +kernel
theorem dX10_day_69 : decode cX10_day 69 = .ok (.goto 4, 3) := by decide +kernel
theorem dX10_day_72 : decode cX10_day 72 = .ok (.iconst 0, 1) := by decide +kernel
theorem dX10_day_73 : decode cX10_day 73 = .ok (.istore 5, 2) := by decide +kernel
theorem dX10_day_75 : decode cX10_day 75 = .ok (.iload 4, 2) := by decide +kernel
theorem dX10_day_77 : decode cX10_day 77 = .ok (.iload 5, 2) := by decide +kernel
theorem dX10_day_79 : decode cX10_day 79 = .ok (.ifCond .eq 7, 3) := by decide +kernel
theorem dX10_day_82 : decode cX10_day 82 = .ok (.iconst 0, 1) := by decide +kernel
theorem dX10_day_83 : decode cX10_day 83 = .ok (.goto 4, 3) := by decide +kernel
theorem dX10_day_86 : decode cX10_day 86 = .ok (.iconst 1, 1) := by decide +kernel
theorem dX10_day_87 : decode cX10_day 87 = .ok (.iadd, 1) := by decide +kernel
theorem dX10_day_88 : decode cX10_day 88 = .ok (.istore 4, 2) := by decide +kernel
theorem dX10_day_90 : decode cX10_day 90 = .ok (.iload 6, 2) := by decide +kernel
theorem dX10_day_92 : decode cX10_day 92 = .ok (.iconst 1, 1) := by decide +kernel
theorem dX10_day_93 : decode cX10_day 93 = .ok (.aload_n 0, 1) := by decide +kernel
theorem dX10_day_94 : decode cX10_day 94 = .ok (.iload 6, 2) := by decide +kernel
theorem dX10_day_96 : decode cX10_day 96 = .ok (.invokevirtual 113, 3) := by decide +kernel
theorem dX10_day_99 : decode cX10_day 99 = .ok (.invokestatic 249, 3) := by decide +kernel
theorem dX10_day_102 : decode cX10_day 102 = .ok (.invokevirtual 253, 3) := by decide +kernel
theorem dX10_day_105 : decode cX10_day 105 = .ok (.iadd, 1) := by decide +kernel
theorem dX10_day_106 : decode cX10_day 106 = .ok (.iadd, 1) := by decide +kernel
theorem dX10_day_107 : decode cX10_day 107 = .ok (.istore 6, 2) := by decide +kernel
theorem dX10_day_109 : decode cX10_day 109 = .ok (.goto (-61), 3) := by decide +kernel
theorem dX10_day_112 : decode cX10_day 112 = .ok (.aload_n 0, 1) := by decide +kernel
theorem dX10_day_113 : decode cX10_day 113 = .ok (.iload 4, 2) := by decide +kernel
theorem dX10_day_115 : decode cX10_day 115 = .ok (.ifCond .gt 14, 3) := by decide +kernel
theorem dX10_day_118 : decode cX10_day 118 = .ok (.aload_n 0, 1) := by decide +kernel
theorem dX10_day_119 : decode cX10_day 119 = .ok (.getfield 16, 3) := by decide +kernel
theorem dX10_day_122 : decode cX10_day 122 = .ok (.invokevirtual 243, 3) := by decide +kernel
theorem dX10_day_125 : decode cX10_day 125 = .ok (.iload_n 3, 1) := by decide +kernel
theorem dX10_day_126 : decode cX10_day 126 = .ok (.if_icmp .le 7, 3) := by decide +kernel
theorem dX10_day_129 : decode cX10_day 129 = .ok (.iconst 1, 1) := by decide +kernel
theorem dX10_day_130 : decode cX10_day 130 = .ok (.goto 4, 3) := by decide +kernel
theorem dX10_day_133 : decode cX10_day 133 = .ok (.iconst 0, 1) := by decide +kernel
theorem dX10_day_134 : decode cX10_day 134 = .ok (.invokevirtual 216, 3) := by decide +kernel
theorem dX10_day_137 : decode cX10_day 137 = .ok (.aload_n 0, 1) := by decide +kernel
theorem dX10_day_138 : decode cX10_day 138 = .ok (.getfield 50, 3) := by decide +kernel
theorem dX10_day_141 : decode cX10_day 141 = .ok (.invokevirtual 209, 3) := by decide +kernel
theorem dX10_day_144 : decode cX10_day 144 = .ok (.aload_n 0, 1) := by decide +kernel
theorem dX10_day_145 : decode cX10_day 145 = .ok (.getfield 50, 3) := by decide +kernel
theorem dX10_day_148 : decode cX10_day 148 = .ok (.iload 5, 2) := by decide +kernel
theorem dX10_day_150 : decode cX10_day 150 = .ok (.ifCond .eq 7, 3) := by decide +kernel
theorem dX10_day_153 : decode cX10_day 153 = .ok (.lconst 1, 1) := by decide +kernel
theorem dX10_day_154 : decode cX10_day 154 = .ok (.goto 4, 3) := by decide +kernel
theorem dX10_day_157 : decode cX10_day 157 = .ok (.lconst 0, 1) := by decide +kernel
theorem dX10_day_158 : decode cX10_day 158 = .ok (.invokevirtual 212, 3) := by decide +kernel
theorem dX10_day_161 : decode cX10_day 161 = .ok (.aload_n 0, 1) := by decide +kernel
theorem dX10_day_162 : decode cX10_day 162 = .ok (.getfield 50, 3) := by decide +kernel
theorem dX10_day_165 : decode cX10_day 165 = .ok (.aload_n 0, 1) := by decide +kernel
theorem dX10_day_166 : decode cX10_day 166 = .ok (.getfield 16, 3) := by decide +kernel
theorem dX10_day_169 : decode cX10_day 169 = .ok (.invokevirtual 96, 3) := by decide +kernel
theorem dX10_day_172 : decode cX10_day 172 = .ok (.i2l, 1) := by decide +kernel
theorem dX10_day_173 : decode cX10_day 173 = .ok (.invokevirtual 212, 3) := by decide +kernel
theorem dX10_day_176 : decode cX10_day 176 = .ok (.iload 4, 2) := by decide +kernel
theorem dX10_day_178 : decode cX10_day 178 = .ok (.ireturn, 1) := by decide +kernel
def fX10_day_J87 (k48 : AH → Nat → Int32 → Int32 → Int32 → Int32 → Int32 → Option (Int32 × AH)) (h : AH) (v0 : Nat) (v1 : Int32) (v3 : Int32) (v5 : Int32) (v6 : Int32) (s0 : Int32) (s1 : Int32) : Option (Int32 × AH) :=
    letF (s1 + s0 : Int32) fun x1 =>
    (fX10_signAt h v0 v6).bind fun q2 =>
    (fX10_actDigits h q2).bind fun q3 =>
    (fJ0_length_8abf5 h q3).bind fun q4 =>
    letF (v6 + (1 + q4) : Int32) fun x5 =>
    k48 h v0 v1 v3 x1 v5 x5
def fX10_day_J73 (k48 : AH → Nat → Int32 → Int32 → Int32 → Int32 → Int32 → Option (Int32 × AH)) (h : AH) (v0 : Nat) (v1 : Int32) (v3 : Int32) (v4 : Int32) (v6 : Int32) (s0 : Int32) : Option (Int32 × AH) :=
    if s0 = 0 then (
      fX10_day_J87 k48 h v0 v1 v3 s0 v6 1 v4
    ) else (
      fX10_day_J87 k48 h v0 v1 v3 s0 v6 0 v4
    )
def fX10_day_L48 (k112 : AH → Nat → Int32 → Int32 → Int32 → Option (Int32 × AH)) : Nat → AH → Nat → Int32 → Int32 → Int32 → Int32 → Int32 → Option (Int32 × AH)
  | 0, _, _, _, _, _, _, _ => none
  | n + 1, h, v0, v1, v3, v4, v5, v6 =>
    if v1 ≤ v6 then (
      k112 h v0 v3 v4 v5
    ) else (
      if v5 = 0 then (
        (fX10_actAt h v0 v6).bind fun q6 =>
        if 0 ≤ q6.1 then (
          fX10_day_J73 (fX10_day_L48 k112 n) q6.2 v0 v1 v3 v4 v6 0
        ) else (
          fX10_day_J73 (fX10_day_L48 k112 n) q6.2 v0 v1 v3 v4 v6 1
        )
      ) else (
        k112 h v0 v3 v4 v5
      )
    )
def fX10_day_J158 (h : AH) (v0 : Nat) (v4 : Int32) (s0 : Int64) (s1 : Nat) : Option (Int32 × AH) :=
    (fX5_add h s1 s0).bind fun q7 =>
    (gR q7 10 v0 8).bind fun x8 =>
    (gR q7 10 v0 2).bind fun x9 =>
    (fX9_frameTotal q7 x9).bind fun q10 =>
    (fX5_add q7 x8 (Int32.toInt64 q10)).bind fun q11 =>
    some ((v4, q11))
def fX10_day_J134 (h : AH) (v0 : Nat) (v4 : Int32) (v5 : Int32) (s0 : Int32) (s1 : Nat) : Option (Int32 × AH) :=
    (i2z s0).bind fun x12 =>
    (fX10_keepIfDone h s1 x12).bind fun q13 =>
    (gR q13 10 v0 8).bind fun x14 =>
    (fX5_clear q13 x14).bind fun q15 =>
    (gR q15 10 v0 8).bind fun x16 =>
    if v5 = 0 then (
      fX10_day_J158 q15 v0 v4 0 x16
    ) else (
      fX10_day_J158 q15 v0 v4 1 x16
    )
def fX10_day_J112 (h : AH) (v0 : Nat) (v3 : Int32) (v4 : Int32) (v5 : Int32) : Option (Int32 × AH) :=
    if 0 < v4 then (
      fX10_day_J134 h v0 v4 v5 1 v0
    ) else (
      (gR h 10 v0 2).bind fun x17 =>
      (fX9_awaitedTotal h x17).bind fun q18 =>
      if q18 ≤ v3 then (
        fX10_day_J134 h v0 v4 v5 0 v0
      ) else (
        fX10_day_J134 h v0 v4 v5 1 v0
      )
    )
def fX10_day (h : AH) (a0 : Nat) : Option (Int32 × AH) :=
  if hasC h 10 a0 = true then (
    (fX10_takeText h a0).bind fun q19 =>
    (fX10_wrongDaySign q19.2 a0 q19.1).bind fun q20 =>
    if q20.1 = ((-1)) then (
      (gR q20.2 10 a0 4).bind fun x21 =>
      (gR q20.2 10 a0 2).bind fun x22 =>
      (fX2_mark q20.2 x21 x22).bind fun q23 =>
      (gR q23 10 a0 2).bind fun x24 =>
      (fX9_awaitedTotal q23 x24).bind fun q25 =>
      fX10_day_L48
        (fun h30 x26 x27 x28 x29 =>
          fX10_day_J112 h30 x26 x27 x28 x29)
        FU q23 a0 q19.1 q25 0 0 0
    ) else (
      some ((((-1)) - q20.1, q20.2))
    )
  ) else none
set_option maxHeartbeats 4000000 in
theorem gX10_day_J87 {Y : YT} {X : XT} (C : CT Y X RX10 cX10_day 7) (O : RO X 8 0 0) {r : Int32 × AH} (E : RX Y X (some .int) (some (.int r.1)) r.2 0 0) {k48 : AH → Nat → Int32 → Int32 → Int32 → Int32 → Int32 → Option (Int32 × AH)} (hk48 : ∀ (h : AH) (v0 : Nat) (v1 : Int32) (v3 : Int32) (v4 : Int32) (v5 : Int32) (v6 : Int32), GO Y X 7 r h 0 0 48 [(0, .ref v0), (1, .int v1), (3, .int v3), (4, .int v4), (5, .int v5), (6, .int v6)] [] (k48 h v0 v1 v3 v4 v5 v6)) : ∀ (h : AH) (v0 : Nat) (v1 : Int32) (v3 : Int32) (v5 : Int32) (v6 : Int32) (s0 : Int32) (s1 : Int32), GO Y X 7 r h 0 0 87 [(0, .ref v0), (1, .int v1), (3, .int v3), (5, .int v5), (6, .int v6)] [.int s0, .int s1] (fX10_day_J87 k48 h v0 v1 v3 v5 v6 s0 s1) := by
  intro h v0 v1 v3 v5 v6 s0 s1
  unfold fX10_day_J87
  refine go_iadd (pc := 87) C dX10_day_87 ?_
  refine go_istoreL (pc := 88) C dX10_day_88 (by decide) (fun x1 => [(4, .int x1), (0, .ref v0), (1, .int v1), (3, .int v3), (5, .int v5), (6, .int v6)]) (fun _ => rfl) (fun x1 => ?_)
  refine go_iload (pc := 90) C 5 dX10_day_90 rfl ?_
  refine go_iconst (pc := 92) C dX10_day_92 ki_1 ?_
  refine go_aload_n (pc := 93) C 1 dX10_day_93 rfl ?_
  refine go_iload (pc := 94) C 5 dX10_day_94 rfl ?_
  refine go_bind (fun q2 hq2 => ?_)
  refine go_callV (rest := [.int 1, .int v6]) (st' := [.int q2, .int 1, .int v6]) (c' := 0) (s' := 0) (pc := 96) C O miX10_113 mvX10_signAt [.int v6] rfl (mX10_signAt hq2).1 (mX10_signAt hq2).2 dX10_day_96 ⟨by decide, by decide, by decide, by decide⟩ rfl (Nat.le_of_ble_eq_true rfl) rfl ⟨rfl, rfl⟩ ?_
  refine go_bind (fun q3 hq3 => ?_)
  refine go_callS (rest := [.int 1, .int v6]) (st' := [.retAddr q3, .int 1, .int v6]) (c' := 0) (s' := 0) (pc := 99) C O miX10_249 w_851 [.int q2] rfl (mX10_actDigits hq3) dX10_day_99 ⟨by decide, by decide, by decide, by decide⟩ rfl (Nat.le_of_ble_eq_true rfl) rfl ⟨rfl, rfl⟩ ?_
  refine go_bind (fun q4 hq4 => ?_)
  refine go_callVS (rest := [.int 1, .int v6]) (st' := [.int q4, .int 1, .int v6]) (c' := 0) (s' := 0) (pc := 102) C O miX10_253 mvSJ0_length_8abf5 [] rfl (mJ0_length_8abf5 hq4).1 (mJ0_length_8abf5 hq4).2 dX10_day_102 ⟨by decide, by decide, by decide, by decide⟩ rfl (Nat.le_of_ble_eq_true rfl) rfl ⟨rfl, rfl⟩ ?_
  refine go_iadd (pc := 105) C dX10_day_105 ?_
  refine go_iadd (pc := 106) C dX10_day_106 ?_
  refine go_istoreL (pc := 107) C dX10_day_107 (by decide) (fun x5 => [(6, .int x5), (4, .int x1), (0, .ref v0), (1, .int v1), (3, .int v3), (5, .int v5)]) (fun _ => rfl) (fun x5 => ?_)
  refine go_goto (pc := 109) C 48 dX10_day_109 (by decide) ?_
  refine go_sub (ls' := [(0, .ref v0), (1, .int v1), (3, .int v3), (4, .int x1), (5, .int v5), (6, .int x5)]) [2, 3, 4, 1, 5, 0] rfl ?_
  exact hk48 h v0 v1 v3 x1 v5 x5
set_option maxHeartbeats 4000000 in
theorem gX10_day_J73 {Y : YT} {X : XT} (C : CT Y X RX10 cX10_day 7) (O : RO X 8 0 0) {r : Int32 × AH} (E : RX Y X (some .int) (some (.int r.1)) r.2 0 0) {k48 : AH → Nat → Int32 → Int32 → Int32 → Int32 → Int32 → Option (Int32 × AH)} (hk48 : ∀ (h : AH) (v0 : Nat) (v1 : Int32) (v3 : Int32) (v4 : Int32) (v5 : Int32) (v6 : Int32), GO Y X 7 r h 0 0 48 [(0, .ref v0), (1, .int v1), (3, .int v3), (4, .int v4), (5, .int v5), (6, .int v6)] [] (k48 h v0 v1 v3 v4 v5 v6)) : ∀ (h : AH) (v0 : Nat) (v1 : Int32) (v3 : Int32) (v4 : Int32) (v6 : Int32) (s0 : Int32), GO Y X 7 r h 0 0 73 [(0, .ref v0), (1, .int v1), (3, .int v3), (4, .int v4), (6, .int v6)] [.int s0] (fX10_day_J73 k48 h v0 v1 v3 v4 v6 s0) := by
  intro h v0 v1 v3 v4 v6 s0
  unfold fX10_day_J73
  refine go_istore (ls' := [(5, .int s0), (0, .ref v0), (1, .int v1), (3, .int v3), (4, .int v4), (6, .int v6)]) (pc := 73) C dX10_day_73 (by decide) rfl ?_
  refine go_iload (pc := 75) C 4 dX10_day_75 rfl ?_
  refine go_iload (pc := 77) C 0 dX10_day_77 rfl ?_
  refine go_if_eq (pc := 79) C 86 dX10_day_79 (by decide) (fun _ => ?_) (fun _ => ?_)
  · refine go_iconst (pc := 86) C dX10_day_86 ki_1 ?_
    refine go_sub (ls' := [(0, .ref v0), (1, .int v1), (3, .int v3), (5, .int s0), (6, .int v6)]) [1, 2, 3, 0, 5] rfl ?_
    refine gX10_day_J87 C O E (hk48) h v0 v1 v3 s0 v6 1 v4
  · refine go_iconst (pc := 82) C dX10_day_82 ki_0 ?_
    refine go_goto (pc := 83) C 87 dX10_day_83 (by decide) ?_
    refine go_sub (ls' := [(0, .ref v0), (1, .int v1), (3, .int v3), (5, .int s0), (6, .int v6)]) [1, 2, 3, 0, 5] rfl ?_
    refine gX10_day_J87 C O E (hk48) h v0 v1 v3 s0 v6 0 v4
set_option maxHeartbeats 4000000 in
theorem gX10_day_L48 {Y : YT} {X : XT} (C : CT Y X RX10 cX10_day 7) (O : RO X 8 0 0) {r : Int32 × AH} (E : RX Y X (some .int) (some (.int r.1)) r.2 0 0) {k112 : AH → Nat → Int32 → Int32 → Int32 → Option (Int32 × AH)} (hk112 : ∀ (h : AH) (v0 : Nat) (v3 : Int32) (v4 : Int32) (v5 : Int32), GO Y X 7 r h 0 0 112 [(0, .ref v0), (3, .int v3), (4, .int v4), (5, .int v5)] [] (k112 h v0 v3 v4 v5)) : ∀ (n : Nat) (h : AH) (v0 : Nat) (v1 : Int32) (v3 : Int32) (v4 : Int32) (v5 : Int32) (v6 : Int32), GO Y X 7 r h 0 0 48 [(0, .ref v0), (1, .int v1), (3, .int v3), (4, .int v4), (5, .int v5), (6, .int v6)] [] (fX10_day_L48 k112 n h v0 v1 v3 v4 v5 v6) := by
  intro n
  induction n with
  | zero => intros; exact go_none _ _ _
  | succ n ih =>
    intro h v0 v1 v3 v4 v5 v6
    rw [fX10_day_L48]
    refine go_iload (pc := 48) C 5 dX10_day_48 rfl ?_
    refine go_iload_n (pc := 50) C 1 dX10_day_50 rfl ?_
    refine go_icmp_ge (pc := 51) C 112 dX10_day_51 (by decide) (fun _ => ?_) (fun _ => ?_)
    · refine go_sub (ls' := [(0, .ref v0), (3, .int v3), (4, .int v4), (5, .int v5)]) [0, 2, 3, 4] rfl ?_
      exact hk112 h v0 v3 v4 v5
    · refine go_iload (pc := 54) C 4 dX10_day_54 rfl ?_
      refine go_if_ne (pc := 56) C 112 dX10_day_56 (by decide) (fun _ => ?_) (fun _ => ?_)
      · refine go_aload_n (pc := 59) C 0 dX10_day_59 rfl ?_
        refine go_iload (pc := 60) C 5 dX10_day_60 rfl ?_
        refine go_bind (fun q6 hq6 => ?_)
        refine go_callV (rest := []) (st' := [.int q6.1]) (c' := 0) (s' := 0) (pc := 62) C O miX10_246 mvX10_actAt [.int v6] rfl (mX10_actAt hq6).1 (mX10_actAt hq6).2 dX10_day_62 ⟨by decide, by decide, by decide, by decide⟩ rfl (Nat.le_of_ble_eq_true rfl) rfl ⟨rfl, rfl⟩ ?_
        refine go_if_ge (pc := 65) C 72 dX10_day_65 (by decide) (fun _ => ?_) (fun _ => ?_)
        · refine go_iconst (pc := 72) C dX10_day_72 ki_0 ?_
          refine go_sub (ls' := [(0, .ref v0), (1, .int v1), (3, .int v3), (4, .int v4), (6, .int v6)]) [0, 1, 2, 3, 5] rfl ?_
          refine gX10_day_J73 C O E (ih) q6.2 v0 v1 v3 v4 v6 0
        · refine go_iconst (pc := 68) C dX10_day_68 ki_1 ?_
          refine go_goto (pc := 69) C 73 dX10_day_69 (by decide) ?_
          refine go_sub (ls' := [(0, .ref v0), (1, .int v1), (3, .int v3), (4, .int v4), (6, .int v6)]) [0, 1, 2, 3, 5] rfl ?_
          refine gX10_day_J73 C O E (ih) q6.2 v0 v1 v3 v4 v6 1
      · refine go_sub (ls' := [(0, .ref v0), (3, .int v3), (4, .int v4), (5, .int v5)]) [0, 2, 3, 4] rfl ?_
        exact hk112 h v0 v3 v4 v5
set_option maxHeartbeats 4000000 in
theorem gX10_day_J158 {Y : YT} {X : XT} (C : CT Y X RX10 cX10_day 7) (O : RO X 8 0 0) {r : Int32 × AH} (E : RX Y X (some .int) (some (.int r.1)) r.2 0 0) : ∀ (h : AH) (v0 : Nat) (v4 : Int32) (s0 : Int64) (s1 : Nat), GO Y X 7 r h 0 0 158 [(0, .ref v0), (4, .int v4)] [.long s0, .ref s1] (fX10_day_J158 h v0 v4 s0 s1) := by
  intro h v0 v4 s0 s1
  unfold fX10_day_J158
  refine go_bind (fun q7 hq7 => ?_)
  refine go_callV (rest := []) (st' := []) (c' := 0) (s' := 0) (pc := 158) C O miX10_212 mvX5_add [.long s0] rfl (mX5_add hq7).1 (mX5_add hq7).2 dX10_day_158 ⟨by decide, by decide, by decide, by decide⟩ rfl (Nat.le_of_ble_eq_true rfl) rfl ⟨rfl, rfl⟩ ?_
  refine go_aload_n (pc := 161) C 0 dX10_day_161 rfl ?_
  refine go_gR (pc := 162) C fdX10_50 dX10_day_162 (fun x8 => ?_)
  refine go_aload_n (pc := 165) C 0 dX10_day_165 rfl ?_
  refine go_gR (pc := 166) C fdX10_16 dX10_day_166 (fun x9 => ?_)
  refine go_bind (fun q10 hq10 => ?_)
  refine go_callV (rest := [.ref x8]) (st' := [.int q10, .ref x8]) (c' := 0) (s' := 0) (pc := 169) C O miX10_96 mvX9_frameTotal [] rfl (mX9_frameTotal hq10).1 (mX9_frameTotal hq10).2 dX10_day_169 ⟨by decide, by decide, by decide, by decide⟩ rfl (Nat.le_of_ble_eq_true rfl) rfl ⟨rfl, rfl⟩ ?_
  refine go_i2l (pc := 172) C dX10_day_172 ?_
  refine go_bind (fun q11 hq11 => ?_)
  refine go_callV (rest := []) (st' := []) (c' := 0) (s' := 0) (pc := 173) C O miX10_212 mvX5_add [.long (Int32.toInt64 q10)] rfl (mX5_add hq11).1 (mX5_add hq11).2 dX10_day_173 ⟨by decide, by decide, by decide, by decide⟩ rfl (Nat.le_of_ble_eq_true rfl) rfl ⟨rfl, rfl⟩ ?_
  refine go_iload (pc := 176) C 1 dX10_day_176 rfl ?_
  exact go_iret (w := wIh) (pc := 178) C E ((v4, q11)) v4 dX10_day_178 rfl
set_option maxHeartbeats 4000000 in
theorem gX10_day_J134 {Y : YT} {X : XT} (C : CT Y X RX10 cX10_day 7) (O : RO X 8 0 0) {r : Int32 × AH} (E : RX Y X (some .int) (some (.int r.1)) r.2 0 0) : ∀ (h : AH) (v0 : Nat) (v4 : Int32) (v5 : Int32) (s0 : Int32) (s1 : Nat), GO Y X 7 r h 0 0 134 [(0, .ref v0), (4, .int v4), (5, .int v5)] [.int s0, .ref s1] (fX10_day_J134 h v0 v4 v5 s0 s1) := by
  intro h v0 v4 v5 s0 s1
  unfold fX10_day_J134
  refine go_i2z (fun x12 hzx12 => ?_)
  rw [hzx12]
  refine go_bind (fun q13 hq13 => ?_)
  refine go_callV (rest := []) (st' := []) (c' := 0) (s' := 0) (pc := 134) C O miX10_216 mvX10_keepIfDone [.int (b2i x12)] rfl (mX10_keepIfDone hq13).1 (mX10_keepIfDone hq13).2 dX10_day_134 ⟨by decide, by decide, by decide, by decide⟩ rfl (Nat.le_of_ble_eq_true rfl) rfl ⟨rfl, rfl⟩ ?_
  refine go_aload_n (pc := 137) C 0 dX10_day_137 rfl ?_
  refine go_gR (pc := 138) C fdX10_50 dX10_day_138 (fun x14 => ?_)
  refine go_bind (fun q15 hq15 => ?_)
  refine go_callV (rest := []) (st' := []) (c' := 0) (s' := 0) (pc := 141) C O miX10_209 mvX5_clear [] rfl (mX5_clear hq15).1 (mX5_clear hq15).2 dX10_day_141 ⟨by decide, by decide, by decide, by decide⟩ rfl (Nat.le_of_ble_eq_true rfl) rfl ⟨rfl, rfl⟩ ?_
  refine go_aload_n (pc := 144) C 0 dX10_day_144 rfl ?_
  refine go_gR (pc := 145) C fdX10_50 dX10_day_145 (fun x16 => ?_)
  refine go_iload (pc := 148) C 2 dX10_day_148 rfl ?_
  refine go_if_eq (pc := 150) C 157 dX10_day_150 (by decide) (fun _ => ?_) (fun _ => ?_)
  · refine go_lconst (v := 0) (pc := 157) C dX10_day_157 (by decide) ?_
    refine go_sub (ls' := [(0, .ref v0), (4, .int v4)]) [0, 1] rfl ?_
    refine gX10_day_J158 C O E q15 v0 v4 0 x16
  · refine go_lconst (v := 1) (pc := 153) C dX10_day_153 (by decide) ?_
    refine go_goto (pc := 154) C 158 dX10_day_154 (by decide) ?_
    refine go_sub (ls' := [(0, .ref v0), (4, .int v4)]) [0, 1] rfl ?_
    refine gX10_day_J158 C O E q15 v0 v4 1 x16
set_option maxHeartbeats 4000000 in
theorem gX10_day_J112 {Y : YT} {X : XT} (C : CT Y X RX10 cX10_day 7) (O : RO X 8 0 0) {r : Int32 × AH} (E : RX Y X (some .int) (some (.int r.1)) r.2 0 0) : ∀ (h : AH) (v0 : Nat) (v3 : Int32) (v4 : Int32) (v5 : Int32), GO Y X 7 r h 0 0 112 [(0, .ref v0), (3, .int v3), (4, .int v4), (5, .int v5)] [] (fX10_day_J112 h v0 v3 v4 v5) := by
  intro h v0 v3 v4 v5
  unfold fX10_day_J112
  refine go_aload_n (pc := 112) C 0 dX10_day_112 rfl ?_
  refine go_iload (pc := 113) C 2 dX10_day_113 rfl ?_
  refine go_if_gt (pc := 115) C 129 dX10_day_115 (by decide) (fun _ => ?_) (fun _ => ?_)
  · refine go_iconst (pc := 129) C dX10_day_129 ki_1 ?_
    refine go_goto (pc := 130) C 134 dX10_day_130 (by decide) ?_
    refine go_sub (ls' := [(0, .ref v0), (4, .int v4), (5, .int v5)]) [0, 2, 3] rfl ?_
    refine gX10_day_J134 C O E h v0 v4 v5 1 v0
  · refine go_aload_n (pc := 118) C 0 dX10_day_118 rfl ?_
    refine go_gR (pc := 119) C fdX10_16 dX10_day_119 (fun x17 => ?_)
    refine go_bind (fun q18 hq18 => ?_)
    refine go_callV (rest := [.ref v0]) (st' := [.int q18, .ref v0]) (c' := 0) (s' := 0) (pc := 122) C O miX10_243 mvX9_awaitedTotal [] rfl (mX9_awaitedTotal hq18).1 (mX9_awaitedTotal hq18).2 dX10_day_122 ⟨by decide, by decide, by decide, by decide⟩ rfl (Nat.le_of_ble_eq_true rfl) rfl ⟨rfl, rfl⟩ ?_
    refine go_iload_n (pc := 125) C 1 dX10_day_125 rfl ?_
    refine go_icmp_le (pc := 126) C 133 dX10_day_126 (by decide) (fun _ => ?_) (fun _ => ?_)
    · refine go_iconst (pc := 133) C dX10_day_133 ki_0 ?_
      refine go_sub (ls' := [(0, .ref v0), (4, .int v4), (5, .int v5)]) [0, 2, 3] rfl ?_
      refine gX10_day_J134 C O E h v0 v4 v5 0 v0
    · refine go_iconst (pc := 129) C dX10_day_129 ki_1 ?_
      refine go_goto (pc := 130) C 134 dX10_day_130 (by decide) ?_
      refine go_sub (ls' := [(0, .ref v0), (4, .int v4), (5, .int v5)]) [0, 2, 3] rfl ?_
      refine gX10_day_J134 C O E h v0 v4 v5 1 v0
set_option maxHeartbeats 4000000 in
theorem mX10_day {h : AH} {a0 : Nat} {r : Int32 × AH} (hr : fX10_day h a0 = some r) : hasC h 10 a0 = true ∧ MC yX10_day cX10_day 7 (some .int) 8 0 0 [.ref a0] h (some (.int r.1)) r.2 := by
  unfold fX10_day at hr
  obtain ⟨hc, hr⟩ := if_some hr
  refine ⟨hc, mc_of (l0 := [(0, .ref a0)]) rfl pn_X10 (Nat.le_of_ble_eq_true rfl) (fun Y X C E O hnm => go_run hr ?_)⟩
  have C : CT Y X RX10 cX10_day 7 := C
  refine go_aload_n (pc := 0) C 0 dX10_day_0 rfl ?_
  refine go_bind (fun q19 hq19 => ?_)
  refine go_callV (rest := []) (st' := [.int q19.1]) (c' := 0) (s' := 0) (pc := 1) C O miX10_82 mvX10_takeText [] rfl (mX10_takeText hq19).1 (mX10_takeText hq19).2 dX10_day_1 ⟨by decide, by decide, by decide, by decide⟩ rfl (Nat.le_of_ble_eq_true rfl) rfl ⟨rfl, rfl⟩ ?_
  refine go_istore_n (ls' := [(1, .int q19.1), (0, .ref a0)]) (pc := 4) C dX10_day_4 (by decide) rfl ?_
  refine go_aload_n (pc := 5) C 1 dX10_day_5 rfl ?_
  refine go_iload_n (pc := 6) C 0 dX10_day_6 rfl ?_
  refine go_bind (fun q20 hq20 => ?_)
  refine go_callV (rest := []) (st' := [.int q20.1]) (c' := 0) (s' := 0) (pc := 7) C O miX10_240 mvX10_wrongDaySign [.int q19.1] rfl (mX10_wrongDaySign hq20).1 (mX10_wrongDaySign hq20).2 dX10_day_7 ⟨by decide, by decide, by decide, by decide⟩ rfl (Nat.le_of_ble_eq_true rfl) rfl ⟨rfl, rfl⟩ ?_
  refine go_istore_n (ls' := [(2, .int q20.1), (1, .int q19.1), (0, .ref a0)]) (pc := 10) C dX10_day_10 (by decide) rfl ?_
  refine go_iload_n (pc := 11) C 0 dX10_day_11 rfl ?_
  refine go_iconst (pc := 12) C dX10_day_12 ki_m1 ?_
  refine go_icmp_eq (pc := 13) C 20 dX10_day_13 (by decide) (fun _ => ?_) (fun _ => ?_)
  · refine go_aload_n (pc := 20) C 2 dX10_day_20 rfl ?_
    refine go_gR (pc := 21) C fdX10_26 dX10_day_21 (fun x21 => ?_)
    refine go_aload_n (pc := 24) C 2 dX10_day_24 rfl ?_
    refine go_gR (pc := 25) C fdX10_16 dX10_day_25 (fun x22 => ?_)
    refine go_bind (fun q23 hq23 => ?_)
    refine go_callV (rest := []) (st' := []) (c' := 0) (s' := 0) (pc := 28) C O miX10_102 mvX2_mark [.ref x22] rfl (mX2_mark hq23).1 (mX2_mark hq23).2 dX10_day_28 ⟨by decide, by decide, by decide, by decide⟩ rfl (Nat.le_of_ble_eq_true rfl) rfl ⟨rfl, rfl⟩ ?_
    refine go_aload_n (pc := 31) C 2 dX10_day_31 rfl ?_
    refine go_gR (pc := 32) C fdX10_16 dX10_day_32 (fun x24 => ?_)
    refine go_bind (fun q25 hq25 => ?_)
    refine go_callV (rest := []) (st' := [.int q25]) (c' := 0) (s' := 0) (pc := 35) C O miX10_243 mvX9_awaitedTotal [] rfl (mX9_awaitedTotal hq25).1 (mX9_awaitedTotal hq25).2 dX10_day_35 ⟨by decide, by decide, by decide, by decide⟩ rfl (Nat.le_of_ble_eq_true rfl) rfl ⟨rfl, rfl⟩ ?_
    refine go_istore_n (ls' := [(3, .int q25), (2, .int q20.1), (1, .int q19.1), (0, .ref a0)]) (pc := 38) C dX10_day_38 (by decide) rfl ?_
    refine go_iconst (pc := 39) C dX10_day_39 ki_0 ?_
    refine go_istore (ls' := [(4, .int 0), (3, .int q25), (2, .int q20.1), (1, .int q19.1), (0, .ref a0)]) (pc := 40) C dX10_day_40 (by decide) rfl ?_
    refine go_iconst (pc := 42) C dX10_day_42 ki_0 ?_
    refine go_istore (ls' := [(5, .int 0), (4, .int 0), (3, .int q25), (2, .int q20.1), (1, .int q19.1), (0, .ref a0)]) (pc := 43) C dX10_day_43 (by decide) rfl ?_
    refine go_iconst (pc := 45) C dX10_day_45 ki_0 ?_
    refine go_istore (ls' := [(6, .int 0), (5, .int 0), (4, .int 0), (3, .int q25), (2, .int q20.1), (1, .int q19.1), (0, .ref a0)]) (pc := 46) C dX10_day_46 (by decide) rfl ?_
    refine go_sub (ls' := [(0, .ref a0), (1, .int q19.1), (3, .int q25), (4, .int 0), (5, .int 0), (6, .int 0)]) [6, 5, 3, 2, 1, 0] rfl ?_
    refine gX10_day_L48 C O E (fun h30 x26 x27 x28 x29 => ?_) FU q23 a0 q19.1 q25 0 0 0
    · refine go_sub (ls' := [(0, .ref x26), (3, .int x27), (4, .int x28), (5, .int x29)]) [0, 1, 2, 3] rfl ?_
      refine gX10_day_J112 C O E h30 x26 x27 x28 x29
  · refine go_iconst (pc := 16) C dX10_day_16 ki_m1 ?_
    refine go_iload_n (pc := 17) C 0 dX10_day_17 rfl ?_
    refine go_isub (pc := 18) C dX10_day_18 ?_
    exact go_iret (w := wIh) (pc := 19) C E ((((-1)) - q20.1, q20.2)) (((-1)) - q20.1) dX10_day_19 rfl
theorem dX10_undo_0 : decode cX10_undo 0 = .ok (.aload_n 0, 1) := by decide +kernel
theorem dX10_undo_1 : decode cX10_undo 1 = .ok (.getfield 26, 3) := by decide +kernel
theorem dX10_undo_4 : decode cX10_undo 4 = .ok (.aload_n 0, 1) := by decide +kernel
theorem dX10_undo_5 : decode cX10_undo 5 = .ok (.getfield 16, 3) := by decide +kernel
theorem dX10_undo_8 : decode cX10_undo 8 = .ok (.invokevirtual 258, 3) := by decide +kernel
theorem dX10_undo_11 : decode cX10_undo 11 = .ok (.ifCond .eq 13, 3) := by decide +kernel
theorem dX10_undo_14 : decode cX10_undo 14 = .ok (.aload_n 0, 1) := by decide +kernel
theorem dX10_undo_15 : decode cX10_undo 15 = .ok (.getfield 26, 3) := by decide +kernel
theorem dX10_undo_18 : decode cX10_undo 18 = .ok (.invokevirtual 262, 3) := by decide +kernel
theorem dX10_undo_21 : decode cX10_undo 21 = .ok (.goto 4, 3) := by decide +kernel
theorem dX10_undo_24 : decode cX10_undo 24 = .ok (.iconst (-1), 1) := by decide +kernel
theorem dX10_undo_25 : decode cX10_undo 25 = .ok (.ireturn, 1) := by decide +kernel
def fX10_undo (h : AH) (a0 : Nat) : Option (Int32 × AH) :=
  if hasC h 10 a0 = true then (
    (gR h 10 a0 4).bind fun x1 =>
    (gR h 10 a0 2).bind fun x2 =>
    (fX2_bringBack h x1 x2).bind fun q3 =>
    if q3.1 = true then (
      (gR q3.2 10 a0 4).bind fun x4 =>
      (fX2_total q3.2 x4).bind fun q5 =>
      some ((q5, q3.2))
    ) else (
      some (((-1), q3.2))
    )
  ) else none
set_option maxHeartbeats 4000000 in
theorem mX10_undo {h : AH} {a0 : Nat} {r : Int32 × AH} (hr : fX10_undo h a0 = some r) : hasC h 10 a0 = true ∧ MC yX10_undo cX10_undo 1 (some .int) 3 0 0 [.ref a0] h (some (.int r.1)) r.2 := by
  unfold fX10_undo at hr
  obtain ⟨hc, hr⟩ := if_some hr
  refine ⟨hc, mc_of (l0 := [(0, .ref a0)]) rfl pn_X10 (Nat.le_of_ble_eq_true rfl) (fun Y X C E O hnm => go_run hr ?_)⟩
  have C : CT Y X RX10 cX10_undo 1 := C
  refine go_aload_n (pc := 0) C 0 dX10_undo_0 rfl ?_
  refine go_gR (pc := 1) C fdX10_26 dX10_undo_1 (fun x1 => ?_)
  refine go_aload_n (pc := 4) C 0 dX10_undo_4 rfl ?_
  refine go_gR (pc := 5) C fdX10_16 dX10_undo_5 (fun x2 => ?_)
  refine go_bind (fun q3 hq3 => ?_)
  refine go_callV (rest := []) (st' := [.int (b2i q3.1)]) (c' := 0) (s' := 0) (pc := 8) C O miX10_258 mvX2_bringBack [.ref x2] rfl (mX2_bringBack hq3).1 (mX2_bringBack hq3).2 dX10_undo_8 ⟨by decide, by decide, by decide, by decide⟩ rfl (Nat.le_of_ble_eq_true rfl) rfl ⟨rfl, rfl⟩ ?_
  refine go_ifZ_eq (pc := 11) C 24 dX10_undo_11 (by decide) (fun _ => ?_) (fun _ => ?_)
  · refine go_aload_n (pc := 14) C 0 dX10_undo_14 rfl ?_
    refine go_gR (pc := 15) C fdX10_26 dX10_undo_15 (fun x4 => ?_)
    refine go_bind (fun q5 hq5 => ?_)
    refine go_callV (rest := []) (st' := [.int q5]) (c' := 0) (s' := 0) (pc := 18) C O miX10_262 mvX2_total [] rfl (mX2_total hq5).1 (mX2_total hq5).2 dX10_undo_18 ⟨by decide, by decide, by decide, by decide⟩ rfl (Nat.le_of_ble_eq_true rfl) rfl ⟨rfl, rfl⟩ ?_
    refine go_goto (pc := 21) C 25 dX10_undo_21 (by decide) ?_
    exact go_iret (w := wIh) (pc := 25) C E ((q5, q3.2)) q5 dX10_undo_25 rfl
  · refine go_iconst (pc := 24) C dX10_undo_24 ki_m1 ?_
    exact go_iret (w := wIh) (pc := 25) C E (((-1), q3.2)) ((-1)) dX10_undo_25 rfl
theorem dX10_chain_0 : decode cX10_chain 0 = .ok (.aload_n 0, 1) := by decide +kernel
theorem dX10_chain_1 : decode cX10_chain 1 = .ok (.getfield 16, 3) := by decide +kernel
theorem dX10_chain_4 : decode cX10_chain 4 = .ok (.iload_n 1, 1) := by decide +kernel
theorem dX10_chain_5 : decode cX10_chain 5 = .ok (.invokevirtual 138, 3) := by decide +kernel
theorem dX10_chain_8 : decode cX10_chain 8 = .ok (.ifCond .ne 5, 3) := by decide +kernel
theorem dX10_chain_11 : decode cX10_chain 11 = .ok (.iconst (-1), 1) := by decide +kernel
theorem dX10_chain_12 : decode cX10_chain 12 = .ok (.ireturn, 1) := by decide +kernel
theorem dX10_chain_13 : decode cX10_chain 13 = .ok (.aload_n 0, 1) := by decide +kernel
theorem dX10_chain_14 : decode cX10_chain 14 = .ok (.getfield 16, 3) := by decide +kernel
theorem dX10_chain_17 : decode cX10_chain 17 = .ok (.iload_n 1, 1) := by decide +kernel
theorem dX10_chain_18 : decode cX10_chain 18 = .ok (.invokevirtual 151, 3) := by decide +kernel
theorem dX10_chain_21 : decode cX10_chain 21 = .ok (.istore_n 2, 1) := by decide +kernel
theorem dX10_chain_22 : decode cX10_chain 22 = .ok (.aload_n 0, 1) := by decide +kernel
theorem dX10_chain_23 : decode cX10_chain 23 = .ok (.getfield 50, 3) := by decide +kernel
theorem dX10_chain_26 : decode cX10_chain 26 = .ok (.invokevirtual 209, 3) := by decide +kernel
theorem dX10_chain_29 : decode cX10_chain 29 = .ok (.aload_n 0, 1) := by decide +kernel
theorem dX10_chain_30 : decode cX10_chain 30 = .ok (.getfield 16, 3) := by decide +kernel
theorem dX10_chain_33 : decode cX10_chain 33 = .ok (.iload_n 1, 1) := by decide +kernel
theorem dX10_chain_34 : decode cX10_chain 34 = .ok (.invokevirtual 145, 3) := by decide +kernel
theorem dX10_chain_37 : decode cX10_chain 37 = .ok (.istore_n 3, 1) := by decide +kernel
theorem dX10_chain_38 : decode cX10_chain 38 = .ok (.iconst 0, 1) := by decide +kernel
theorem dX10_chain_39 : decode cX10_chain 39 = .ok (.istore 4, 2) := by decide +kernel
theorem dX10_chain_41 : decode cX10_chain 41 = .ok (.iload 4, 2) := by decide +kernel
theorem dX10_chain_43 : decode cX10_chain 43 = .ok (.iload_n 2, 1) := by decide +kernel
theorem dX10_chain_44 : decode cX10_chain 44 = .ok (.if_icmp .ge 27, 3) := by decide +kernel
theorem dX10_chain_47 : decode cX10_chain 47 = .ok (.aload_n 0, 1) := by decide +kernel
theorem dX10_chain_48 : decode cX10_chain 48 = .ok (.getfield 50, 3) := by decide +kernel
theorem dX10_chain_51 : decode cX10_chain 51 = .ok (.iload_n 3, 1) := by decide +kernel
theorem dX10_chain_52 : decode cX10_chain 52 = .ok (.i2l, 1) := by decide +kernel
theorem dX10_chain_53 : decode cX10_chain 53 = .ok (.invokevirtual 212, 3) := by decide +kernel
theorem dX10_chain_56 : decode cX10_chain 56 = .ok (.aload_n 0, 1) := by decide +kernel
theorem dX10_chain_57 : decode cX10_chain 57 = .ok (.getfield 16, 3) := by decide +kernel
theorem dX10_chain_60 : decode cX10_chain 60 = .ok (.iload_n 3, 1) := by decide +kernel
theorem dX10_chain_61 : decode cX10_chain 61 = .ok (.invokevirtual 168, 3) := by decide +kernel
theorem dX10_chain_64 : decode cX10_chain 64 = .ok (.istore_n 3, 1) := by decide +kernel
theorem dX10_chain_65 : decode cX10_chain 65 = .ok (.iinc 4 1, 3) := by decide +kernel
theorem dX10_chain_68 : decode cX10_chain 68 = .ok (.goto (-27), 3) := by decide +kernel
theorem dX10_chain_71 : decode cX10_chain 71 = .ok (.iload_n 2, 1) := by decide +kernel
theorem dX10_chain_72 : decode cX10_chain 72 = .ok (.ireturn, 1) := by decide +kernel
def fX10_chain_L41 : Nat → AH → Nat → Int32 → Int32 → Int32 → Option (Int32 × AH)
  | 0, _, _, _, _, _ => none
  | n + 1, h, v0, v2, v3, v4 =>
    if v2 ≤ v4 then (
      some ((v2, h))
    ) else (
      (gR h 10 v0 8).bind fun x1 =>
      (fX5_add h x1 (Int32.toInt64 v3)).bind fun q2 =>
      (gR q2 10 v0 2).bind fun x3 =>
      (fX9_shadowOf q2 x3 v3).bind fun q4 =>
      letF (v4 + 1 : Int32) fun x5 =>
      fX10_chain_L41 n q2 v0 v2 q4 x5
    )
def fX10_chain (h : AH) (a0 : Nat) (a1 : Int32) : Option (Int32 × AH) :=
  if hasC h 10 a0 = true then (
    (gR h 10 a0 2).bind fun x6 =>
    (fX9_hasSpace h x6 a1).bind fun q7 =>
    if q7 = true then (
      (gR h 10 a0 2).bind fun x8 =>
      (fX9_chainLength h x8 a1).bind fun q9 =>
      (gR h 10 a0 8).bind fun x10 =>
      (fX5_clear h x10).bind fun q11 =>
      (gR q11 10 a0 2).bind fun x12 =>
      (fX9_topOf q11 x12 a1).bind fun q13 =>
      fX10_chain_L41 FU q11 a0 q9 q13 0
    ) else (
      some (((-1), h))
    )
  ) else none
set_option maxHeartbeats 4000000 in
theorem gX10_chain_L41 {Y : YT} {X : XT} (C : CT Y X RX10 cX10_chain 5) (O : RO X 4 0 0) {r : Int32 × AH} (E : RX Y X (some .int) (some (.int r.1)) r.2 0 0) : ∀ (n : Nat) (h : AH) (v0 : Nat) (v2 : Int32) (v3 : Int32) (v4 : Int32), GO Y X 5 r h 0 0 41 [(0, .ref v0), (2, .int v2), (3, .int v3), (4, .int v4)] [] (fX10_chain_L41 n h v0 v2 v3 v4) := by
  intro n
  induction n with
  | zero => intros; exact go_none _ _ _
  | succ n ih =>
    intro h v0 v2 v3 v4
    rw [fX10_chain_L41]
    refine go_iload (pc := 41) C 3 dX10_chain_41 rfl ?_
    refine go_iload_n (pc := 43) C 1 dX10_chain_43 rfl ?_
    refine go_icmp_ge (pc := 44) C 71 dX10_chain_44 (by decide) (fun _ => ?_) (fun _ => ?_)
    · refine go_iload_n (pc := 71) C 1 dX10_chain_71 rfl ?_
      exact go_iret (w := wIh) (pc := 72) C E ((v2, h)) v2 dX10_chain_72 rfl
    · refine go_aload_n (pc := 47) C 0 dX10_chain_47 rfl ?_
      refine go_gR (pc := 48) C fdX10_50 dX10_chain_48 (fun x1 => ?_)
      refine go_iload_n (pc := 51) C 2 dX10_chain_51 rfl ?_
      refine go_i2l (pc := 52) C dX10_chain_52 ?_
      refine go_bind (fun q2 hq2 => ?_)
      refine go_callV (rest := []) (st' := []) (c' := 0) (s' := 0) (pc := 53) C O miX10_212 mvX5_add [.long (Int32.toInt64 v3)] rfl (mX5_add hq2).1 (mX5_add hq2).2 dX10_chain_53 ⟨by decide, by decide, by decide, by decide⟩ rfl (Nat.le_of_ble_eq_true rfl) rfl ⟨rfl, rfl⟩ ?_
      refine go_aload_n (pc := 56) C 0 dX10_chain_56 rfl ?_
      refine go_gR (pc := 57) C fdX10_16 dX10_chain_57 (fun x3 => ?_)
      refine go_iload_n (pc := 60) C 2 dX10_chain_60 rfl ?_
      refine go_bind (fun q4 hq4 => ?_)
      refine go_callV (rest := []) (st' := [.int q4]) (c' := 0) (s' := 0) (pc := 61) C O miX10_168 mvX9_shadowOf [.int v3] rfl (mX9_shadowOf hq4).1 (mX9_shadowOf hq4).2 dX10_chain_61 ⟨by decide, by decide, by decide, by decide⟩ rfl (Nat.le_of_ble_eq_true rfl) rfl ⟨rfl, rfl⟩ ?_
      refine go_istore_n (ls' := [(3, .int q4), (0, .ref v0), (2, .int v2), (4, .int v4)]) (pc := 64) C dX10_chain_64 (by decide) rfl ?_
      refine go_iincL (pc := 65) C 3 dX10_chain_65 rfl ki_1 (by decide) (fun x5 => [(4, .int x5), (3, .int q4), (0, .ref v0), (2, .int v2)]) (fun _ => rfl) (fun x5 => ?_)
      refine go_goto (pc := 68) C 41 dX10_chain_68 (by decide) ?_
      refine go_sub (ls' := [(0, .ref v0), (2, .int v2), (3, .int q4), (4, .int x5)]) [2, 3, 1, 0] rfl ?_
      exact ih q2 v0 v2 q4 x5
set_option maxHeartbeats 4000000 in
theorem mX10_chain {h : AH} {a0 : Nat} {a1 : Int32} {r : Int32 × AH} (hr : fX10_chain h a0 a1 = some r) : hasC h 10 a0 = true ∧ MC yX10_chain cX10_chain 5 (some .int) 4 0 0 [.ref a0, .int a1] h (some (.int r.1)) r.2 := by
  unfold fX10_chain at hr
  obtain ⟨hc, hr⟩ := if_some hr
  refine ⟨hc, mc_of (l0 := [(0, .ref a0), (1, .int a1)]) rfl pn_X10 (Nat.le_of_ble_eq_true rfl) (fun Y X C E O hnm => go_run hr ?_)⟩
  have C : CT Y X RX10 cX10_chain 5 := C
  refine go_aload_n (pc := 0) C 0 dX10_chain_0 rfl ?_
  refine go_gR (pc := 1) C fdX10_16 dX10_chain_1 (fun x6 => ?_)
  refine go_iload_n (pc := 4) C 1 dX10_chain_4 rfl ?_
  refine go_bind (fun q7 hq7 => ?_)
  refine go_callV (rest := []) (st' := [.int (b2i q7)]) (c' := 0) (s' := 0) (pc := 5) C O miX10_138 mvX9_hasSpace [.int a1] rfl (mX9_hasSpace hq7).1 (mX9_hasSpace hq7).2 dX10_chain_5 ⟨by decide, by decide, by decide, by decide⟩ rfl (Nat.le_of_ble_eq_true rfl) rfl ⟨rfl, rfl⟩ ?_
  refine go_ifZ_ne (pc := 8) C 13 dX10_chain_8 (by decide) (fun _ => ?_) (fun _ => ?_)
  · refine go_aload_n (pc := 13) C 0 dX10_chain_13 rfl ?_
    refine go_gR (pc := 14) C fdX10_16 dX10_chain_14 (fun x8 => ?_)
    refine go_iload_n (pc := 17) C 1 dX10_chain_17 rfl ?_
    refine go_bind (fun q9 hq9 => ?_)
    refine go_callV (rest := []) (st' := [.int q9]) (c' := 0) (s' := 0) (pc := 18) C O miX10_151 mvX9_chainLength [.int a1] rfl (mX9_chainLength hq9).1 (mX9_chainLength hq9).2 dX10_chain_18 ⟨by decide, by decide, by decide, by decide⟩ rfl (Nat.le_of_ble_eq_true rfl) rfl ⟨rfl, rfl⟩ ?_
    refine go_istore_n (ls' := [(2, .int q9), (0, .ref a0), (1, .int a1)]) (pc := 21) C dX10_chain_21 (by decide) rfl ?_
    refine go_aload_n (pc := 22) C 1 dX10_chain_22 rfl ?_
    refine go_gR (pc := 23) C fdX10_50 dX10_chain_23 (fun x10 => ?_)
    refine go_bind (fun q11 hq11 => ?_)
    refine go_callV (rest := []) (st' := []) (c' := 0) (s' := 0) (pc := 26) C O miX10_209 mvX5_clear [] rfl (mX5_clear hq11).1 (mX5_clear hq11).2 dX10_chain_26 ⟨by decide, by decide, by decide, by decide⟩ rfl (Nat.le_of_ble_eq_true rfl) rfl ⟨rfl, rfl⟩ ?_
    refine go_aload_n (pc := 29) C 1 dX10_chain_29 rfl ?_
    refine go_gR (pc := 30) C fdX10_16 dX10_chain_30 (fun x12 => ?_)
    refine go_iload_n (pc := 33) C 2 dX10_chain_33 rfl ?_
    refine go_bind (fun q13 hq13 => ?_)
    refine go_callV (rest := []) (st' := [.int q13]) (c' := 0) (s' := 0) (pc := 34) C O miX10_145 mvX9_topOf [.int a1] rfl (mX9_topOf hq13).1 (mX9_topOf hq13).2 dX10_chain_34 ⟨by decide, by decide, by decide, by decide⟩ rfl (Nat.le_of_ble_eq_true rfl) rfl ⟨rfl, rfl⟩ ?_
    refine go_istore_n (ls' := [(3, .int q13), (2, .int q9), (0, .ref a0), (1, .int a1)]) (pc := 37) C dX10_chain_37 (by decide) rfl ?_
    refine go_iconst (pc := 38) C dX10_chain_38 ki_0 ?_
    refine go_istore (ls' := [(4, .int 0), (3, .int q13), (2, .int q9), (0, .ref a0), (1, .int a1)]) (pc := 39) C dX10_chain_39 (by decide) rfl ?_
    refine go_sub (ls' := [(0, .ref a0), (2, .int q9), (3, .int q13), (4, .int 0)]) [3, 2, 1, 0] rfl ?_
    refine gX10_chain_L41 C O E FU q11 a0 q9 q13 0
  · refine go_iconst (pc := 11) C dX10_chain_11 ki_m1 ?_
    exact go_iret (w := wIh) (pc := 12) C E (((-1), h)) ((-1)) dX10_chain_12 rfl
theorem dX10_peeks_0 : decode cX10_peeks 0 = .ok (.aload_n 0, 1) := by decide +kernel
theorem dX10_peeks_1 : decode cX10_peeks 1 = .ok (.getfield 16, 3) := by decide +kernel
theorem dX10_peeks_4 : decode cX10_peeks 4 = .ok (.iload_n 1, 1) := by decide +kernel
theorem dX10_peeks_5 : decode cX10_peeks 5 = .ok (.iload_n 2, 1) := by decide +kernel
theorem dX10_peeks_6 : decode cX10_peeks 6 = .ok (.invokevirtual 265, 3) := by decide +kernel
theorem dX10_peeks_9 : decode cX10_peeks 9 = .ok (.istore_n 3, 1) := by decide +kernel
theorem dX10_peeks_10 : decode cX10_peeks 10 = .ok (.iload_n 3, 1) := by decide +kernel
theorem dX10_peeks_11 : decode cX10_peeks 11 = .ok (.ifCond .lt 35, 3) := by decide +kernel
theorem dX10_peeks_14 : decode cX10_peeks 14 = .ok (.aload_n 0, 1) := by decide +kernel
theorem dX10_peeks_15 : decode cX10_peeks 15 = .ok (.getfield 50, 3) := by decide +kernel
theorem dX10_peeks_18 : decode cX10_peeks 18 = .ok (.invokevirtual 209, 3) := by decide +kernel
theorem dX10_peeks_21 : decode cX10_peeks 21 = .ok (.aload_n 0, 1) := by decide +kernel
theorem dX10_peeks_22 : decode cX10_peeks 22 = .ok (.getfield 50, 3) := by decide +kernel
theorem dX10_peeks_25 : decode cX10_peeks 25 = .ok (.aload_n 0, 1) := by decide +kernel
theorem dX10_peeks_26 : decode cX10_peeks 26 = .ok (.getfield 16, 3) := by decide +kernel
theorem dX10_peeks_29 : decode cX10_peeks 29 = .ok (.iload_n 1, 1) := by decide +kernel
theorem dX10_peeks_30 : decode cX10_peeks 30 = .ok (.aload_n 0, 1) := by decide +kernel
theorem dX10_peeks_31 : decode cX10_peeks 31 = .ok (.getfield 16, 3) := by decide +kernel
theorem dX10_peeks_34 : decode cX10_peeks 34 = .ok (.iload_n 1, 1) := by decide +kernel
theorem dX10_peeks_35 : decode cX10_peeks 35 = .ok (.iload_n 2, 1) := by decide +kernel
theorem dX10_peeks_36 : decode cX10_peeks 36 = .ok (.invokevirtual 200, 3) := by decide +kernel
theorem dX10_peeks_39 : decode cX10_peeks 39 = .ok (.invokevirtual 203, 3) := by decide +kernel
theorem dX10_peeks_42 : decode cX10_peeks 42 = .ok (.i2l, 1) := by decide +kernel
theorem dX10_peeks_43 : decode cX10_peeks 43 = .ok (.invokevirtual 212, 3) := by decide +kernel
theorem dX10_peeks_46 : decode cX10_peeks 46 = .ok (.iload_n 3, 1) := by decide +kernel
theorem dX10_peeks_47 : decode cX10_peeks 47 = .ok (.ireturn, 1) := by decide +kernel
def fX10_peeks (h : AH) (a0 : Nat) (a1 : Int32) (a2 : Int32) : Option (Int32 × AH) :=
  if hasC h 10 a0 = true then (
    (gR h 10 a0 2).bind fun x1 =>
    (fX9_peekPage h x1 a1 a2).bind fun q2 =>
    if q2 < 0 then (
      some ((q2, h))
    ) else (
      (gR h 10 a0 8).bind fun x3 =>
      (fX5_clear h x3).bind fun q4 =>
      (gR q4 10 a0 8).bind fun x5 =>
      (gR q4 10 a0 2).bind fun x6 =>
      (gR q4 10 a0 2).bind fun x7 =>
      (fX9_firstHolder q4 x7 a1 a2).bind fun q8 =>
      (fX9_placeOf q4 x6 a1 q8).bind fun q9 =>
      (fX5_add q4 x5 (Int32.toInt64 q9)).bind fun q10 =>
      some ((q2, q10))
    )
  ) else none
set_option maxHeartbeats 4000000 in
theorem mX10_peeks {h : AH} {a0 : Nat} {a1 : Int32} {a2 : Int32} {r : Int32 × AH} (hr : fX10_peeks h a0 a1 a2 = some r) : hasC h 10 a0 = true ∧ MC yX10_peeks cX10_peeks 4 (some .int) 5 0 0 [.ref a0, .int a1, .int a2] h (some (.int r.1)) r.2 := by
  unfold fX10_peeks at hr
  obtain ⟨hc, hr⟩ := if_some hr
  refine ⟨hc, mc_of (l0 := [(0, .ref a0), (1, .int a1), (2, .int a2)]) rfl pn_X10 (Nat.le_of_ble_eq_true rfl) (fun Y X C E O hnm => go_run hr ?_)⟩
  have C : CT Y X RX10 cX10_peeks 4 := C
  refine go_aload_n (pc := 0) C 0 dX10_peeks_0 rfl ?_
  refine go_gR (pc := 1) C fdX10_16 dX10_peeks_1 (fun x1 => ?_)
  refine go_iload_n (pc := 4) C 1 dX10_peeks_4 rfl ?_
  refine go_iload_n (pc := 5) C 2 dX10_peeks_5 rfl ?_
  refine go_bind (fun q2 hq2 => ?_)
  refine go_callV (rest := []) (st' := [.int q2]) (c' := 0) (s' := 0) (pc := 6) C O miX10_265 mvX9_peekPage [.int a1, .int a2] rfl (mX9_peekPage hq2).1 (mX9_peekPage hq2).2 dX10_peeks_6 ⟨by decide, by decide, by decide, by decide⟩ rfl (Nat.le_of_ble_eq_true rfl) rfl ⟨rfl, rfl⟩ ?_
  refine go_istore_n (ls' := [(3, .int q2), (0, .ref a0), (1, .int a1), (2, .int a2)]) (pc := 9) C dX10_peeks_9 (by decide) rfl ?_
  refine go_iload_n (pc := 10) C 0 dX10_peeks_10 rfl ?_
  refine go_if_lt (pc := 11) C 46 dX10_peeks_11 (by decide) (fun _ => ?_) (fun _ => ?_)
  · refine go_iload_n (pc := 46) C 0 dX10_peeks_46 rfl ?_
    exact go_iret (w := wIh) (pc := 47) C E ((q2, h)) q2 dX10_peeks_47 rfl
  · refine go_aload_n (pc := 14) C 1 dX10_peeks_14 rfl ?_
    refine go_gR (pc := 15) C fdX10_50 dX10_peeks_15 (fun x3 => ?_)
    refine go_bind (fun q4 hq4 => ?_)
    refine go_callV (rest := []) (st' := []) (c' := 0) (s' := 0) (pc := 18) C O miX10_209 mvX5_clear [] rfl (mX5_clear hq4).1 (mX5_clear hq4).2 dX10_peeks_18 ⟨by decide, by decide, by decide, by decide⟩ rfl (Nat.le_of_ble_eq_true rfl) rfl ⟨rfl, rfl⟩ ?_
    refine go_aload_n (pc := 21) C 1 dX10_peeks_21 rfl ?_
    refine go_gR (pc := 22) C fdX10_50 dX10_peeks_22 (fun x5 => ?_)
    refine go_aload_n (pc := 25) C 1 dX10_peeks_25 rfl ?_
    refine go_gR (pc := 26) C fdX10_16 dX10_peeks_26 (fun x6 => ?_)
    refine go_iload_n (pc := 29) C 2 dX10_peeks_29 rfl ?_
    refine go_aload_n (pc := 30) C 1 dX10_peeks_30 rfl ?_
    refine go_gR (pc := 31) C fdX10_16 dX10_peeks_31 (fun x7 => ?_)
    refine go_iload_n (pc := 34) C 2 dX10_peeks_34 rfl ?_
    refine go_iload_n (pc := 35) C 3 dX10_peeks_35 rfl ?_
    refine go_bind (fun q8 hq8 => ?_)
    refine go_callV (rest := [.int a1, .ref x6, .ref x5]) (st' := [.int q8, .int a1, .ref x6, .ref x5]) (c' := 0) (s' := 0) (pc := 36) C O miX10_200 mvX9_firstHolder [.int a1, .int a2] rfl (mX9_firstHolder hq8).1 (mX9_firstHolder hq8).2 dX10_peeks_36 ⟨by decide, by decide, by decide, by decide⟩ rfl (Nat.le_of_ble_eq_true rfl) rfl ⟨rfl, rfl⟩ ?_
    refine go_bind (fun q9 hq9 => ?_)
    refine go_callV (rest := [.ref x5]) (st' := [.int q9, .ref x5]) (c' := 0) (s' := 0) (pc := 39) C O miX10_203 mvX9_placeOf [.int a1, .int q8] rfl (mX9_placeOf hq9).1 (mX9_placeOf hq9).2 dX10_peeks_39 ⟨by decide, by decide, by decide, by decide⟩ rfl (Nat.le_of_ble_eq_true rfl) rfl ⟨rfl, rfl⟩ ?_
    refine go_i2l (pc := 42) C dX10_peeks_42 ?_
    refine go_bind (fun q10 hq10 => ?_)
    refine go_callV (rest := []) (st' := []) (c' := 0) (s' := 0) (pc := 43) C O miX10_212 mvX5_add [.long (Int32.toInt64 q9)] rfl (mX5_add hq10).1 (mX5_add hq10).2 dX10_peeks_43 ⟨by decide, by decide, by decide, by decide⟩ rfl (Nat.le_of_ble_eq_true rfl) rfl ⟨rfl, rfl⟩ ?_
    refine go_iload_n (pc := 46) C 0 dX10_peeks_46 rfl ?_
    exact go_iret (w := wIh) (pc := 47) C E ((q2, q10)) q2 dX10_peeks_47 rfl
theorem dX10_tellSet_0 : decode cX10_tellSet 0 = .ok (.aload_n 0, 1) := by decide +kernel
theorem dX10_tellSet_1 : decode cX10_tellSet 1 = .ok (.getfield 50, 3) := by decide +kernel
theorem dX10_tellSet_4 : decode cX10_tellSet 4 = .ok (.invokevirtual 209, 3) := by decide +kernel
theorem dX10_tellSet_7 : decode cX10_tellSet 7 = .ok (.aload_n 0, 1) := by decide +kernel
theorem dX10_tellSet_8 : decode cX10_tellSet 8 = .ok (.getfield 50, 3) := by decide +kernel
theorem dX10_tellSet_11 : decode cX10_tellSet 11 = .ok (.iload_n 1, 1) := by decide +kernel
theorem dX10_tellSet_12 : decode cX10_tellSet 12 = .ok (.invokestatic 291, 3) := by decide +kernel
theorem dX10_tellSet_15 : decode cX10_tellSet 15 = .ok (.i2l, 1) := by decide +kernel
theorem dX10_tellSet_16 : decode cX10_tellSet 16 = .ok (.invokevirtual 212, 3) := by decide +kernel
theorem dX10_tellSet_19 : decode cX10_tellSet 19 = .ok (.iload_n 1, 1) := by decide +kernel
theorem dX10_tellSet_20 : decode cX10_tellSet 20 = .ok (.ireturn, 1) := by decide +kernel
def fX10_tellSet (h : AH) (a0 : Nat) (a1 : Int32) : Option (Int32 × AH) :=
  if hasC h 10 a0 = true then (
    (gR h 10 a0 8).bind fun x1 =>
    (fX5_clear h x1).bind fun q2 =>
    (gR q2 10 a0 8).bind fun x3 =>
    (fJ6_bitCount_0f7a4 q2 a1).bind fun q4 =>
    (fX5_add q2 x3 (Int32.toInt64 q4)).bind fun q5 =>
    some ((a1, q5))
  ) else none
set_option maxHeartbeats 4000000 in
theorem mX10_tellSet {h : AH} {a0 : Nat} {a1 : Int32} {r : Int32 × AH} (hr : fX10_tellSet h a0 a1 = some r) : hasC h 10 a0 = true ∧ MC yX10_tellSet cX10_tellSet 2 (some .int) 2 0 0 [.ref a0, .int a1] h (some (.int r.1)) r.2 := by
  unfold fX10_tellSet at hr
  obtain ⟨hc, hr⟩ := if_some hr
  refine ⟨hc, mc_of (l0 := [(0, .ref a0), (1, .int a1)]) rfl pn_X10 (Nat.le_of_ble_eq_true rfl) (fun Y X C E O hnm => go_run hr ?_)⟩
  have C : CT Y X RX10 cX10_tellSet 2 := C
  refine go_aload_n (pc := 0) C 0 dX10_tellSet_0 rfl ?_
  refine go_gR (pc := 1) C fdX10_50 dX10_tellSet_1 (fun x1 => ?_)
  refine go_bind (fun q2 hq2 => ?_)
  refine go_callV (rest := []) (st' := []) (c' := 0) (s' := 0) (pc := 4) C O miX10_209 mvX5_clear [] rfl (mX5_clear hq2).1 (mX5_clear hq2).2 dX10_tellSet_4 ⟨by decide, by decide, by decide, by decide⟩ rfl (Nat.le_of_ble_eq_true rfl) rfl ⟨rfl, rfl⟩ ?_
  refine go_aload_n (pc := 7) C 0 dX10_tellSet_7 rfl ?_
  refine go_gR (pc := 8) C fdX10_50 dX10_tellSet_8 (fun x3 => ?_)
  refine go_iload_n (pc := 11) C 1 dX10_tellSet_11 rfl ?_
  refine go_bind (fun q4 hq4 => ?_)
  refine go_callS (rest := [.ref x3]) (st' := [.int q4, .ref x3]) (c' := 0) (s' := 0) (pc := 12) C O miX10_291 w_397 [.int a1] rfl (mJ6_bitCount_0f7a4 hq4) dX10_tellSet_12 ⟨by decide, by decide, by decide, by decide⟩ rfl (Nat.le_of_ble_eq_true rfl) rfl ⟨rfl, rfl⟩ ?_
  refine go_i2l (pc := 15) C dX10_tellSet_15 ?_
  refine go_bind (fun q5 hq5 => ?_)
  refine go_callV (rest := []) (st' := []) (c' := 0) (s' := 0) (pc := 16) C O miX10_212 mvX5_add [.long (Int32.toInt64 q4)] rfl (mX5_add hq5).1 (mX5_add hq5).2 dX10_tellSet_16 ⟨by decide, by decide, by decide, by decide⟩ rfl (Nat.le_of_ble_eq_true rfl) rfl ⟨rfl, rfl⟩ ?_
  refine go_iload_n (pc := 19) C 1 dX10_tellSet_19 rfl ?_
  exact go_iret (w := wIh) (pc := 20) C E ((a1, q5)) a1 dX10_tellSet_20 rfl
theorem dX10_holders_0 : decode cX10_holders 0 = .ok (.aload_n 0, 1) := by decide +kernel
theorem dX10_holders_1 : decode cX10_holders 1 = .ok (.getfield 16, 3) := by decide +kernel
theorem dX10_holders_4 : decode cX10_holders 4 = .ok (.iload_n 1, 1) := by decide +kernel
theorem dX10_holders_5 : decode cX10_holders 5 = .ok (.invokevirtual 162, 3) := by decide +kernel
theorem dX10_holders_8 : decode cX10_holders 8 = .ok (.ifCond .ne 5, 3) := by decide +kernel
theorem dX10_holders_11 : decode cX10_holders 11 = .ok (.iconst (-1), 1) := by decide +kernel
theorem dX10_holders_12 : decode cX10_holders 12 = .ok (.ireturn, 1) := by decide +kernel
theorem dX10_holders_13 : decode cX10_holders 13 = .ok (.aload_n 0, 1) := by decide +kernel
theorem dX10_holders_14 : decode cX10_holders 14 = .ok (.aload_n 0, 1) := by decide +kernel
theorem dX10_holders_15 : decode cX10_holders 15 = .ok (.getfield 16, 3) := by decide +kernel
theorem dX10_holders_18 : decode cX10_holders 18 = .ok (.iload_n 1, 1) := by decide +kernel
theorem dX10_holders_19 : decode cX10_holders 19 = .ok (.invokevirtual 268, 3) := by decide +kernel
theorem dX10_holders_22 : decode cX10_holders 22 = .ok (.invokevirtual 271, 3) := by decide +kernel
theorem dX10_holders_25 : decode cX10_holders 25 = .ok (.ireturn, 1) := by decide +kernel
def fX10_holders (h : AH) (a0 : Nat) (a1 : Int32) : Option (Int32 × AH) :=
  if hasC h 10 a0 = true then (
    (gR h 10 a0 2).bind fun x1 =>
    (fX9_hasObject h x1 a1).bind fun q2 =>
    if q2 = true then (
      (gR h 10 a0 2).bind fun x3 =>
      (fX9_spacesAbove h x3 a1).bind fun q4 =>
      (fX10_tellSet h a0 q4).bind fun q5 =>
      some ((q5.1, q5.2))
    ) else (
      some (((-1), h))
    )
  ) else none
set_option maxHeartbeats 4000000 in
theorem mX10_holders {h : AH} {a0 : Nat} {a1 : Int32} {r : Int32 × AH} (hr : fX10_holders h a0 a1 = some r) : hasC h 10 a0 = true ∧ MC yX10_holders cX10_holders 2 (some .int) 5 0 0 [.ref a0, .int a1] h (some (.int r.1)) r.2 := by
  unfold fX10_holders at hr
  obtain ⟨hc, hr⟩ := if_some hr
  refine ⟨hc, mc_of (l0 := [(0, .ref a0), (1, .int a1)]) rfl pn_X10 (Nat.le_of_ble_eq_true rfl) (fun Y X C E O hnm => go_run hr ?_)⟩
  have C : CT Y X RX10 cX10_holders 2 := C
  refine go_aload_n (pc := 0) C 0 dX10_holders_0 rfl ?_
  refine go_gR (pc := 1) C fdX10_16 dX10_holders_1 (fun x1 => ?_)
  refine go_iload_n (pc := 4) C 1 dX10_holders_4 rfl ?_
  refine go_bind (fun q2 hq2 => ?_)
  refine go_callV (rest := []) (st' := [.int (b2i q2)]) (c' := 0) (s' := 0) (pc := 5) C O miX10_162 mvX9_hasObject [.int a1] rfl (mX9_hasObject hq2).1 (mX9_hasObject hq2).2 dX10_holders_5 ⟨by decide, by decide, by decide, by decide⟩ rfl (Nat.le_of_ble_eq_true rfl) rfl ⟨rfl, rfl⟩ ?_
  refine go_ifZ_ne (pc := 8) C 13 dX10_holders_8 (by decide) (fun _ => ?_) (fun _ => ?_)
  · refine go_aload_n (pc := 13) C 0 dX10_holders_13 rfl ?_
    refine go_aload_n (pc := 14) C 0 dX10_holders_14 rfl ?_
    refine go_gR (pc := 15) C fdX10_16 dX10_holders_15 (fun x3 => ?_)
    refine go_iload_n (pc := 18) C 1 dX10_holders_18 rfl ?_
    refine go_bind (fun q4 hq4 => ?_)
    refine go_callV (rest := [.ref a0]) (st' := [.int q4, .ref a0]) (c' := 0) (s' := 0) (pc := 19) C O miX10_268 mvX9_spacesAbove [.int a1] rfl (mX9_spacesAbove hq4).1 (mX9_spacesAbove hq4).2 dX10_holders_19 ⟨by decide, by decide, by decide, by decide⟩ rfl (Nat.le_of_ble_eq_true rfl) rfl ⟨rfl, rfl⟩ ?_
    refine go_bind (fun q5 hq5 => ?_)
    refine go_callV (rest := []) (st' := [.int q5.1]) (c' := 0) (s' := 0) (pc := 22) C O miX10_271 mvX10_tellSet [.int q4] rfl (mX10_tellSet hq5).1 (mX10_tellSet hq5).2 dX10_holders_22 ⟨by decide, by decide, by decide, by decide⟩ rfl (Nat.le_of_ble_eq_true rfl) rfl ⟨rfl, rfl⟩ ?_
    exact go_iret (w := wIh) (pc := 25) C E ((q5.1, q5.2)) q5.1 dX10_holders_25 rfl
  · refine go_iconst (pc := 11) C dX10_holders_11 ki_m1 ?_
    exact go_iret (w := wIh) (pc := 12) C E (((-1), h)) ((-1)) dX10_holders_12 rfl
theorem dX10_areTwo_0 : decode cX10_areTwo 0 = .ok (.iload_n 1, 1) := by decide +kernel
theorem dX10_areTwo_1 : decode cX10_areTwo 1 = .ok (.iload_n 2, 1) := by decide +kernel
theorem dX10_areTwo_2 : decode cX10_areTwo 2 = .ok (.if_icmp .eq 29, 3) := by decide +kernel
theorem dX10_areTwo_5 : decode cX10_areTwo 5 = .ok (.aload_n 0, 1) := by decide +kernel
theorem dX10_areTwo_6 : decode cX10_areTwo 6 = .ok (.getfield 16, 3) := by decide +kernel
theorem dX10_areTwo_9 : decode cX10_areTwo 9 = .ok (.iload_n 1, 1) := by decide +kernel
theorem dX10_areTwo_10 : decode cX10_areTwo 10 = .ok (.invokevirtual 138, 3) := by decide +kernel
theorem dX10_areTwo_13 : decode cX10_areTwo 13 = .ok (.ifCond .eq 18, 3) := by decide +kernel
theorem dX10_areTwo_16 : decode cX10_areTwo 16 = .ok (.aload_n 0, 1) := by decide +kernel
theorem dX10_areTwo_17 : decode cX10_areTwo 17 = .ok (.getfield 16, 3) := by decide +kernel
theorem dX10_areTwo_20 : decode cX10_areTwo 20 = .ok (.iload_n 2, 1) := by decide +kernel
theorem dX10_areTwo_21 : decode cX10_areTwo 21 = .ok (.invokevirtual 138, 3) := by decide +kernel
theorem dX10_areTwo_24 : decode cX10_areTwo 24 = .ok (.ifCond .eq 7, 3) := by decide +kernel
theorem dX10_areTwo_27 : decode cX10_areTwo 27 = .ok (.iconst 1, 1) := by decide +kernel
theorem dX10_areTwo_28 : decode cX10_areTwo 28 = .ok (.goto 4, 3) := by decide +kernel
theorem dX10_areTwo_31 : decode cX10_areTwo 31 = .ok (.iconst 0, 1) := by decide +kernel
theorem dX10_areTwo_32 : decode cX10_areTwo 32 = .ok (.ireturn, 1) := by decide +kernel
def fX10_areTwo (h : AH) (a0 : Nat) (a1 : Int32) (a2 : Int32) : Option (Bool) :=
  if hasC h 10 a0 = true then (
    if a1 = a2 then (
      some false
    ) else (
      (gR h 10 a0 2).bind fun x1 =>
      (fX9_hasSpace h x1 a1).bind fun q2 =>
      if q2 = true then (
        (gR h 10 a0 2).bind fun x3 =>
        (fX9_hasSpace h x3 a2).bind fun q4 =>
        if q4 = true then (
          some true
        ) else (
          some false
        )
      ) else (
        some false
      )
    )
  ) else none
set_option maxHeartbeats 4000000 in
theorem mX10_areTwo {h : AH} {a0 : Nat} {a1 : Int32} {a2 : Int32} {r : Bool} (hr : fX10_areTwo h a0 a1 a2 = some r) : hasC h 10 a0 = true ∧ MC yX10_areTwo cX10_areTwo 3 (some .boolean) 2 0 0 [.ref a0, .int a1, .int a2] h (some (.int (b2i r))) h := by
  unfold fX10_areTwo at hr
  obtain ⟨hc, hr⟩ := if_some hr
  refine ⟨hc, mc_of (l0 := [(0, .ref a0), (1, .int a1), (2, .int a2)]) rfl pn_X10 (Nat.le_of_ble_eq_true rfl) (fun Y X C E O hnm => go_run hr ?_)⟩
  have C : CT Y X RX10 cX10_areTwo 3 := C
  refine go_iload_n (pc := 0) C 1 dX10_areTwo_0 rfl ?_
  refine go_iload_n (pc := 1) C 2 dX10_areTwo_1 rfl ?_
  refine go_icmp_eq (pc := 2) C 31 dX10_areTwo_2 (by decide) (fun _ => ?_) (fun _ => ?_)
  · refine go_iconst (pc := 31) C dX10_areTwo_31 ki_0 ?_
    exact go_bret (w := (wZ h)) (pc := 32) C E false 0 false rfl dX10_areTwo_32 rfl
  · refine go_aload_n (pc := 5) C 0 dX10_areTwo_5 rfl ?_
    refine go_gR (pc := 6) C fdX10_16 dX10_areTwo_6 (fun x1 => ?_)
    refine go_iload_n (pc := 9) C 1 dX10_areTwo_9 rfl ?_
    refine go_bind (fun q2 hq2 => ?_)
    refine go_callV (rest := []) (st' := [.int (b2i q2)]) (c' := 0) (s' := 0) (pc := 10) C O miX10_138 mvX9_hasSpace [.int a1] rfl (mX9_hasSpace hq2).1 (mX9_hasSpace hq2).2 dX10_areTwo_10 ⟨by decide, by decide, by decide, by decide⟩ rfl (Nat.le_of_ble_eq_true rfl) rfl ⟨rfl, rfl⟩ ?_
    refine go_ifZ_eq (pc := 13) C 31 dX10_areTwo_13 (by decide) (fun _ => ?_) (fun _ => ?_)
    · refine go_aload_n (pc := 16) C 0 dX10_areTwo_16 rfl ?_
      refine go_gR (pc := 17) C fdX10_16 dX10_areTwo_17 (fun x3 => ?_)
      refine go_iload_n (pc := 20) C 2 dX10_areTwo_20 rfl ?_
      refine go_bind (fun q4 hq4 => ?_)
      refine go_callV (rest := []) (st' := [.int (b2i q4)]) (c' := 0) (s' := 0) (pc := 21) C O miX10_138 mvX9_hasSpace [.int a2] rfl (mX9_hasSpace hq4).1 (mX9_hasSpace hq4).2 dX10_areTwo_21 ⟨by decide, by decide, by decide, by decide⟩ rfl (Nat.le_of_ble_eq_true rfl) rfl ⟨rfl, rfl⟩ ?_
      refine go_ifZ_eq (pc := 24) C 31 dX10_areTwo_24 (by decide) (fun _ => ?_) (fun _ => ?_)
      · refine go_iconst (pc := 27) C dX10_areTwo_27 ki_1 ?_
        refine go_goto (pc := 28) C 32 dX10_areTwo_28 (by decide) ?_
        exact go_bret (w := (wZ h)) (pc := 32) C E true 1 true rfl dX10_areTwo_32 rfl
      · refine go_iconst (pc := 31) C dX10_areTwo_31 ki_0 ?_
        exact go_bret (w := (wZ h)) (pc := 32) C E false 0 false rfl dX10_areTwo_32 rfl
    · refine go_iconst (pc := 31) C dX10_areTwo_31 ki_0 ?_
      exact go_bret (w := (wZ h)) (pc := 32) C E false 0 false rfl dX10_areTwo_32 rfl
theorem dX10_shared_0 : decode cX10_shared 0 = .ok (.aload_n 0, 1) := by decide +kernel
theorem dX10_shared_1 : decode cX10_shared 1 = .ok (.iload_n 1, 1) := by decide +kernel
theorem dX10_shared_2 : decode cX10_shared 2 = .ok (.iload_n 2, 1) := by decide +kernel
theorem dX10_shared_3 : decode cX10_shared 3 = .ok (.invokevirtual 274, 3) := by decide +kernel
theorem dX10_shared_6 : decode cX10_shared 6 = .ok (.ifCond .ne 5, 3) := by decide +kernel
theorem dX10_shared_9 : decode cX10_shared 9 = .ok (.iconst (-1), 1) := by decide +kernel
theorem dX10_shared_10 : decode cX10_shared 10 = .ok (.ireturn, 1) := by decide +kernel
theorem dX10_shared_11 : decode cX10_shared 11 = .ok (.iconst 0, 1) := by decide +kernel
theorem dX10_shared_12 : decode cX10_shared 12 = .ok (.istore_n 3, 1) := by decide +kernel
theorem dX10_shared_13 : decode cX10_shared 13 = .ok (.iconst 0, 1) := by decide +kernel
theorem dX10_shared_14 : decode cX10_shared 14 = .ok (.istore 4, 2) := by decide +kernel
theorem dX10_shared_16 : decode cX10_shared 16 = .ok (.iload 4, 2) := by decide +kernel
theorem dX10_shared_18 : decode cX10_shared 18 = .ok (.bipush 8, 2) := by decide +kernel
theorem dX10_shared_20 : decode cX10_shared 20 = .ok (.if_icmp .ge 50, 3) := by decide +kernel
theorem dX10_shared_23 : decode cX10_shared 23 = .ok (.aload_n 0, 1) := by decide +kernel
theorem dX10_shared_24 : decode cX10_shared 24 = .ok (.getfield 16, 3) := by decide +kernel
theorem dX10_shared_27 : decode cX10_shared 27 = .ok (.iload_n 1, 1) := by decide +kernel
theorem dX10_shared_28 : decode cX10_shared 28 = .ok (.iload 4, 2) := by decide +kernel
theorem dX10_shared_30 : decode cX10_shared 30 = .ok (.invokevirtual 200, 3) := by decide +kernel
theorem dX10_shared_33 : decode cX10_shared 33 = .ok (.istore 5, 2) := by decide +kernel
theorem dX10_shared_35 : decode cX10_shared 35 = .ok (.iload 5, 2) := by decide +kernel
theorem dX10_shared_37 : decode cX10_shared 37 = .ok (.bipush 24, 2) := by decide +kernel
theorem dX10_shared_39 : decode cX10_shared 39 = .ok (.if_icmp .eq 25, 3) := by decide +kernel
theorem dX10_shared_42 : decode cX10_shared 42 = .ok (.iload 5, 2) := by decide +kernel
theorem dX10_shared_44 : decode cX10_shared 44 = .ok (.aload_n 0, 1) := by decide +kernel
theorem dX10_shared_45 : decode cX10_shared 45 = .ok (.getfield 16, 3) := by decide +kernel
theorem dX10_shared_48 : decode cX10_shared 48 = .ok (.iload_n 2, 1) := by decide +kernel
theorem dX10_shared_49 : decode cX10_shared 49 = .ok (.iload 4, 2) := by decide +kernel
theorem dX10_shared_51 : decode cX10_shared 51 = .ok (.invokevirtual 200, 3) := by decide +kernel
theorem dX10_shared_54 : decode cX10_shared 54 = .ok (.if_icmp .ne 10, 3) := by decide +kernel
theorem dX10_shared_57 : decode cX10_shared 57 = .ok (.iload_n 3, 1) := by decide +kernel
theorem dX10_shared_58 : decode cX10_shared 58 = .ok (.iconst 1, 1) := by decide +kernel
theorem dX10_shared_59 : decode cX10_shared 59 = .ok (.iload 4, 2) := by decide +kernel
theorem dX10_shared_61 : decode cX10_shared 61 = .ok (.ishl, 1) := by decide +kernel
theorem dX10_shared_62 : decode cX10_shared 62 = .ok (.ior, 1) := by decide +kernel
theorem dX10_shared_63 : decode cX10_shared 63 = .ok (.istore_n 3, 1) := by decide +kernel
theorem dX10_shared_64 : decode cX10_shared 64 = .ok (.iinc 4 1, 3) := by decide +kernel
theorem dX10_shared_67 : decode cX10_shared 67 = .ok (.goto (-51), 3) := by decide +kernel
theorem dX10_shared_70 : decode cX10_shared 70 = .ok (.aload_n 0, 1) := by decide +kernel
theorem dX10_shared_71 : decode cX10_shared 71 = .ok (.iload_n 3, 1) := by decide +kernel
theorem dX10_shared_72 : decode cX10_shared 72 = .ok (.invokevirtual 271, 3) := by decide +kernel
theorem dX10_shared_75 : decode cX10_shared 75 = .ok (.ireturn, 1) := by decide +kernel
def fX10_shared_L16 (k70 : AH → Nat → Int32 → Option (Int32 × AH)) : Nat → AH → Nat → Int32 → Int32 → Int32 → Int32 → Option (Int32 × AH)
  | 0, _, _, _, _, _, _ => none
  | n + 1, h, v0, v1, v2, v3, v4 =>
    if 8 ≤ v4 then (
      k70 h v0 v3
    ) else (
      (gR h 10 v0 2).bind fun x1 =>
      (fX9_firstHolder h x1 v1 v4).bind fun q2 =>
      if q2 = 24 then (
        letF (v4 + 1 : Int32) fun x3 =>
        fX10_shared_L16 k70 n h v0 v1 v2 v3 x3
      ) else (
        (gR h 10 v0 2).bind fun x4 =>
        (fX9_firstHolder h x4 v2 v4).bind fun q5 =>
        if q2 = q5 then (
          letF (v3 ||| (1 <<< (v4 &&& 31)) : Int32) fun x6 =>
          letF (v4 + 1 : Int32) fun x7 =>
          fX10_shared_L16 k70 n h v0 v1 v2 x6 x7
        ) else (
          letF (v4 + 1 : Int32) fun x8 =>
          fX10_shared_L16 k70 n h v0 v1 v2 v3 x8
        )
      )
    )
def fX10_shared (h : AH) (a0 : Nat) (a1 : Int32) (a2 : Int32) : Option (Int32 × AH) :=
  if hasC h 10 a0 = true then (
    (fX10_areTwo h a0 a1 a2).bind fun q9 =>
    if q9 = true then (
      fX10_shared_L16
        (fun h12 x10 x11 =>
          (fX10_tellSet h12 x10 x11).bind fun q13 =>
          some ((q13.1, q13.2)))
        FU h a0 a1 a2 0 0
    ) else (
      some (((-1), h))
    )
  ) else none
set_option maxHeartbeats 4000000 in
theorem gX10_shared_L16 {Y : YT} {X : XT} (C : CT Y X RX10 cX10_shared 6) (O : RO X 4 0 0) {r : Int32 × AH} (E : RX Y X (some .int) (some (.int r.1)) r.2 0 0) {k70 : AH → Nat → Int32 → Option (Int32 × AH)} (hk70 : ∀ (h : AH) (v0 : Nat) (v3 : Int32), GO Y X 6 r h 0 0 70 [(0, .ref v0), (3, .int v3)] [] (k70 h v0 v3)) : ∀ (n : Nat) (h : AH) (v0 : Nat) (v1 : Int32) (v2 : Int32) (v3 : Int32) (v4 : Int32), GO Y X 6 r h 0 0 16 [(0, .ref v0), (1, .int v1), (2, .int v2), (3, .int v3), (4, .int v4)] [] (fX10_shared_L16 k70 n h v0 v1 v2 v3 v4) := by
  intro n
  induction n with
  | zero => intros; exact go_none _ _ _
  | succ n ih =>
    intro h v0 v1 v2 v3 v4
    rw [fX10_shared_L16]
    refine go_iload (pc := 16) C 4 dX10_shared_16 rfl ?_
    refine go_bipush (pc := 18) C dX10_shared_18 kb_8 ?_
    refine go_icmp_ge (pc := 20) C 70 dX10_shared_20 (by decide) (fun _ => ?_) (fun _ => ?_)
    · refine go_sub (ls' := [(0, .ref v0), (3, .int v3)]) [0, 3] rfl ?_
      exact hk70 h v0 v3
    · refine go_aload_n (pc := 23) C 0 dX10_shared_23 rfl ?_
      refine go_gR (pc := 24) C fdX10_16 dX10_shared_24 (fun x1 => ?_)
      refine go_iload_n (pc := 27) C 1 dX10_shared_27 rfl ?_
      refine go_iload (pc := 28) C 4 dX10_shared_28 rfl ?_
      refine go_bind (fun q2 hq2 => ?_)
      refine go_callV (rest := []) (st' := [.int q2]) (c' := 0) (s' := 0) (pc := 30) C O miX10_200 mvX9_firstHolder [.int v1, .int v4] rfl (mX9_firstHolder hq2).1 (mX9_firstHolder hq2).2 dX10_shared_30 ⟨by decide, by decide, by decide, by decide⟩ rfl (Nat.le_of_ble_eq_true rfl) rfl ⟨rfl, rfl⟩ ?_
      refine go_istore (ls' := [(5, .int q2), (0, .ref v0), (1, .int v1), (2, .int v2), (3, .int v3), (4, .int v4)]) (pc := 33) C dX10_shared_33 (by decide) rfl ?_
      refine go_iload (pc := 35) C 0 dX10_shared_35 rfl ?_
      refine go_bipush (pc := 37) C dX10_shared_37 kb_24 ?_
      refine go_icmp_eq (pc := 39) C 64 dX10_shared_39 (by decide) (fun _ => ?_) (fun _ => ?_)
      · refine go_iincL (pc := 64) C 5 dX10_shared_64 rfl ki_1 (by decide) (fun x3 => [(4, .int x3), (5, .int q2), (0, .ref v0), (1, .int v1), (2, .int v2), (3, .int v3)]) (fun _ => rfl) (fun x3 => ?_)
        refine go_goto (pc := 67) C 16 dX10_shared_67 (by decide) ?_
        refine go_sub (ls' := [(0, .ref v0), (1, .int v1), (2, .int v2), (3, .int v3), (4, .int x3)]) [2, 3, 4, 5, 0] rfl ?_
        exact ih h v0 v1 v2 v3 x3
      · refine go_iload (pc := 42) C 0 dX10_shared_42 rfl ?_
        refine go_aload_n (pc := 44) C 1 dX10_shared_44 rfl ?_
        refine go_gR (pc := 45) C fdX10_16 dX10_shared_45 (fun x4 => ?_)
        refine go_iload_n (pc := 48) C 3 dX10_shared_48 rfl ?_
        refine go_iload (pc := 49) C 5 dX10_shared_49 rfl ?_
        refine go_bind (fun q5 hq5 => ?_)
        refine go_callV (rest := [.int q2]) (st' := [.int q5, .int q2]) (c' := 0) (s' := 0) (pc := 51) C O miX10_200 mvX9_firstHolder [.int v2, .int v4] rfl (mX9_firstHolder hq5).1 (mX9_firstHolder hq5).2 dX10_shared_51 ⟨by decide, by decide, by decide, by decide⟩ rfl (Nat.le_of_ble_eq_true rfl) rfl ⟨rfl, rfl⟩ ?_
        refine go_icmp_ne (pc := 54) C 64 dX10_shared_54 (by decide) (fun _ => ?_) (fun _ => ?_)
        · refine go_iload_n (pc := 57) C 4 dX10_shared_57 rfl ?_
          refine go_iconst (pc := 58) C dX10_shared_58 ki_1 ?_
          refine go_iload (pc := 59) C 5 dX10_shared_59 rfl ?_
          refine go_ishl (pc := 61) C dX10_shared_61 ?_
          refine go_ior (pc := 62) C dX10_shared_62 ?_
          refine go_istore_nL (pc := 63) C dX10_shared_63 (by decide) (fun x6 => [(3, .int x6), (5, .int q2), (0, .ref v0), (1, .int v1), (2, .int v2), (4, .int v4)]) (fun _ => rfl) (fun x6 => ?_)
          refine go_iincL (pc := 64) C 5 dX10_shared_64 rfl ki_1 (by decide) (fun x7 => [(4, .int x7), (3, .int x6), (5, .int q2), (0, .ref v0), (1, .int v1), (2, .int v2)]) (fun _ => rfl) (fun x7 => ?_)
          refine go_goto (pc := 67) C 16 dX10_shared_67 (by decide) ?_
          refine go_sub (ls' := [(0, .ref v0), (1, .int v1), (2, .int v2), (3, .int x6), (4, .int x7)]) [3, 4, 5, 1, 0] rfl ?_
          exact ih h v0 v1 v2 x6 x7
        · refine go_iincL (pc := 64) C 5 dX10_shared_64 rfl ki_1 (by decide) (fun x8 => [(4, .int x8), (5, .int q2), (0, .ref v0), (1, .int v1), (2, .int v2), (3, .int v3)]) (fun _ => rfl) (fun x8 => ?_)
          refine go_goto (pc := 67) C 16 dX10_shared_67 (by decide) ?_
          refine go_sub (ls' := [(0, .ref v0), (1, .int v1), (2, .int v2), (3, .int v3), (4, .int x8)]) [2, 3, 4, 5, 0] rfl ?_
          exact ih h v0 v1 v2 v3 x8
set_option maxHeartbeats 4000000 in
theorem mX10_shared {h : AH} {a0 : Nat} {a1 : Int32} {a2 : Int32} {r : Int32 × AH} (hr : fX10_shared h a0 a1 a2 = some r) : hasC h 10 a0 = true ∧ MC yX10_shared cX10_shared 6 (some .int) 4 0 0 [.ref a0, .int a1, .int a2] h (some (.int r.1)) r.2 := by
  unfold fX10_shared at hr
  obtain ⟨hc, hr⟩ := if_some hr
  refine ⟨hc, mc_of (l0 := [(0, .ref a0), (1, .int a1), (2, .int a2)]) rfl pn_X10 (Nat.le_of_ble_eq_true rfl) (fun Y X C E O hnm => go_run hr ?_)⟩
  have C : CT Y X RX10 cX10_shared 6 := C
  refine go_aload_n (pc := 0) C 0 dX10_shared_0 rfl ?_
  refine go_iload_n (pc := 1) C 1 dX10_shared_1 rfl ?_
  refine go_iload_n (pc := 2) C 2 dX10_shared_2 rfl ?_
  refine go_bind (fun q9 hq9 => ?_)
  refine go_callV (rest := []) (st' := [.int (b2i q9)]) (c' := 0) (s' := 0) (pc := 3) C O miX10_274 mvX10_areTwo [.int a1, .int a2] rfl (mX10_areTwo hq9).1 (mX10_areTwo hq9).2 dX10_shared_3 ⟨by decide, by decide, by decide, by decide⟩ rfl (Nat.le_of_ble_eq_true rfl) rfl ⟨rfl, rfl⟩ ?_
  refine go_ifZ_ne (pc := 6) C 11 dX10_shared_6 (by decide) (fun _ => ?_) (fun _ => ?_)
  · refine go_iconst (pc := 11) C dX10_shared_11 ki_0 ?_
    refine go_istore_n (ls' := [(3, .int 0), (0, .ref a0), (1, .int a1), (2, .int a2)]) (pc := 12) C dX10_shared_12 (by decide) rfl ?_
    refine go_iconst (pc := 13) C dX10_shared_13 ki_0 ?_
    refine go_istore (ls' := [(4, .int 0), (3, .int 0), (0, .ref a0), (1, .int a1), (2, .int a2)]) (pc := 14) C dX10_shared_14 (by decide) rfl ?_
    refine go_sub (ls' := [(0, .ref a0), (1, .int a1), (2, .int a2), (3, .int 0), (4, .int 0)]) [2, 3, 4, 1, 0] rfl ?_
    refine gX10_shared_L16 C O E (fun h12 x10 x11 => ?_) FU h a0 a1 a2 0 0
    · refine go_aload_n (pc := 70) C 0 dX10_shared_70 rfl ?_
      refine go_iload_n (pc := 71) C 1 dX10_shared_71 rfl ?_
      refine go_bind (fun q13 hq13 => ?_)
      refine go_callV (rest := []) (st' := [.int q13.1]) (c' := 0) (s' := 0) (pc := 72) C O miX10_271 mvX10_tellSet [.int x11] rfl (mX10_tellSet hq13).1 (mX10_tellSet hq13).2 dX10_shared_72 ⟨by decide, by decide, by decide, by decide⟩ rfl (Nat.le_of_ble_eq_true rfl) rfl ⟨rfl, rfl⟩ ?_
      exact go_iret (w := wIh) (pc := 75) C E ((q13.1, q13.2)) q13.1 dX10_shared_75 rfl
  · refine go_iconst (pc := 9) C dX10_shared_9 ki_m1 ?_
    exact go_iret (w := wIh) (pc := 10) C E (((-1), h)) ((-1)) dX10_shared_10 rfl
theorem dX10_differ_0 : decode cX10_differ 0 = .ok (.aload_n 0, 1) := by decide +kernel
theorem dX10_differ_1 : decode cX10_differ 1 = .ok (.iload_n 1, 1) := by decide +kernel
theorem dX10_differ_2 : decode cX10_differ 2 = .ok (.iload_n 2, 1) := by decide +kernel
theorem dX10_differ_3 : decode cX10_differ 3 = .ok (.invokevirtual 274, 3) := by decide +kernel
theorem dX10_differ_6 : decode cX10_differ 6 = .ok (.ifCond .ne 5, 3) := by decide +kernel
theorem dX10_differ_9 : decode cX10_differ 9 = .ok (.iconst (-1), 1) := by decide +kernel
theorem dX10_differ_10 : decode cX10_differ 10 = .ok (.ireturn, 1) := by decide +kernel
theorem dX10_differ_11 : decode cX10_differ 11 = .ok (.iconst 0, 1) := by decide +kernel
theorem dX10_differ_12 : decode cX10_differ 12 = .ok (.istore_n 3, 1) := by decide +kernel
theorem dX10_differ_13 : decode cX10_differ 13 = .ok (.iconst 0, 1) := by decide +kernel
theorem dX10_differ_14 : decode cX10_differ 14 = .ok (.istore 4, 2) := by decide +kernel
theorem dX10_differ_16 : decode cX10_differ 16 = .ok (.iload 4, 2) := by decide +kernel
theorem dX10_differ_18 : decode cX10_differ 18 = .ok (.bipush 8, 2) := by decide +kernel
theorem dX10_differ_20 : decode cX10_differ 20 = .ok (.if_icmp .ge 48, 3) := by decide +kernel
theorem dX10_differ_23 : decode cX10_differ 23 = .ok (.aload_n 0, 1) := by decide +kernel
theorem dX10_differ_24 : decode cX10_differ 24 = .ok (.getfield 16, 3) := by decide +kernel
theorem dX10_differ_27 : decode cX10_differ 27 = .ok (.iload_n 1, 1) := by decide +kernel
theorem dX10_differ_28 : decode cX10_differ 28 = .ok (.iload 4, 2) := by decide +kernel
theorem dX10_differ_30 : decode cX10_differ 30 = .ok (.invokevirtual 265, 3) := by decide +kernel
theorem dX10_differ_33 : decode cX10_differ 33 = .ok (.istore 5, 2) := by decide +kernel
theorem dX10_differ_35 : decode cX10_differ 35 = .ok (.iload 5, 2) := by decide +kernel
theorem dX10_differ_37 : decode cX10_differ 37 = .ok (.ifCond .lt 18, 3) := by decide +kernel
theorem dX10_differ_40 : decode cX10_differ 40 = .ok (.iload 5, 2) := by decide +kernel
theorem dX10_differ_42 : decode cX10_differ 42 = .ok (.aload_n 0, 1) := by decide +kernel
theorem dX10_differ_43 : decode cX10_differ 43 = .ok (.getfield 16, 3) := by decide +kernel
theorem dX10_differ_46 : decode cX10_differ 46 = .ok (.iload_n 2, 1) := by decide +kernel
theorem dX10_differ_47 : decode cX10_differ 47 = .ok (.iload 4, 2) := by decide +kernel
theorem dX10_differ_49 : decode cX10_differ 49 = .ok (.invokevirtual 265, 3) := by decide +kernel
theorem dX10_differ_52 : decode cX10_differ 52 = .ok (.if_icmp .eq 10, 3) := by decide +kernel
theorem dX10_differ_55 : decode cX10_differ 55 = .ok (.iload_n 3, 1) := by decide +kernel
theorem dX10_differ_56 : decode cX10_differ 56 = .ok (.iconst 1, 1) := by decide +kernel
theorem dX10_differ_57 : decode cX10_differ 57 = .ok (.iload 4, 2) := by decide +kernel
theorem dX10_differ_59 : decode cX10_differ 59 = .ok (.ishl, 1) := by decide +kernel
theorem dX10_differ_60 : decode cX10_differ 60 = .ok (.ior, 1) := by decide +kernel
theorem dX10_differ_61 : decode cX10_differ 61 = .ok (.istore_n 3, 1) := by decide +kernel
theorem dX10_differ_62 : decode cX10_differ 62 = .ok (.iinc 4 1, 3) := by decide +kernel
theorem dX10_differ_65 : decode cX10_differ 65 = .ok (.goto (-49), 3) := by decide +kernel
theorem dX10_differ_68 : decode cX10_differ 68 = .ok (.aload_n 0, 1) := by decide +kernel
theorem dX10_differ_69 : decode cX10_differ 69 = .ok (.iload_n 3, 1) := by decide +kernel
theorem dX10_differ_70 : decode cX10_differ 70 = .ok (.invokevirtual 271, 3) := by decide +kernel
theorem dX10_differ_73 : decode cX10_differ 73 = .ok (.ireturn, 1) := by decide +kernel
def fX10_differ_J55 (k62 : AH → Nat → Int32 → Int32 → Int32 → Int32 → Option (Int32 × AH)) (h : AH) (v0 : Nat) (v1 : Int32) (v2 : Int32) (v3 : Int32) (v4 : Int32) : Option (Int32 × AH) :=
    letF (v3 ||| (1 <<< (v4 &&& 31)) : Int32) fun x1 =>
    k62 h v0 v1 v2 x1 v4
def fX10_differ_L16 (k68 : AH → Nat → Int32 → Option (Int32 × AH)) : Nat → AH → Nat → Int32 → Int32 → Int32 → Int32 → Option (Int32 × AH)
  | 0, _, _, _, _, _, _ => none
  | n + 1, h, v0, v1, v2, v3, v4 =>
    if 8 ≤ v4 then (
      k68 h v0 v3
    ) else (
      (gR h 10 v0 2).bind fun x2 =>
      (fX9_peekPage h x2 v1 v4).bind fun q3 =>
      if q3 < 0 then (
        fX10_differ_J55
          (fun h9 x4 x5 x6 x7 x8 =>
            letF (x8 + 1 : Int32) fun x10 =>
            fX10_differ_L16 k68 n h9 x4 x5 x6 x7 x10)
          h v0 v1 v2 v3 v4
      ) else (
        (gR h 10 v0 2).bind fun x11 =>
        (fX9_peekPage h x11 v2 v4).bind fun q12 =>
        if q3 = q12 then (
          letF (v4 + 1 : Int32) fun x13 =>
          fX10_differ_L16 k68 n h v0 v1 v2 v3 x13
        ) else (
          fX10_differ_J55
            (fun h19 x14 x15 x16 x17 x18 =>
              letF (x18 + 1 : Int32) fun x20 =>
              fX10_differ_L16 k68 n h19 x14 x15 x16 x17 x20)
            h v0 v1 v2 v3 v4
        )
      )
    )
def fX10_differ (h : AH) (a0 : Nat) (a1 : Int32) (a2 : Int32) : Option (Int32 × AH) :=
  if hasC h 10 a0 = true then (
    (fX10_areTwo h a0 a1 a2).bind fun q21 =>
    if q21 = true then (
      fX10_differ_L16
        (fun h24 x22 x23 =>
          (fX10_tellSet h24 x22 x23).bind fun q25 =>
          some ((q25.1, q25.2)))
        FU h a0 a1 a2 0 0
    ) else (
      some (((-1), h))
    )
  ) else none
set_option maxHeartbeats 4000000 in
theorem gX10_differ_J55 {Y : YT} {X : XT} (C : CT Y X RX10 cX10_differ 6) (O : RO X 5 0 0) {r : Int32 × AH} (E : RX Y X (some .int) (some (.int r.1)) r.2 0 0) {k62 : AH → Nat → Int32 → Int32 → Int32 → Int32 → Option (Int32 × AH)} (hk62 : ∀ (h : AH) (v0 : Nat) (v1 : Int32) (v2 : Int32) (v3 : Int32) (v4 : Int32), GO Y X 6 r h 0 0 62 [(0, .ref v0), (1, .int v1), (2, .int v2), (3, .int v3), (4, .int v4)] [] (k62 h v0 v1 v2 v3 v4)) : ∀ (h : AH) (v0 : Nat) (v1 : Int32) (v2 : Int32) (v3 : Int32) (v4 : Int32), GO Y X 6 r h 0 0 55 [(0, .ref v0), (1, .int v1), (2, .int v2), (3, .int v3), (4, .int v4)] [] (fX10_differ_J55 k62 h v0 v1 v2 v3 v4) := by
  intro h v0 v1 v2 v3 v4
  unfold fX10_differ_J55
  refine go_iload_n (pc := 55) C 3 dX10_differ_55 rfl ?_
  refine go_iconst (pc := 56) C dX10_differ_56 ki_1 ?_
  refine go_iload (pc := 57) C 4 dX10_differ_57 rfl ?_
  refine go_ishl (pc := 59) C dX10_differ_59 ?_
  refine go_ior (pc := 60) C dX10_differ_60 ?_
  refine go_istore_nL (pc := 61) C dX10_differ_61 (by decide) (fun x1 => [(3, .int x1), (0, .ref v0), (1, .int v1), (2, .int v2), (4, .int v4)]) (fun _ => rfl) (fun x1 => ?_)
  refine go_sub (ls' := [(0, .ref v0), (1, .int v1), (2, .int v2), (3, .int x1), (4, .int v4)]) [1, 2, 3, 0, 4] rfl ?_
  exact hk62 h v0 v1 v2 x1 v4
set_option maxHeartbeats 4000000 in
theorem gX10_differ_L16 {Y : YT} {X : XT} (C : CT Y X RX10 cX10_differ 6) (O : RO X 5 0 0) {r : Int32 × AH} (E : RX Y X (some .int) (some (.int r.1)) r.2 0 0) {k68 : AH → Nat → Int32 → Option (Int32 × AH)} (hk68 : ∀ (h : AH) (v0 : Nat) (v3 : Int32), GO Y X 6 r h 0 0 68 [(0, .ref v0), (3, .int v3)] [] (k68 h v0 v3)) : ∀ (n : Nat) (h : AH) (v0 : Nat) (v1 : Int32) (v2 : Int32) (v3 : Int32) (v4 : Int32), GO Y X 6 r h 0 0 16 [(0, .ref v0), (1, .int v1), (2, .int v2), (3, .int v3), (4, .int v4)] [] (fX10_differ_L16 k68 n h v0 v1 v2 v3 v4) := by
  intro n
  induction n with
  | zero => intros; exact go_none _ _ _
  | succ n ih =>
    intro h v0 v1 v2 v3 v4
    rw [fX10_differ_L16]
    refine go_iload (pc := 16) C 4 dX10_differ_16 rfl ?_
    refine go_bipush (pc := 18) C dX10_differ_18 kb_8 ?_
    refine go_icmp_ge (pc := 20) C 68 dX10_differ_20 (by decide) (fun _ => ?_) (fun _ => ?_)
    · refine go_sub (ls' := [(0, .ref v0), (3, .int v3)]) [0, 3] rfl ?_
      exact hk68 h v0 v3
    · refine go_aload_n (pc := 23) C 0 dX10_differ_23 rfl ?_
      refine go_gR (pc := 24) C fdX10_16 dX10_differ_24 (fun x2 => ?_)
      refine go_iload_n (pc := 27) C 1 dX10_differ_27 rfl ?_
      refine go_iload (pc := 28) C 4 dX10_differ_28 rfl ?_
      refine go_bind (fun q3 hq3 => ?_)
      refine go_callV (rest := []) (st' := [.int q3]) (c' := 0) (s' := 0) (pc := 30) C O miX10_265 mvX9_peekPage [.int v1, .int v4] rfl (mX9_peekPage hq3).1 (mX9_peekPage hq3).2 dX10_differ_30 ⟨by decide, by decide, by decide, by decide⟩ rfl (Nat.le_of_ble_eq_true rfl) rfl ⟨rfl, rfl⟩ ?_
      refine go_istore (ls' := [(5, .int q3), (0, .ref v0), (1, .int v1), (2, .int v2), (3, .int v3), (4, .int v4)]) (pc := 33) C dX10_differ_33 (by decide) rfl ?_
      refine go_iload (pc := 35) C 0 dX10_differ_35 rfl ?_
      refine go_if_lt (pc := 37) C 55 dX10_differ_37 (by decide) (fun _ => ?_) (fun _ => ?_)
      · refine go_sub (ls' := [(0, .ref v0), (1, .int v1), (2, .int v2), (3, .int v3), (4, .int v4)]) [1, 2, 3, 4, 5] rfl ?_
        refine gX10_differ_J55 C O E (fun h9 x4 x5 x6 x7 x8 => ?_) h v0 v1 v2 v3 v4
        · refine go_iincL (pc := 62) C 4 dX10_differ_62 rfl ki_1 (by decide) (fun x10 => [(4, .int x10), (0, .ref x4), (1, .int x5), (2, .int x6), (3, .int x7)]) (fun _ => rfl) (fun x10 => ?_)
          refine go_goto (pc := 65) C 16 dX10_differ_65 (by decide) ?_
          refine go_sub (ls' := [(0, .ref x4), (1, .int x5), (2, .int x6), (3, .int x7), (4, .int x10)]) [1, 2, 3, 4, 0] rfl ?_
          exact ih h9 x4 x5 x6 x7 x10
      · refine go_iload (pc := 40) C 0 dX10_differ_40 rfl ?_
        refine go_aload_n (pc := 42) C 1 dX10_differ_42 rfl ?_
        refine go_gR (pc := 43) C fdX10_16 dX10_differ_43 (fun x11 => ?_)
        refine go_iload_n (pc := 46) C 3 dX10_differ_46 rfl ?_
        refine go_iload (pc := 47) C 5 dX10_differ_47 rfl ?_
        refine go_bind (fun q12 hq12 => ?_)
        refine go_callV (rest := [.int q3]) (st' := [.int q12, .int q3]) (c' := 0) (s' := 0) (pc := 49) C O miX10_265 mvX9_peekPage [.int v2, .int v4] rfl (mX9_peekPage hq12).1 (mX9_peekPage hq12).2 dX10_differ_49 ⟨by decide, by decide, by decide, by decide⟩ rfl (Nat.le_of_ble_eq_true rfl) rfl ⟨rfl, rfl⟩ ?_
        refine go_icmp_eq (pc := 52) C 62 dX10_differ_52 (by decide) (fun _ => ?_) (fun _ => ?_)
        · refine go_iincL (pc := 62) C 5 dX10_differ_62 rfl ki_1 (by decide) (fun x13 => [(4, .int x13), (5, .int q3), (0, .ref v0), (1, .int v1), (2, .int v2), (3, .int v3)]) (fun _ => rfl) (fun x13 => ?_)
          refine go_goto (pc := 65) C 16 dX10_differ_65 (by decide) ?_
          refine go_sub (ls' := [(0, .ref v0), (1, .int v1), (2, .int v2), (3, .int v3), (4, .int x13)]) [2, 3, 4, 5, 0] rfl ?_
          exact ih h v0 v1 v2 v3 x13
        · refine go_sub (ls' := [(0, .ref v0), (1, .int v1), (2, .int v2), (3, .int v3), (4, .int v4)]) [1, 2, 3, 4, 5] rfl ?_
          refine gX10_differ_J55 C O E (fun h19 x14 x15 x16 x17 x18 => ?_) h v0 v1 v2 v3 v4
          · refine go_iincL (pc := 62) C 4 dX10_differ_62 rfl ki_1 (by decide) (fun x20 => [(4, .int x20), (0, .ref x14), (1, .int x15), (2, .int x16), (3, .int x17)]) (fun _ => rfl) (fun x20 => ?_)
            refine go_goto (pc := 65) C 16 dX10_differ_65 (by decide) ?_
            refine go_sub (ls' := [(0, .ref x14), (1, .int x15), (2, .int x16), (3, .int x17), (4, .int x20)]) [1, 2, 3, 4, 0] rfl ?_
            exact ih h19 x14 x15 x16 x17 x20
set_option maxHeartbeats 4000000 in
theorem mX10_differ {h : AH} {a0 : Nat} {a1 : Int32} {a2 : Int32} {r : Int32 × AH} (hr : fX10_differ h a0 a1 a2 = some r) : hasC h 10 a0 = true ∧ MC yX10_differ cX10_differ 6 (some .int) 5 0 0 [.ref a0, .int a1, .int a2] h (some (.int r.1)) r.2 := by
  unfold fX10_differ at hr
  obtain ⟨hc, hr⟩ := if_some hr
  refine ⟨hc, mc_of (l0 := [(0, .ref a0), (1, .int a1), (2, .int a2)]) rfl pn_X10 (Nat.le_of_ble_eq_true rfl) (fun Y X C E O hnm => go_run hr ?_)⟩
  have C : CT Y X RX10 cX10_differ 6 := C
  refine go_aload_n (pc := 0) C 0 dX10_differ_0 rfl ?_
  refine go_iload_n (pc := 1) C 1 dX10_differ_1 rfl ?_
  refine go_iload_n (pc := 2) C 2 dX10_differ_2 rfl ?_
  refine go_bind (fun q21 hq21 => ?_)
  refine go_callV (rest := []) (st' := [.int (b2i q21)]) (c' := 0) (s' := 0) (pc := 3) C O miX10_274 mvX10_areTwo [.int a1, .int a2] rfl (mX10_areTwo hq21).1 (mX10_areTwo hq21).2 dX10_differ_3 ⟨by decide, by decide, by decide, by decide⟩ rfl (Nat.le_of_ble_eq_true rfl) rfl ⟨rfl, rfl⟩ ?_
  refine go_ifZ_ne (pc := 6) C 11 dX10_differ_6 (by decide) (fun _ => ?_) (fun _ => ?_)
  · refine go_iconst (pc := 11) C dX10_differ_11 ki_0 ?_
    refine go_istore_n (ls' := [(3, .int 0), (0, .ref a0), (1, .int a1), (2, .int a2)]) (pc := 12) C dX10_differ_12 (by decide) rfl ?_
    refine go_iconst (pc := 13) C dX10_differ_13 ki_0 ?_
    refine go_istore (ls' := [(4, .int 0), (3, .int 0), (0, .ref a0), (1, .int a1), (2, .int a2)]) (pc := 14) C dX10_differ_14 (by decide) rfl ?_
    refine go_sub (ls' := [(0, .ref a0), (1, .int a1), (2, .int a2), (3, .int 0), (4, .int 0)]) [2, 3, 4, 1, 0] rfl ?_
    refine gX10_differ_L16 C O E (fun h24 x22 x23 => ?_) FU h a0 a1 a2 0 0
    · refine go_aload_n (pc := 68) C 0 dX10_differ_68 rfl ?_
      refine go_iload_n (pc := 69) C 1 dX10_differ_69 rfl ?_
      refine go_bind (fun q25 hq25 => ?_)
      refine go_callV (rest := []) (st' := [.int q25.1]) (c' := 0) (s' := 0) (pc := 70) C O miX10_271 mvX10_tellSet [.int x23] rfl (mX10_tellSet hq25).1 (mX10_tellSet hq25).2 dX10_differ_70 ⟨by decide, by decide, by decide, by decide⟩ rfl (Nat.le_of_ble_eq_true rfl) rfl ⟨rfl, rfl⟩ ?_
      exact go_iret (w := wIh) (pc := 73) C E ((q25.1, q25.2)) q25.1 dX10_differ_73 rfl
  · refine go_iconst (pc := 9) C dX10_differ_9 ki_m1 ?_
    exact go_iret (w := wIh) (pc := 10) C E (((-1), h)) ((-1)) dX10_differ_10 rfl
