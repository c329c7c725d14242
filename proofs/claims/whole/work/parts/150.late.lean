/-! walks, by program, with their own facts: X2_init X10_init -/
theorem w_178 : Cond.methodLink RX2 1 Lib.objectInit ∈ TBL := tin1 90 rfl rfl
theorem w_179 : Cond.classLink RX2 9 RX9 ∈ TBL := tin1 91 rfl rfl
theorem w_177 : Cond.code yX2_init cX2_init 2 none ∈ TBL := tin1 89 rfl rfl
theorem w_176 : Cond.instanceMethod yX2_init ∈ TBL := tin1 88 rfl rfl
theorem w_203 : Cond.code yX6_init cX6_init 1 none ∈ TBL := tin1 115 rfl rfl
theorem w_202 : Cond.instanceMethod yX6_init ∈ TBL := tin1 114 rfl rfl
theorem w_219 : Cond.code yX7_init cX7_init 1 none ∈ TBL := tin1 131 rfl rfl
theorem w_218 : Cond.instanceMethod yX7_init ∈ TBL := tin1 130 rfl rfl
theorem w_244 : Cond.code yX5_init cX5_init 1 none ∈ TBL := tin1 156 rfl rfl
theorem w_243 : Cond.instanceMethod yX5_init ∈ TBL := tin1 155 rfl rfl
theorem w_258 : Cond.code yX1_init cX1_init 1 none ∈ TBL := tin1 170 rfl rfl
theorem w_257 : Cond.instanceMethod yX1_init ∈ TBL := tin1 169 rfl rfl
theorem w_280 : Cond.code yX8_init cX8_init 1 none ∈ TBL := tin1 192 rfl rfl
theorem w_279 : Cond.instanceMethod yX8_init ∈ TBL := tin1 191 rfl rfl
theorem w_302 : Cond.code yX3_init cX3_init 1 none ∈ TBL := tin1 214 rfl rfl
theorem w_301 : Cond.instanceMethod yX3_init ∈ TBL := tin1 213 rfl rfl
theorem fpX2_11 : FP RX2 11 2 0 (.array (.object RX9)) true := ⟨RX2, TX2, 5, tyX2, rfl, in_X2, by decide, tin1 94 rfl rfl, by decide +kernel, tyX2_ok, nmX2, rfl, rfl⟩
theorem fpX2_15 : FP RX2 15 2 1 (.array (.object RX9)) true := ⟨RX2, TX2, 5, tyX2, rfl, in_X2, by decide, tin1 95 rfl rfl, by decide +kernel, tyX2_ok, nmX2, rfl, rfl⟩
theorem fpX2_18 : FP RX2 18 2 2 (.array .boolean) true := ⟨RX2, TX2, 5, tyX2, rfl, in_X2, by decide, tin1 96 rfl rfl, by decide +kernel, tyX2_ok, nmX2, rfl, rfl⟩
theorem clX2_9 : CLS RX2 9 9 14 [.int 0, .int 0, .int 0, .int 0, .null, .null, .null, .null, .null, .null, .null, .null, .int 0, .int 0] := ⟨RX9, TX9, tyX9, rfl, in_X9, tyX9_ok, (tin1 91 rfl rfl), (tin1 35 rfl rfl), (tin1 2 rfl rfl), fun j hj => by rcases (show j = 0 ∨ j = 1 ∨ j = 2 ∨ j = 3 ∨ j = 4 ∨ j = 5 ∨ j = 6 ∨ j = 7 ∨ j = 8 ∨ j = 9 ∨ j = 10 ∨ j = 11 ∨ j = 12 ∨ j = 13 by omega) with rfl | rfl | rfl | rfl | rfl | rfl | rfl | rfl | rfl | rfl | rfl | rfl | rfl | rfl <;> rfl, rfl⟩
theorem miX2_22 : MI RX2 22 yX9_init cX9_init 2 none 0 := ⟨(tin1 93 rfl rfl), w_126, w_90, by decide +kernel⟩
theorem miX10_25 : MI RX10 25 yX2_init cX2_init 2 none 0 := ⟨(tin1 87 rfl rfl), w_177, w_91, by decide +kernel⟩
theorem fpX10_26 : FP RX10 26 10 4 (.object RX2) true := ⟨RX10, TX10, 12, tyX10, rfl, in_X10, by decide, tin2 0 rfl rfl, by decide +kernel, tyX10_ok, nmX10, rfl, rfl⟩
theorem clX10_30 : CLS RX10 30 6 3 [.null, .null, .int 0] := ⟨RX6, TX6, tyX6, rfl, in_X6, tyX6_ok, (tin1 111 rfl rfl), (tin1 112 rfl rfl), (tin1 4 rfl rfl), fun j hj => by rcases (show j = 0 ∨ j = 1 ∨ j = 2 by omega) with rfl | rfl | rfl <;> rfl, rfl⟩
theorem miX10_32 : MIN RX10 32 yX6_init RX10 cX6_init 1 none 0 := ⟨List.mem_of_getElem? (i := 0) rfl, w_203, w_92, by decide +kernel⟩
theorem fpX10_33 : FP RX10 33 10 5 (.object RX6) true := ⟨RX10, TX10, 12, tyX10, rfl, in_X10, by decide, tin2 1 rfl rfl, by decide +kernel, tyX10_ok, nmX10, rfl, rfl⟩
theorem fpX10_37 : FP RX10 37 10 6 (.object RX6) true := ⟨RX10, TX10, 12, tyX10, rfl, in_X10, by decide, tin2 2 rfl rfl, by decide +kernel, tyX10_ok, nmX10, rfl, rfl⟩
theorem clX10_40 : CLS RX10 40 7 6 [.null, .null, .int 0, .int 0, .int 0, .int 0] := ⟨RX7, TX7, tyX7, rfl, in_X7, tyX7_ok, (tin1 127 rfl rfl), (tin1 128 rfl rfl), (tin1 5 rfl rfl), fun j hj => by rcases (show j = 0 ∨ j = 1 ∨ j = 2 ∨ j = 3 ∨ j = 4 ∨ j = 5 by omega) with rfl | rfl | rfl | rfl | rfl | rfl <;> rfl, rfl⟩
theorem miX10_42 : MIN RX10 42 yX7_init RX10 cX7_init 1 none 0 := ⟨List.mem_of_getElem? (i := 1) rfl, w_219, w_93, by decide +kernel⟩
theorem fpX10_43 : FP RX10 43 10 7 (.object RX7) true := ⟨RX10, TX10, 12, tyX10, rfl, in_X10, by decide, tin2 3 rfl rfl, by decide +kernel, tyX10_ok, nmX10, rfl, rfl⟩
theorem clX10_47 : CLS RX10 47 5 2 [.null, .int 0] := ⟨RX5, TX5, tyX5, rfl, in_X5, tyX5_ok, (tin1 152 rfl rfl), (tin1 153 rfl rfl), (tin1 6 rfl rfl), fun j hj => by rcases (show j = 0 ∨ j = 1 by omega) with rfl | rfl <;> rfl, rfl⟩
theorem miX10_49 : MIN RX10 49 yX5_init RX10 cX5_init 1 none 0 := ⟨List.mem_of_getElem? (i := 2) rfl, w_244, w_94, by decide +kernel⟩
theorem fpX10_50 : FP RX10 50 10 8 (.object RX5) true := ⟨RX10, TX10, 12, tyX10, rfl, in_X10, by decide, tin2 4 rfl rfl, by decide +kernel, tyX10_ok, nmX10, rfl, rfl⟩
theorem clX10_54 : CLS RX10 54 1 5 [.null, .null, .null, .int 0, .int 0] := ⟨RX1, TX1, tyX1, rfl, in_X1, tyX1_ok, (tin1 166 rfl rfl), (tin1 167 rfl rfl), (tin1 7 rfl rfl), fun j hj => by rcases (show j = 0 ∨ j = 1 ∨ j = 2 ∨ j = 3 ∨ j = 4 by omega) with rfl | rfl | rfl | rfl | rfl <;> rfl, rfl⟩
theorem miX10_56 : MIN RX10 56 yX1_init RX10 cX1_init 1 none 0 := ⟨List.mem_of_getElem? (i := 3) rfl, w_258, w_95, by decide +kernel⟩
theorem fpX10_57 : FP RX10 57 10 9 (.object RX1) true := ⟨RX10, TX10, 12, tyX10, rfl, in_X10, by decide, tin2 5 rfl rfl, by decide +kernel, tyX10_ok, nmX10, rfl, rfl⟩
theorem clX10_61 : CLS RX10 61 8 5 [.null, .null, .null, .null, .int 0] := ⟨RX8, TX8, tyX8, rfl, in_X8, tyX8_ok, (tin1 188 rfl rfl), (tin1 189 rfl rfl), (tin1 8 rfl rfl), fun j hj => by rcases (show j = 0 ∨ j = 1 ∨ j = 2 ∨ j = 3 ∨ j = 4 by omega) with rfl | rfl | rfl | rfl | rfl <;> rfl, rfl⟩
theorem miX10_63 : MIN RX10 63 yX8_init RX10 cX8_init 1 none 0 := ⟨List.mem_of_getElem? (i := 4) rfl, w_280, w_96, by decide +kernel⟩
theorem fpX10_64 : FP RX10 64 10 10 (.object RX8) true := ⟨RX10, TX10, 12, tyX10, rfl, in_X10, by decide, tin2 6 rfl rfl, by decide +kernel, tyX10_ok, nmX10, rfl, rfl⟩
theorem clX10_68 : CLS RX10 68 3 1 [.null] := ⟨RX3, TX3, tyX3, rfl, in_X3, tyX3_ok, (tin1 210 rfl rfl), (tin1 211 rfl rfl), (tin1 9 rfl rfl), fun j hj => by rcases (show j = 0 by omega) with rfl <;> rfl, rfl⟩
theorem miX10_70 : MIN RX10 70 yX3_init RX10 cX3_init 1 none 0 := ⟨List.mem_of_getElem? (i := 5) rfl, w_302, w_97, by decide +kernel⟩
theorem fpX10_71 : FP RX10 71 10 11 (.object RX3) true := ⟨RX10, TX10, 12, tyX10, rfl, in_X10, by decide, tin2 7 rfl rfl, by decide +kernel, tyX10_ok, nmX10, rfl, rfl⟩
theorem miX10_75 : MI RX10 75 yX6_becomeNone cX6_becomeNone 1 none 0 := ⟨(tin1 220 rfl rfl), w_311, w_92, by decide +kernel⟩
theorem dX2_init_0 : decode cX2_init 0 = .ok (.aload_n 0, 1) := by decide +kernel
theorem dX2_init_1 : decode cX2_init 1 = .ok (.invokespecial 1, 3) := by decide +kernel
theorem dX2_init_4 : decode cX2_init 4 = .ok (.aload_n 0, 1) := by decide +kernel
theorem dX2_init_5 : decode cX2_init 5 = .ok (.bipush 9, 2) := by decide +kernel
theorem dX2_init_7 : decode cX2_init 7 = .ok (.anewarray 9, 3) := by decide +kernel
theorem dX2_init_10 : decode cX2_init 10 = .ok (.putfield 11, 3) := by decide +kernel
theorem dX2_init_13 : decode cX2_init 13 = .ok (.aload_n 0, 1) := by decide +kernel
theorem dX2_init_14 : decode cX2_init 14 = .ok (.iconst 2, 1) := by decide +kernel
theorem dX2_init_15 : decode cX2_init 15 = .ok (.anewarray 9, 3) := by decide +kernel
theorem dX2_init_18 : decode cX2_init 18 = .ok (.putfield 15, 3) := by decide +kernel
theorem dX2_init_21 : decode cX2_init 21 = .ok (.aload_n 0, 1) := by decide +kernel
theorem dX2_init_22 : decode cX2_init 22 = .ok (.iconst 2, 1) := by decide +kernel
theorem dX2_init_23 : decode cX2_init 23 = .ok (.newarray .boolean, 2) := by decide +kernel
theorem dX2_init_25 : decode cX2_init 25 = .ok (.putfield 18, 3) := by decide +kernel
theorem dX2_init_28 : decode cX2_init 28 = .ok (.iconst 0, 1) := by decide +kernel
theorem dX2_init_29 : decode cX2_init 29 = .ok (.istore_n 1, 1) := by decide +kernel
theorem dX2_init_30 : decode cX2_init 30 = .ok (.iload_n 1, 1) := by decide +kernel
theorem dX2_init_31 : decode cX2_init 31 = .ok (.bipush 8, 2) := by decide +kernel
theorem dX2_init_33 : decode cX2_init 33 = .ok (.if_icmp .gt 22, 3) := by decide +kernel
theorem dX2_init_36 : decode cX2_init 36 = .ok (.aload_n 0, 1) := by decide +kernel
theorem dX2_init_37 : decode cX2_init 37 = .ok (.getfield 11, 3) := by decide +kernel
theorem dX2_init_40 : decode cX2_init 40 = .ok (.iload_n 1, 1) := by decide +kernel
theorem dX2_init_41 : decode cX2_init 41 = .ok (.new 9, 3) := by decide +kernel
theorem dX2_init_44 : decode cX2_init 44 = .ok (.dup, 1) := by decide +kernel
theorem dX2_init_45 : decode cX2_init 45 = .ok (.invokespecial 22, 3) := by decide +kernel
theorem dX2_init_48 : decode cX2_init 48 = .ok (.aastore, 1) := by decide +kernel
theorem dX2_init_49 : decode cX2_init 49 = .ok (.iinc 1 1, 3) := by decide +kernel
theorem dX2_init_52 : decode cX2_init 52 = .ok (.goto (-22), 3) := by decide +kernel
theorem dX2_init_55 : decode cX2_init 55 = .ok (.iconst 0, 1) := by decide +kernel
theorem dX2_init_56 : decode cX2_init 56 = .ok (.istore_n 1, 1) := by decide +kernel
theorem dX2_init_57 : decode cX2_init 57 = .ok (.iload_n 1, 1) := by decide +kernel
theorem dX2_init_58 : decode cX2_init 58 = .ok (.iconst 2, 1) := by decide +kernel
theorem dX2_init_59 : decode cX2_init 59 = .ok (.if_icmp .ge 22, 3) := by decide +kernel
theorem dX2_init_62 : decode cX2_init 62 = .ok (.aload_n 0, 1) := by decide +kernel
theorem dX2_init_63 : decode cX2_init 63 = .ok (.getfield 15, 3) := by decide +kernel
theorem dX2_init_66 : decode cX2_init 66 = .ok (.iload_n 1, 1) := by decide +kernel
theorem dX2_init_67 : decode cX2_init 67 = .ok (.new 9, 3) := by decide +kernel
theorem dX2_init_70 : decode cX2_init 70 = .ok (.dup, 1) := by decide +kernel
theorem dX2_init_71 : decode cX2_init 71 = .ok (.invokespecial 22, 3) := by decide +kernel
theorem dX2_init_74 : decode cX2_init 74 = .ok (.aastore, 1) := by decide +kernel
theorem dX2_init_75 : decode cX2_init 75 = .ok (.iinc 1 1, 3) := by decide +kernel
theorem dX2_init_78 : decode cX2_init 78 = .ok (.goto (-21), 3) := by decide +kernel
theorem dX2_init_81 : decode cX2_init 81 = .ok (.return_, 1) := by decide +kernel
def fX2_init (h : AH) (a0 : Nat) : Option (AH) :=
  letF (hnew h (.inl (5, 9, .inr (.inr (.inr (.inr (fun _ => none))))))) fun h1 =>
  (pF h1 2 a0 0 (.ref h.2)).bind fun h2 =>
  letF (hnew h2 (.inl (5, 2, .inr (.inr (.inr (.inr (fun _ => none))))))) fun h3 =>
  (pF h3 2 a0 1 (.ref h2.2)).bind fun h4 =>
  letF (hnew h4 (.inl (4, newD 4 2))) fun h5 =>
  (pF h5 2 a0 2 (.ref h4.2)).bind fun h6 =>
  if (8 : Int32) < 0 then (
    none
  ) else (
    (gR h6 2 a0 0).bind fun x7 =>
    letF (hnew h6 (.inr (9, [.int 0, .int 0, .int 0, .int 0, .null, .null, .null, .null, .null, .null, .null, .null, .int 0, .int 0]))) fun h8 =>
    (fX9_init h8 h6.2).bind fun q9 =>
    (sR q9 x7 0 h6.2).bind fun h10 =>
    if (8 : Int32) < 1 then (
      none
    ) else (
      (gR h10 2 a0 0).bind fun x11 =>
      letF (hnew h10 (.inr (9, [.int 0, .int 0, .int 0, .int 0, .null, .null, .null, .null, .null, .null, .null, .null, .int 0, .int 0]))) fun h12 =>
      (fX9_init h12 h10.2).bind fun q13 =>
      (sR q13 x11 1 h10.2).bind fun h14 =>
      if (8 : Int32) < 2 then (
        none
      ) else (
        (gR h14 2 a0 0).bind fun x15 =>
        letF (hnew h14 (.inr (9, [.int 0, .int 0, .int 0, .int 0, .null, .null, .null, .null, .null, .null, .null, .null, .int 0, .int 0]))) fun h16 =>
        (fX9_init h16 h14.2).bind fun q17 =>
        (sR q17 x15 2 h14.2).bind fun h18 =>
        if (8 : Int32) < 3 then (
          none
        ) else (
          (gR h18 2 a0 0).bind fun x19 =>
          letF (hnew h18 (.inr (9, [.int 0, .int 0, .int 0, .int 0, .null, .null, .null, .null, .null, .null, .null, .null, .int 0, .int 0]))) fun h20 =>
          (fX9_init h20 h18.2).bind fun q21 =>
          (sR q21 x19 3 h18.2).bind fun h22 =>
          if (8 : Int32) < 4 then (
            none
          ) else (
            (gR h22 2 a0 0).bind fun x23 =>
            letF (hnew h22 (.inr (9, [.int 0, .int 0, .int 0, .int 0, .null, .null, .null, .null, .null, .null, .null, .null, .int 0, .int 0]))) fun h24 =>
            (fX9_init h24 h22.2).bind fun q25 =>
            (sR q25 x23 4 h22.2).bind fun h26 =>
            if (8 : Int32) < 5 then (
              none
            ) else (
              (gR h26 2 a0 0).bind fun x27 =>
              letF (hnew h26 (.inr (9, [.int 0, .int 0, .int 0, .int 0, .null, .null, .null, .null, .null, .null, .null, .null, .int 0, .int 0]))) fun h28 =>
              (fX9_init h28 h26.2).bind fun q29 =>
              (sR q29 x27 5 h26.2).bind fun h30 =>
              if (8 : Int32) < 6 then (
                none
              ) else (
                (gR h30 2 a0 0).bind fun x31 =>
                letF (hnew h30 (.inr (9, [.int 0, .int 0, .int 0, .int 0, .null, .null, .null, .null, .null, .null, .null, .null, .int 0, .int 0]))) fun h32 =>
                (fX9_init h32 h30.2).bind fun q33 =>
                (sR q33 x31 6 h30.2).bind fun h34 =>
                if (8 : Int32) < 7 then (
                  none
                ) else (
                  (gR h34 2 a0 0).bind fun x35 =>
                  letF (hnew h34 (.inr (9, [.int 0, .int 0, .int 0, .int 0, .null, .null, .null, .null, .null, .null, .null, .null, .int 0, .int 0]))) fun h36 =>
                  (fX9_init h36 h34.2).bind fun q37 =>
                  (sR q37 x35 7 h34.2).bind fun h38 =>
                  if (8 : Int32) < 8 then (
                    none
                  ) else (
                    (gR h38 2 a0 0).bind fun x39 =>
                    letF (hnew h38 (.inr (9, [.int 0, .int 0, .int 0, .int 0, .null, .null, .null, .null, .null, .null, .null, .null, .int 0, .int 0]))) fun h40 =>
                    (fX9_init h40 h38.2).bind fun q41 =>
                    (sR q41 x39 8 h38.2).bind fun h42 =>
                    if (8 : Int32) < 9 then (
                      if (2 : Int32) ≤ 0 then (
                        none
                      ) else (
                        (gR h42 2 a0 1).bind fun x43 =>
                        letF (hnew h42 (.inr (9, [.int 0, .int 0, .int 0, .int 0, .null, .null, .null, .null, .null, .null, .null, .null, .int 0, .int 0]))) fun h44 =>
                        (fX9_init h44 h42.2).bind fun q45 =>
                        (sR q45 x43 0 h42.2).bind fun h46 =>
                        if (2 : Int32) ≤ 1 then (
                          none
                        ) else (
                          (gR h46 2 a0 1).bind fun x47 =>
                          letF (hnew h46 (.inr (9, [.int 0, .int 0, .int 0, .int 0, .null, .null, .null, .null, .null, .null, .null, .null, .int 0, .int 0]))) fun h48 =>
                          (fX9_init h48 h46.2).bind fun q49 =>
                          (sR q49 x47 1 h46.2).bind fun h50 =>
                          if (2 : Int32) ≤ 2 then (
                            some h50
                          ) else (
                            none
                          )
                        )
                      )
                    ) else (
                      none
                    )
                  )
                )
              )
            )
          )
        )
      )
    )
  )
set_option maxHeartbeats 4000000 in
theorem mX2_init {h : AH} {a0 : Nat} {r : AH} (hr : fX2_init h a0 = some r) : MC yX2_init cX2_init 2 none 2 102 3929 [.ref a0] h none r := by
  unfold fX2_init at hr
  refine mc_of (l0 := [(0, .ref a0)]) rfl pn_X2 (Nat.le_of_ble_eq_true rfl) (fun Y X C E O hnm => go_run hr ?_)
  have C : CT Y X RX2 cX2_init 2 := C
  refine go_aload_n (pc := 0) C 0 dX2_init_0 rfl ?_
  refine go_objInit (pc := 1) C O w_178 w_120 w_121 dX2_init_1 (by decide) (Nat.le_of_ble_eq_true rfl) ?_
  refine go_aload_n (pc := 4) C 0 dX2_init_4 rfl ?_
  refine go_bipush (pc := 5) C dX2_init_5 kb_9 ?_
  refine go_newq (c' := 1) (s' := 9) (pc := 7) 9 C O w_179 (by decide) (by decide) (by decide) dX2_init_7 ⟨by decide, by decide⟩ ⟨rfl, rfl⟩ (fun h1 => ?_)
  refine go_pRF (pc := 10) C hnm fpX2_11 dX2_init_10 (fun _ => rfl) (fun _ => rfl) (fun h2 => ?_)
  refine go_aload_n (pc := 13) C 0 dX2_init_13 rfl ?_
  refine go_iconst (pc := 14) C dX2_init_14 ki_2 ?_
  refine go_newq (c' := 2) (s' := 11) (pc := 15) 2 C O w_179 (by decide) (by decide) (by decide) dX2_init_15 ⟨by decide, by decide⟩ ⟨rfl, rfl⟩ (fun h3 => ?_)
  refine go_pRF (pc := 18) C hnm fpX2_15 dX2_init_18 (fun _ => rfl) (fun _ => rfl) (fun h4 => ?_)
  refine go_aload_n (pc := 21) C 0 dX2_init_21 rfl ?_
  refine go_iconst (pc := 22) C dX2_init_22 ki_2 ?_
  refine go_newa (atype := .boolean) (t := 4) (c' := 3) (s' := 13) (pc := 23) 2 C O ⟨rfl, by decide⟩ w_198 (by decide) (by decide) (by decide) dX2_init_23 ⟨by decide, by decide⟩ ⟨rfl, rfl⟩ (fun h5 => ?_)
  refine go_pRF (pc := 25) C hnm fpX2_18 dX2_init_25 (fun _ => rfl) (fun _ => rfl) (fun h6 => ?_)
  refine go_iconst (pc := 28) C dX2_init_28 ki_0 ?_
  refine go_istore_n (ls' := [(1, .int 0), (0, .ref a0)]) (pc := 29) C dX2_init_29 (by decide) rfl ?_
  refine go_iload_n (pc := 30) C 0 dX2_init_30 rfl ?_
  refine go_bipush (pc := 31) C dX2_init_31 kb_8 ?_
  refine go_icmp_gt (pc := 33) C 55 dX2_init_33 (by decide) (fun _ => ?_) (fun _ => ?_)
  · exact go_none _ _ _
  · refine go_aload_n (pc := 36) C 1 dX2_init_36 rfl ?_
    refine go_gR (pc := 37) C fdX2_11 dX2_init_37 (fun x7 => ?_)
    refine go_iload_n (pc := 40) C 0 dX2_init_40 rfl ?_
    refine go_new (c' := 4) (s' := 27) (pc := 41) C O clX2_9 dX2_init_41 ⟨by decide, by decide⟩ ⟨rfl, rfl⟩ (fun h8 => ?_)
    refine go_dup (pc := 44) C dX2_init_44 rfl ?_
    refine go_bind (fun q9 hq9 => ?_)
    refine go_callI (rest := [.ref h6.2, .int 0, .ref x7]) (st' := [.ref h6.2, .int 0, .ref x7]) (c' := 12) (s' := 369) (pc := 45) C O miX2_22 rfl w_125 [] rfl (mX9_init hq9) dX2_init_45 ⟨by decide, by decide, by decide, by decide⟩ rfl (Nat.le_of_ble_eq_true rfl) rfl ⟨rfl, rfl⟩ ?_
    refine go_aast (pc := 48) C dX2_init_48 (fun h10 => ?_)
    refine go_iinc (ls' := [(1, .int 1), (0, .ref a0)]) (pc := 49) C 0 dX2_init_49 rfl ki_1 (by decide) rfl ?_
    refine go_goto (pc := 52) C 30 dX2_init_52 (by decide) ?_
    refine go_iload_n (pc := 30) C 0 dX2_init_30 rfl ?_
    refine go_bipush (pc := 31) C dX2_init_31 kb_8 ?_
    refine go_icmp_gt (pc := 33) C 55 dX2_init_33 (by decide) (fun _ => ?_) (fun _ => ?_)
    · exact go_none _ _ _
    · refine go_aload_n (pc := 36) C 1 dX2_init_36 rfl ?_
      refine go_gR (pc := 37) C fdX2_11 dX2_init_37 (fun x11 => ?_)
      refine go_iload_n (pc := 40) C 0 dX2_init_40 rfl ?_
      refine go_new (c' := 13) (s' := 383) (pc := 41) C O clX2_9 dX2_init_41 ⟨by decide, by decide⟩ ⟨rfl, rfl⟩ (fun h12 => ?_)
      refine go_dup (pc := 44) C dX2_init_44 rfl ?_
      refine go_bind (fun q13 hq13 => ?_)
      refine go_callI (rest := [.ref h10.2, .int 1, .ref x11]) (st' := [.ref h10.2, .int 1, .ref x11]) (c' := 21) (s' := 725) (pc := 45) C O miX2_22 rfl w_125 [] rfl (mX9_init hq13) dX2_init_45 ⟨by decide, by decide, by decide, by decide⟩ rfl (Nat.le_of_ble_eq_true rfl) rfl ⟨rfl, rfl⟩ ?_
      refine go_aast (pc := 48) C dX2_init_48 (fun h14 => ?_)
      refine go_iinc (ls' := [(1, .int 2), (0, .ref a0)]) (pc := 49) C 0 dX2_init_49 rfl ki_1 (by decide) rfl ?_
      refine go_goto (pc := 52) C 30 dX2_init_52 (by decide) ?_
      refine go_iload_n (pc := 30) C 0 dX2_init_30 rfl ?_
      refine go_bipush (pc := 31) C dX2_init_31 kb_8 ?_
      refine go_icmp_gt (pc := 33) C 55 dX2_init_33 (by decide) (fun _ => ?_) (fun _ => ?_)
      · exact go_none _ _ _
      · refine go_aload_n (pc := 36) C 1 dX2_init_36 rfl ?_
        refine go_gR (pc := 37) C fdX2_11 dX2_init_37 (fun x15 => ?_)
        refine go_iload_n (pc := 40) C 0 dX2_init_40 rfl ?_
        refine go_new (c' := 22) (s' := 739) (pc := 41) C O clX2_9 dX2_init_41 ⟨by decide, by decide⟩ ⟨rfl, rfl⟩ (fun h16 => ?_)
        refine go_dup (pc := 44) C dX2_init_44 rfl ?_
        refine go_bind (fun q17 hq17 => ?_)
        refine go_callI (rest := [.ref h14.2, .int 2, .ref x15]) (st' := [.ref h14.2, .int 2, .ref x15]) (c' := 30) (s' := 1081) (pc := 45) C O miX2_22 rfl w_125 [] rfl (mX9_init hq17) dX2_init_45 ⟨by decide, by decide, by decide, by decide⟩ rfl (Nat.le_of_ble_eq_true rfl) rfl ⟨rfl, rfl⟩ ?_
        refine go_aast (pc := 48) C dX2_init_48 (fun h18 => ?_)
        refine go_iinc (ls' := [(1, .int 3), (0, .ref a0)]) (pc := 49) C 0 dX2_init_49 rfl ki_1 (by decide) rfl ?_
        refine go_goto (pc := 52) C 30 dX2_init_52 (by decide) ?_
        refine go_iload_n (pc := 30) C 0 dX2_init_30 rfl ?_
        refine go_bipush (pc := 31) C dX2_init_31 kb_8 ?_
        refine go_icmp_gt (pc := 33) C 55 dX2_init_33 (by decide) (fun _ => ?_) (fun _ => ?_)
        · exact go_none _ _ _
        · refine go_aload_n (pc := 36) C 1 dX2_init_36 rfl ?_
          refine go_gR (pc := 37) C fdX2_11 dX2_init_37 (fun x19 => ?_)
          refine go_iload_n (pc := 40) C 0 dX2_init_40 rfl ?_
          refine go_new (c' := 31) (s' := 1095) (pc := 41) C O clX2_9 dX2_init_41 ⟨by decide, by decide⟩ ⟨rfl, rfl⟩ (fun h20 => ?_)
          refine go_dup (pc := 44) C dX2_init_44 rfl ?_
          refine go_bind (fun q21 hq21 => ?_)
          refine go_callI (rest := [.ref h18.2, .int 3, .ref x19]) (st' := [.ref h18.2, .int 3, .ref x19]) (c' := 39) (s' := 1437) (pc := 45) C O miX2_22 rfl w_125 [] rfl (mX9_init hq21) dX2_init_45 ⟨by decide, by decide, by decide, by decide⟩ rfl (Nat.le_of_ble_eq_true rfl) rfl ⟨rfl, rfl⟩ ?_
          refine go_aast (pc := 48) C dX2_init_48 (fun h22 => ?_)
          refine go_iinc (ls' := [(1, .int 4), (0, .ref a0)]) (pc := 49) C 0 dX2_init_49 rfl ki_1 (by decide) rfl ?_
          refine go_goto (pc := 52) C 30 dX2_init_52 (by decide) ?_
          refine go_iload_n (pc := 30) C 0 dX2_init_30 rfl ?_
          refine go_bipush (pc := 31) C dX2_init_31 kb_8 ?_
          refine go_icmp_gt (pc := 33) C 55 dX2_init_33 (by decide) (fun _ => ?_) (fun _ => ?_)
          · exact go_none _ _ _
          · refine go_aload_n (pc := 36) C 1 dX2_init_36 rfl ?_
            refine go_gR (pc := 37) C fdX2_11 dX2_init_37 (fun x23 => ?_)
            refine go_iload_n (pc := 40) C 0 dX2_init_40 rfl ?_
            refine go_new (c' := 40) (s' := 1451) (pc := 41) C O clX2_9 dX2_init_41 ⟨by decide, by decide⟩ ⟨rfl, rfl⟩ (fun h24 => ?_)
            refine go_dup (pc := 44) C dX2_init_44 rfl ?_
            refine go_bind (fun q25 hq25 => ?_)
            refine go_callI (rest := [.ref h22.2, .int 4, .ref x23]) (st' := [.ref h22.2, .int 4, .ref x23]) (c' := 48) (s' := 1793) (pc := 45) C O miX2_22 rfl w_125 [] rfl (mX9_init hq25) dX2_init_45 ⟨by decide, by decide, by decide, by decide⟩ rfl (Nat.le_of_ble_eq_true rfl) rfl ⟨rfl, rfl⟩ ?_
            refine go_aast (pc := 48) C dX2_init_48 (fun h26 => ?_)
            refine go_iinc (ls' := [(1, .int 5), (0, .ref a0)]) (pc := 49) C 0 dX2_init_49 rfl ki_1 (by decide) rfl ?_
            refine go_goto (pc := 52) C 30 dX2_init_52 (by decide) ?_
            refine go_iload_n (pc := 30) C 0 dX2_init_30 rfl ?_
            refine go_bipush (pc := 31) C dX2_init_31 kb_8 ?_
            refine go_icmp_gt (pc := 33) C 55 dX2_init_33 (by decide) (fun _ => ?_) (fun _ => ?_)
            · exact go_none _ _ _
            · refine go_aload_n (pc := 36) C 1 dX2_init_36 rfl ?_
              refine go_gR (pc := 37) C fdX2_11 dX2_init_37 (fun x27 => ?_)
              refine go_iload_n (pc := 40) C 0 dX2_init_40 rfl ?_
              refine go_new (c' := 49) (s' := 1807) (pc := 41) C O clX2_9 dX2_init_41 ⟨by decide, by decide⟩ ⟨rfl, rfl⟩ (fun h28 => ?_)
              refine go_dup (pc := 44) C dX2_init_44 rfl ?_
              refine go_bind (fun q29 hq29 => ?_)
              refine go_callI (rest := [.ref h26.2, .int 5, .ref x27]) (st' := [.ref h26.2, .int 5, .ref x27]) (c' := 57) (s' := 2149) (pc := 45) C O miX2_22 rfl w_125 [] rfl (mX9_init hq29) dX2_init_45 ⟨by decide, by decide, by decide, by decide⟩ rfl (Nat.le_of_ble_eq_true rfl) rfl ⟨rfl, rfl⟩ ?_
              refine go_aast (pc := 48) C dX2_init_48 (fun h30 => ?_)
              refine go_iinc (ls' := [(1, .int 6), (0, .ref a0)]) (pc := 49) C 0 dX2_init_49 rfl ki_1 (by decide) rfl ?_
              refine go_goto (pc := 52) C 30 dX2_init_52 (by decide) ?_
              refine go_iload_n (pc := 30) C 0 dX2_init_30 rfl ?_
              refine go_bipush (pc := 31) C dX2_init_31 kb_8 ?_
              refine go_icmp_gt (pc := 33) C 55 dX2_init_33 (by decide) (fun _ => ?_) (fun _ => ?_)
              · exact go_none _ _ _
              · refine go_aload_n (pc := 36) C 1 dX2_init_36 rfl ?_
                refine go_gR (pc := 37) C fdX2_11 dX2_init_37 (fun x31 => ?_)
                refine go_iload_n (pc := 40) C 0 dX2_init_40 rfl ?_
                refine go_new (c' := 58) (s' := 2163) (pc := 41) C O clX2_9 dX2_init_41 ⟨by decide, by decide⟩ ⟨rfl, rfl⟩ (fun h32 => ?_)
                refine go_dup (pc := 44) C dX2_init_44 rfl ?_
                refine go_bind (fun q33 hq33 => ?_)
                refine go_callI (rest := [.ref h30.2, .int 6, .ref x31]) (st' := [.ref h30.2, .int 6, .ref x31]) (c' := 66) (s' := 2505) (pc := 45) C O miX2_22 rfl w_125 [] rfl (mX9_init hq33) dX2_init_45 ⟨by decide, by decide, by decide, by decide⟩ rfl (Nat.le_of_ble_eq_true rfl) rfl ⟨rfl, rfl⟩ ?_
                refine go_aast (pc := 48) C dX2_init_48 (fun h34 => ?_)
                refine go_iinc (ls' := [(1, .int 7), (0, .ref a0)]) (pc := 49) C 0 dX2_init_49 rfl ki_1 (by decide) rfl ?_
                refine go_goto (pc := 52) C 30 dX2_init_52 (by decide) ?_
                refine go_iload_n (pc := 30) C 0 dX2_init_30 rfl ?_
                refine go_bipush (pc := 31) C dX2_init_31 kb_8 ?_
                refine go_icmp_gt (pc := 33) C 55 dX2_init_33 (by decide) (fun _ => ?_) (fun _ => ?_)
                · exact go_none _ _ _
                · refine go_aload_n (pc := 36) C 1 dX2_init_36 rfl ?_
                  refine go_gR (pc := 37) C fdX2_11 dX2_init_37 (fun x35 => ?_)
                  refine go_iload_n (pc := 40) C 0 dX2_init_40 rfl ?_
                  refine go_new (c' := 67) (s' := 2519) (pc := 41) C O clX2_9 dX2_init_41 ⟨by decide, by decide⟩ ⟨rfl, rfl⟩ (fun h36 => ?_)
                  refine go_dup (pc := 44) C dX2_init_44 rfl ?_
                  refine go_bind (fun q37 hq37 => ?_)
                  refine go_callI (rest := [.ref h34.2, .int 7, .ref x35]) (st' := [.ref h34.2, .int 7, .ref x35]) (c' := 75) (s' := 2861) (pc := 45) C O miX2_22 rfl w_125 [] rfl (mX9_init hq37) dX2_init_45 ⟨by decide, by decide, by decide, by decide⟩ rfl (Nat.le_of_ble_eq_true rfl) rfl ⟨rfl, rfl⟩ ?_
                  refine go_aast (pc := 48) C dX2_init_48 (fun h38 => ?_)
                  refine go_iinc (ls' := [(1, .int 8), (0, .ref a0)]) (pc := 49) C 0 dX2_init_49 rfl ki_1 (by decide) rfl ?_
                  refine go_goto (pc := 52) C 30 dX2_init_52 (by decide) ?_
                  refine go_iload_n (pc := 30) C 0 dX2_init_30 rfl ?_
                  refine go_bipush (pc := 31) C dX2_init_31 kb_8 ?_
                  refine go_icmp_gt (pc := 33) C 55 dX2_init_33 (by decide) (fun _ => ?_) (fun _ => ?_)
                  · exact go_none _ _ _
                  · refine go_aload_n (pc := 36) C 1 dX2_init_36 rfl ?_
                    refine go_gR (pc := 37) C fdX2_11 dX2_init_37 (fun x39 => ?_)
                    refine go_iload_n (pc := 40) C 0 dX2_init_40 rfl ?_
                    refine go_new (c' := 76) (s' := 2875) (pc := 41) C O clX2_9 dX2_init_41 ⟨by decide, by decide⟩ ⟨rfl, rfl⟩ (fun h40 => ?_)
                    refine go_dup (pc := 44) C dX2_init_44 rfl ?_
                    refine go_bind (fun q41 hq41 => ?_)
                    refine go_callI (rest := [.ref h38.2, .int 8, .ref x39]) (st' := [.ref h38.2, .int 8, .ref x39]) (c' := 84) (s' := 3217) (pc := 45) C O miX2_22 rfl w_125 [] rfl (mX9_init hq41) dX2_init_45 ⟨by decide, by decide, by decide, by decide⟩ rfl (Nat.le_of_ble_eq_true rfl) rfl ⟨rfl, rfl⟩ ?_
                    refine go_aast (pc := 48) C dX2_init_48 (fun h42 => ?_)
                    refine go_iinc (ls' := [(1, .int 9), (0, .ref a0)]) (pc := 49) C 0 dX2_init_49 rfl ki_1 (by decide) rfl ?_
                    refine go_goto (pc := 52) C 30 dX2_init_52 (by decide) ?_
                    refine go_iload_n (pc := 30) C 0 dX2_init_30 rfl ?_
                    refine go_bipush (pc := 31) C dX2_init_31 kb_8 ?_
                    refine go_icmp_gt (pc := 33) C 55 dX2_init_33 (by decide) (fun _ => ?_) (fun _ => ?_)
                    · refine go_iconst (pc := 55) C dX2_init_55 ki_0 ?_
                      refine go_istore_n (ls' := [(1, .int 0), (0, .ref a0)]) (pc := 56) C dX2_init_56 (by decide) rfl ?_
                      refine go_iload_n (pc := 57) C 0 dX2_init_57 rfl ?_
                      refine go_iconst (pc := 58) C dX2_init_58 ki_2 ?_
                      refine go_icmp_ge (pc := 59) C 81 dX2_init_59 (by decide) (fun _ => ?_) (fun _ => ?_)
                      · exact go_none _ _ _
                      · refine go_aload_n (pc := 62) C 1 dX2_init_62 rfl ?_
                        refine go_gR (pc := 63) C fdX2_15 dX2_init_63 (fun x43 => ?_)
                        refine go_iload_n (pc := 66) C 0 dX2_init_66 rfl ?_
                        refine go_new (c' := 85) (s' := 3231) (pc := 67) C O clX2_9 dX2_init_67 ⟨by decide, by decide⟩ ⟨rfl, rfl⟩ (fun h44 => ?_)
                        refine go_dup (pc := 70) C dX2_init_70 rfl ?_
                        refine go_bind (fun q45 hq45 => ?_)
                        refine go_callI (rest := [.ref h42.2, .int 0, .ref x43]) (st' := [.ref h42.2, .int 0, .ref x43]) (c' := 93) (s' := 3573) (pc := 71) C O miX2_22 rfl w_125 [] rfl (mX9_init hq45) dX2_init_71 ⟨by decide, by decide, by decide, by decide⟩ rfl (Nat.le_of_ble_eq_true rfl) rfl ⟨rfl, rfl⟩ ?_
                        refine go_aast (pc := 74) C dX2_init_74 (fun h46 => ?_)
                        refine go_iinc (ls' := [(1, .int 1), (0, .ref a0)]) (pc := 75) C 0 dX2_init_75 rfl ki_1 (by decide) rfl ?_
                        refine go_goto (pc := 78) C 57 dX2_init_78 (by decide) ?_
                        refine go_iload_n (pc := 57) C 0 dX2_init_57 rfl ?_
                        refine go_iconst (pc := 58) C dX2_init_58 ki_2 ?_
                        refine go_icmp_ge (pc := 59) C 81 dX2_init_59 (by decide) (fun _ => ?_) (fun _ => ?_)
                        · exact go_none _ _ _
                        · refine go_aload_n (pc := 62) C 1 dX2_init_62 rfl ?_
                          refine go_gR (pc := 63) C fdX2_15 dX2_init_63 (fun x47 => ?_)
                          refine go_iload_n (pc := 66) C 0 dX2_init_66 rfl ?_
                          refine go_new (c' := 94) (s' := 3587) (pc := 67) C O clX2_9 dX2_init_67 ⟨by decide, by decide⟩ ⟨rfl, rfl⟩ (fun h48 => ?_)
                          refine go_dup (pc := 70) C dX2_init_70 rfl ?_
                          refine go_bind (fun q49 hq49 => ?_)
                          refine go_callI (rest := [.ref h46.2, .int 1, .ref x47]) (st' := [.ref h46.2, .int 1, .ref x47]) (c' := 102) (s' := 3929) (pc := 71) C O miX2_22 rfl w_125 [] rfl (mX9_init hq49) dX2_init_71 ⟨by decide, by decide, by decide, by decide⟩ rfl (Nat.le_of_ble_eq_true rfl) rfl ⟨rfl, rfl⟩ ?_
                          refine go_aast (pc := 74) C dX2_init_74 (fun h50 => ?_)
                          refine go_iinc (ls' := [(1, .int 2), (0, .ref a0)]) (pc := 75) C 0 dX2_init_75 rfl ki_1 (by decide) rfl ?_
                          refine go_goto (pc := 78) C 57 dX2_init_78 (by decide) ?_
                          refine go_iload_n (pc := 57) C 0 dX2_init_57 rfl ?_
                          refine go_iconst (pc := 58) C dX2_init_58 ki_2 ?_
                          refine go_icmp_ge (pc := 59) C 81 dX2_init_59 (by decide) (fun _ => ?_) (fun _ => ?_)
                          · exact go_vret (w := wV) (pc := 81) C E h50 dX2_init_81 rfl
                          · exact go_none _ _ _
                    · exact go_none _ _ _
theorem dX10_init_0 : decode cX10_init 0 = .ok (.aload_n 0, 1) := by decide +kernel
theorem dX10_init_1 : decode cX10_init 1 = .ok (.invokespecial 1, 3) := by decide +kernel
theorem dX10_init_4 : decode cX10_init 4 = .ok (.aload_n 0, 1) := by decide +kernel
theorem dX10_init_5 : decode cX10_init 5 = .ok (.bipush 80, 2) := by decide +kernel
theorem dX10_init_7 : decode cX10_init 7 = .ok (.newarray .char, 2) := by decide +kernel
theorem dX10_init_9 : decode cX10_init 9 = .ok (.putfield 9, 3) := by decide +kernel
theorem dX10_init_12 : decode cX10_init 12 = .ok (.aload_n 0, 1) := by decide +kernel
theorem dX10_init_13 : decode cX10_init 13 = .ok (.new 13, 3) := by decide +kernel
theorem dX10_init_16 : decode cX10_init 16 = .ok (.dup, 1) := by decide +kernel
theorem dX10_init_17 : decode cX10_init 17 = .ok (.invokespecial 15, 3) := by decide +kernel
theorem dX10_init_20 : decode cX10_init 20 = .ok (.putfield 16, 3) := by decide +kernel
theorem dX10_init_23 : decode cX10_init 23 = .ok (.aload_n 0, 1) := by decide +kernel
theorem dX10_init_24 : decode cX10_init 24 = .ok (.new 13, 3) := by decide +kernel
theorem dX10_init_27 : decode cX10_init 27 = .ok (.dup, 1) := by decide +kernel
theorem dX10_init_28 : decode cX10_init 28 = .ok (.invokespecial 15, 3) := by decide +kernel
theorem dX10_init_31 : decode cX10_init 31 = .ok (.putfield 20, 3) := by decide +kernel
theorem dX10_init_34 : decode cX10_init 34 = .ok (.aload_n 0, 1) := by decide +kernel
theorem dX10_init_35 : decode cX10_init 35 = .ok (.new 23, 3) := by decide +kernel
theorem dX10_init_38 : decode cX10_init 38 = .ok (.dup, 1) := by decide +kernel
theorem dX10_init_39 : decode cX10_init 39 = .ok (.invokespecial 25, 3) := by decide +kernel
theorem dX10_init_42 : decode cX10_init 42 = .ok (.putfield 26, 3) := by decide +kernel
theorem dX10_init_45 : decode cX10_init 45 = .ok (.aload_n 0, 1) := by decide +kernel
theorem dX10_init_46 : decode cX10_init 46 = .ok (.new 30, 3) := by decide +kernel
theorem dX10_init_49 : decode cX10_init 49 = .ok (.dup, 1) := by decide +kernel
theorem dX10_init_50 : decode cX10_init 50 = .ok (.invokespecial 32, 3) := by decide +kernel
theorem dX10_init_53 : decode cX10_init 53 = .ok (.putfield 33, 3) := by decide +kernel
theorem dX10_init_56 : decode cX10_init 56 = .ok (.aload_n 0, 1) := by decide +kernel
theorem dX10_init_57 : decode cX10_init 57 = .ok (.new 30, 3) := by decide +kernel
theorem dX10_init_60 : decode cX10_init 60 = .ok (.dup, 1) := by decide +kernel
theorem dX10_init_61 : decode cX10_init 61 = .ok (.invokespecial 32, 3) := by decide +kernel
theorem dX10_init_64 : decode cX10_init 64 = .ok (.putfield 37, 3) := by decide +kernel
theorem dX10_init_67 : decode cX10_init 67 = .ok (.aload_n 0, 1) := by decide +kernel
theorem dX10_init_68 : decode cX10_init 68 = .ok (.new 40, 3) := by decide +kernel
theorem dX10_init_71 : decode cX10_init 71 = .ok (.dup, 1) := by decide +kernel
theorem dX10_init_72 : decode cX10_init 72 = .ok (.invokespecial 42, 3) := by decide +kernel
theorem dX10_init_75 : decode cX10_init 75 = .ok (.putfield 43, 3) := by decide +kernel
theorem dX10_init_78 : decode cX10_init 78 = .ok (.aload_n 0, 1) := by decide +kernel
theorem dX10_init_79 : decode cX10_init 79 = .ok (.new 47, 3) := by decide +kernel
theorem dX10_init_82 : decode cX10_init 82 = .ok (.dup, 1) := by decide +kernel
theorem dX10_init_83 : decode cX10_init 83 = .ok (.invokespecial 49, 3) := by decide +kernel
theorem dX10_init_86 : decode cX10_init 86 = .ok (.putfield 50, 3) := by decide +kernel
theorem dX10_init_89 : decode cX10_init 89 = .ok (.aload_n 0, 1) := by decide +kernel
theorem dX10_init_90 : decode cX10_init 90 = .ok (.new 54, 3) := by decide +kernel
theorem dX10_init_93 : decode cX10_init 93 = .ok (.dup, 1) := by decide +kernel
theorem dX10_init_94 : decode cX10_init 94 = .ok (.invokespecial 56, 3) := by decide +kernel
theorem dX10_init_97 : decode cX10_init 97 = .ok (.putfield 57, 3) := by decide +kernel
theorem dX10_init_100 : decode cX10_init 100 = .ok (.aload_n 0, 1) := by decide +kernel
theorem dX10_init_101 : decode cX10_init 101 = .ok (.new 61, 3) := by decide +kernel
theorem dX10_init_104 : decode cX10_init 104 = .ok (.dup, 1) := by decide +kernel
theorem dX10_init_105 : decode cX10_init 105 = .ok (.invokespecial 63, 3) := by decide +kernel
theorem dX10_init_108 : decode cX10_init 108 = .ok (.putfield 64, 3) := by decide +kernel
theorem dX10_init_111 : decode cX10_init 111 = .ok (.aload_n 0, 1) := by decide +kernel
theorem dX10_init_112 : decode cX10_init 112 = .ok (.new 68, 3) := by decide +kernel
theorem dX10_init_115 : decode cX10_init 115 = .ok (.dup, 1) := by decide +kernel
theorem dX10_init_116 : decode cX10_init 116 = .ok (.invokespecial 70, 3) := by decide +kernel
theorem dX10_init_119 : decode cX10_init 119 = .ok (.putfield 71, 3) := by decide +kernel
theorem dX10_init_122 : decode cX10_init 122 = .ok (.aload_n 0, 1) := by decide +kernel
theorem dX10_init_123 : decode cX10_init 123 = .ok (.getfield 33, 3) := by decide +kernel
theorem dX10_init_126 : decode cX10_init 126 = .ok (.invokevirtual 75, 3) := by decide +kernel
theorem dX10_init_129 : decode cX10_init 129 = .ok (.return_, 1) := by decide +kernel
def fX10_init (h : AH) (a0 : Nat) : Option (AH) :=
  letF (hnew h (.inl (2, newD 2 80))) fun h1 =>
  (pF h1 10 a0 0 (.ref h.2)).bind fun h2 =>
  letF (hnew h2 (.inr (9, [.int 0, .int 0, .int 0, .int 0, .null, .null, .null, .null, .null, .null, .null, .null, .int 0, .int 0]))) fun h3 =>
  (fX9_init h3 h2.2).bind fun q4 =>
  (pF q4 10 a0 2 (.ref h2.2)).bind fun h5 =>
  letF (hnew h5 (.inr (9, [.int 0, .int 0, .int 0, .int 0, .null, .null, .null, .null, .null, .null, .null, .null, .int 0, .int 0]))) fun h6 =>
  (fX9_init h6 h5.2).bind fun q7 =>
  (pF q7 10 a0 3 (.ref h5.2)).bind fun h8 =>
  letF (hnew h8 (.inr (2, [.null, .null, .null, .int 0, .int 0]))) fun h9 =>
  (fX2_init h9 h8.2).bind fun q10 =>
  (pF q10 10 a0 4 (.ref h8.2)).bind fun h11 =>
  letF (hnew h11 (.inr (6, [.null, .null, .int 0]))) fun h12 =>
  (fX6_init h12 h11.2).bind fun q13 =>
  (pF q13 10 a0 5 (.ref h11.2)).bind fun h14 =>
  letF (hnew h14 (.inr (6, [.null, .null, .int 0]))) fun h15 =>
  (fX6_init h15 h14.2).bind fun q16 =>
  (pF q16 10 a0 6 (.ref h14.2)).bind fun h17 =>
  letF (hnew h17 (.inr (7, [.null, .null, .int 0, .int 0, .int 0, .int 0]))) fun h18 =>
  (fX7_init h18 h17.2).bind fun q19 =>
  (pF q19 10 a0 7 (.ref h17.2)).bind fun h20 =>
  letF (hnew h20 (.inr (5, [.null, .int 0]))) fun h21 =>
  (fX5_init h21 h20.2).bind fun q22 =>
  (pF q22 10 a0 8 (.ref h20.2)).bind fun h23 =>
  letF (hnew h23 (.inr (1, [.null, .null, .null, .int 0, .int 0]))) fun h24 =>
  (fX1_init h24 h23.2).bind fun q25 =>
  (pF q25 10 a0 9 (.ref h23.2)).bind fun h26 =>
  letF (hnew h26 (.inr (8, [.null, .null, .null, .null, .int 0]))) fun h27 =>
  (fX8_init h27 h26.2).bind fun q28 =>
  (pF q28 10 a0 10 (.ref h26.2)).bind fun h29 =>
  letF (hnew h29 (.inr (3, [.null]))) fun h30 =>
  (fX3_init h30 h29.2).bind fun q31 =>
  (pF q31 10 a0 11 (.ref h29.2)).bind fun h32 =>
  (gR h32 10 a0 5).bind fun x33 =>
  (fX6_becomeNone h32 x33).bind fun q34 =>
  some q34
set_option maxHeartbeats 4000000 in
theorem mX10_init {h : AH} {a0 : Nat} {r : AH} (hr : fX10_init h a0 = some r) : MC yX10_init cX10_init 1 none 4 144 5208 [.ref a0] h none r := by
  unfold fX10_init at hr
  refine mc_of (l0 := [(0, .ref a0)]) rfl pn_X10 (Nat.le_of_ble_eq_true rfl) (fun Y X C E O hnm => go_run hr ?_)
  have C : CT Y X RX10 cX10_init 1 := C
  refine go_aload_n (pc := 0) C 0 dX10_init_0 rfl ?_
  refine go_objInit (pc := 1) C O w_119 w_120 w_121 dX10_init_1 (by decide) (Nat.le_of_ble_eq_true rfl) ?_
  refine go_aload_n (pc := 4) C 0 dX10_init_4 rfl ?_
  refine go_bipush (pc := 5) C dX10_init_5 kb_80 ?_
  refine go_newa (atype := .char) (t := 2) (c' := 1) (s' := 80) (pc := 7) 80 C O ⟨rfl, by decide⟩ w_171 (by decide) (by decide) (by decide) dX10_init_7 ⟨by decide, by decide⟩ ⟨rfl, rfl⟩ (fun h1 => ?_)
  refine go_pRF (pc := 9) C hnm fpX10_9 dX10_init_9 (fun _ => rfl) (fun _ => rfl) (fun h2 => ?_)
  refine go_aload_n (pc := 12) C 0 dX10_init_12 rfl ?_
  refine go_new (c' := 2) (s' := 94) (pc := 13) C O clX10_13 dX10_init_13 ⟨by decide, by decide⟩ ⟨rfl, rfl⟩ (fun h3 => ?_)
  refine go_dup (pc := 16) C dX10_init_16 rfl ?_
  refine go_bind (fun q4 hq4 => ?_)
  refine go_callI (rest := [.ref h2.2, .ref a0]) (st' := [.ref h2.2, .ref a0]) (c' := 10) (s' := 436) (pc := 17) C O miX10_15 rfl w_125 [] rfl (mX9_init hq4) dX10_init_17 ⟨by decide, by decide, by decide, by decide⟩ rfl (Nat.le_of_ble_eq_true rfl) rfl ⟨rfl, rfl⟩ ?_
  refine go_pRF (pc := 20) C hnm fpX10_16 dX10_init_20 (fun _ => rfl) (fun _ => rfl) (fun h5 => ?_)
  refine go_aload_n (pc := 23) C 0 dX10_init_23 rfl ?_
  refine go_new (c' := 11) (s' := 450) (pc := 24) C O clX10_13 dX10_init_24 ⟨by decide, by decide⟩ ⟨rfl, rfl⟩ (fun h6 => ?_)
  refine go_dup (pc := 27) C dX10_init_27 rfl ?_
  refine go_bind (fun q7 hq7 => ?_)
  refine go_callI (rest := [.ref h5.2, .ref a0]) (st' := [.ref h5.2, .ref a0]) (c' := 19) (s' := 792) (pc := 28) C O miX10_15 rfl w_125 [] rfl (mX9_init hq7) dX10_init_28 ⟨by decide, by decide, by decide, by decide⟩ rfl (Nat.le_of_ble_eq_true rfl) rfl ⟨rfl, rfl⟩ ?_
  refine go_pRF (pc := 31) C hnm fpX10_20 dX10_init_31 (fun _ => rfl) (fun _ => rfl) (fun h8 => ?_)
  refine go_aload_n (pc := 34) C 0 dX10_init_34 rfl ?_
  refine go_new (c' := 20) (s' := 797) (pc := 35) C O clX10_23 dX10_init_35 ⟨by decide, by decide⟩ ⟨rfl, rfl⟩ (fun h9 => ?_)
  refine go_dup (pc := 38) C dX10_init_38 rfl ?_
  refine go_bind (fun q10 hq10 => ?_)
  refine go_callI (rest := [.ref h8.2, .ref a0]) (st' := [.ref h8.2, .ref a0]) (c' := 122) (s' := 4726) (pc := 39) C O miX10_25 rfl w_176 [] rfl (mX2_init hq10) dX10_init_39 ⟨by decide, by decide, by decide, by decide⟩ rfl (Nat.le_of_ble_eq_true rfl) rfl ⟨rfl, rfl⟩ ?_
  refine go_pRF (pc := 42) C hnm fpX10_26 dX10_init_42 (fun _ => rfl) (fun _ => rfl) (fun h11 => ?_)
  refine go_aload_n (pc := 45) C 0 dX10_init_45 rfl ?_
  refine go_new (c' := 123) (s' := 4729) (pc := 46) C O clX10_30 dX10_init_46 ⟨by decide, by decide⟩ ⟨rfl, rfl⟩ (fun h12 => ?_)
  refine go_dup (pc := 49) C dX10_init_49 rfl ?_
  refine go_bind (fun q13 hq13 => ?_)
  refine go_callIN (rest := [.ref h11.2, .ref a0]) (st' := [.ref h11.2, .ref a0]) (c' := 125) (s' := 4809) (pc := 50) C O miX10_32 rfl w_202 [] rfl (mX6_init hq13) dX10_init_50 ⟨by decide, by decide, by decide, by decide⟩ rfl (Nat.le_of_ble_eq_true rfl) rfl ⟨rfl, rfl⟩ ?_
  refine go_pRF (pc := 53) C hnm fpX10_33 dX10_init_53 (fun _ => rfl) (fun _ => rfl) (fun h14 => ?_)
  refine go_aload_n (pc := 56) C 0 dX10_init_56 rfl ?_
  refine go_new (c' := 126) (s' := 4812) (pc := 57) C O clX10_30 dX10_init_57 ⟨by decide, by decide⟩ ⟨rfl, rfl⟩ (fun h15 => ?_)
  refine go_dup (pc := 60) C dX10_init_60 rfl ?_
  refine go_bind (fun q16 hq16 => ?_)
  refine go_callIN (rest := [.ref h14.2, .ref a0]) (st' := [.ref h14.2, .ref a0]) (c' := 128) (s' := 4892) (pc := 61) C O miX10_32 rfl w_202 [] rfl (mX6_init hq16) dX10_init_61 ⟨by decide, by decide, by decide, by decide⟩ rfl (Nat.le_of_ble_eq_true rfl) rfl ⟨rfl, rfl⟩ ?_
  refine go_pRF (pc := 64) C hnm fpX10_37 dX10_init_64 (fun _ => rfl) (fun _ => rfl) (fun h17 => ?_)
  refine go_aload_n (pc := 67) C 0 dX10_init_67 rfl ?_
  refine go_new (c' := 129) (s' := 4898) (pc := 68) C O clX10_40 dX10_init_68 ⟨by decide, by decide⟩ ⟨rfl, rfl⟩ (fun h18 => ?_)
  refine go_dup (pc := 71) C dX10_init_71 rfl ?_
  refine go_bind (fun q19 hq19 => ?_)
  refine go_callIN (rest := [.ref h17.2, .ref a0]) (st' := [.ref h17.2, .ref a0]) (c' := 131) (s' := 4943) (pc := 72) C O miX10_42 rfl w_218 [] rfl (mX7_init hq19) dX10_init_72 ⟨by decide, by decide, by decide, by decide⟩ rfl (Nat.le_of_ble_eq_true rfl) rfl ⟨rfl, rfl⟩ ?_
  refine go_pRF (pc := 75) C hnm fpX10_43 dX10_init_75 (fun _ => rfl) (fun _ => rfl) (fun h20 => ?_)
  refine go_aload_n (pc := 78) C 0 dX10_init_78 rfl ?_
  refine go_new (c' := 132) (s' := 4945) (pc := 79) C O clX10_47 dX10_init_79 ⟨by decide, by decide⟩ ⟨rfl, rfl⟩ (fun h21 => ?_)
  refine go_dup (pc := 82) C dX10_init_82 rfl ?_
  refine go_bind (fun q22 hq22 => ?_)
  refine go_callIN (rest := [.ref h20.2, .ref a0]) (st' := [.ref h20.2, .ref a0]) (c' := 133) (s' := 4969) (pc := 83) C O miX10_49 rfl w_243 [] rfl (mX5_init hq22) dX10_init_83 ⟨by decide, by decide, by decide, by decide⟩ rfl (Nat.le_of_ble_eq_true rfl) rfl ⟨rfl, rfl⟩ ?_
  refine go_pRF (pc := 86) C hnm fpX10_50 dX10_init_86 (fun _ => rfl) (fun _ => rfl) (fun h23 => ?_)
  refine go_aload_n (pc := 89) C 0 dX10_init_89 rfl ?_
  refine go_new (c' := 134) (s' := 4974) (pc := 90) C O clX10_54 dX10_init_90 ⟨by decide, by decide⟩ ⟨rfl, rfl⟩ (fun h24 => ?_)
  refine go_dup (pc := 93) C dX10_init_93 rfl ?_
  refine go_bind (fun q25 hq25 => ?_)
  refine go_callIN (rest := [.ref h23.2, .ref a0]) (st' := [.ref h23.2, .ref a0]) (c' := 137) (s' := 5062) (pc := 94) C O miX10_56 rfl w_257 [] rfl (mX1_init hq25) dX10_init_94 ⟨by decide, by decide, by decide, by decide⟩ rfl (Nat.le_of_ble_eq_true rfl) rfl ⟨rfl, rfl⟩ ?_
  refine go_pRF (pc := 97) C hnm fpX10_57 dX10_init_97 (fun _ => rfl) (fun _ => rfl) (fun h26 => ?_)
  refine go_aload_n (pc := 100) C 0 dX10_init_100 rfl ?_
  refine go_new (c' := 138) (s' := 5067) (pc := 101) C O clX10_61 dX10_init_101 ⟨by decide, by decide⟩ ⟨rfl, rfl⟩ (fun h27 => ?_)
  refine go_dup (pc := 104) C dX10_init_104 rfl ?_
  refine go_bind (fun q28 hq28 => ?_)
  refine go_callIN (rest := [.ref h26.2, .ref a0]) (st' := [.ref h26.2, .ref a0]) (c' := 142) (s' := 5146) (pc := 105) C O miX10_63 rfl w_279 [] rfl (mX8_init hq28) dX10_init_105 ⟨by decide, by decide, by decide, by decide⟩ rfl (Nat.le_of_ble_eq_true rfl) rfl ⟨rfl, rfl⟩ ?_
  refine go_pRF (pc := 108) C hnm fpX10_64 dX10_init_108 (fun _ => rfl) (fun _ => rfl) (fun h29 => ?_)
  refine go_aload_n (pc := 111) C 0 dX10_init_111 rfl ?_
  refine go_new (c' := 143) (s' := 5147) (pc := 112) C O clX10_68 dX10_init_112 ⟨by decide, by decide⟩ ⟨rfl, rfl⟩ (fun h30 => ?_)
  refine go_dup (pc := 115) C dX10_init_115 rfl ?_
  refine go_bind (fun q31 hq31 => ?_)
  refine go_callIN (rest := [.ref h29.2, .ref a0]) (st' := [.ref h29.2, .ref a0]) (c' := 144) (s' := 5208) (pc := 116) C O miX10_70 rfl w_301 [] rfl (mX3_init hq31) dX10_init_116 ⟨by decide, by decide, by decide, by decide⟩ rfl (Nat.le_of_ble_eq_true rfl) rfl ⟨rfl, rfl⟩ ?_
  refine go_pRF (pc := 119) C hnm fpX10_71 dX10_init_119 (fun _ => rfl) (fun _ => rfl) (fun h32 => ?_)
  refine go_aload_n (pc := 122) C 0 dX10_init_122 rfl ?_
  refine go_gR (pc := 123) C fdX10_33 dX10_init_123 (fun x33 => ?_)
  refine go_bind (fun q34 hq34 => ?_)
  refine go_callV (rest := []) (st' := []) (c' := 144) (s' := 5208) (pc := 126) C O miX10_75 mvX6_becomeNone [] rfl (mX6_becomeNone hq34).1 (mX6_becomeNone hq34).2 dX10_init_126 ⟨by decide, by decide, by decide, by decide⟩ rfl (Nat.le_of_ble_eq_true rfl) rfl ⟨rfl, rfl⟩ ?_
  exact go_vret (w := wV) (pc := 129) C E q34 dX10_init_129 rfl
