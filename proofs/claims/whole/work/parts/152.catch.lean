/-! methods that throw, and the law's helpers that catch -/
abbrev NSE : String := "java/util/NoSuchElementException"
abbrev thrB : List Cond := [.castable NSE NSE, .declares ⟨"java/lang/RuntimeException", "<init>", "()V"⟩, .declares ⟨"java/lang/Exception", "<init>", "()V"⟩, .declares ⟨"java/lang/Throwable", "<init>", "()V"⟩]
/-- what a throw needs beside the tables' good words -/
def TX (Y : YT) (U : State) (H : Heap) : Prop := va_Nw (.castable NSE NSE) U ∧ (∀ y ∈ (["java/lang/RuntimeException", "java/lang/Exception", "java/lang/Throwable"] : List String), va_Nw (.declares ⟨y, "<init>", "()V"⟩) U) ∧ vx_Zq Bundle.tN "UNASSIGNED_STACK" Bundle.steD (AA Y) U H ∧ vx_Zq Bundle.tN "SUPPRESSED_SENTINEL" Bundle.listD (AA Y) U H
theorem TX.warm {Y : YT} {s U : State} {H : Heap} (hW : s.WarmedH U.vm) (h : TX Y s H) : TX Y U H := ⟨va_Nw.warmC hW h.1, fun y hy => va_Nw.warmD hW (h.2.1 y hy), vx_Zq.moved hW.alike h.2.2.1, vx_Zq.moved hW.alike h.2.2.2⟩
theorem TX.same {Y : YT} {u U : State} {H : Heap} (hv : U.vm = u.vm) (h : TX Y u H) : TX Y U H := ⟨va_Nw.same rfl hv.symm h.1, fun y hy => va_Nw.same rfl hv.symm (h.2.1 y hy), vx_Zq.moved (by rw [hv]; exact Vm.Alike.refl _) h.2.2.1, vx_Zq.moved (by rw [hv]; exact Vm.Alike.refl _) h.2.2.2⟩
theorem TX.kept {Y : YT} {U : State} {H H1 : Heap} (h : TX Y U H) (hq : ∀ a : Nat, a < H.size → ¬ AA Y a → H1[a]? = H[a]?) : TX Y U H1 := ⟨h.1, h.2.1, h.2.2.1.kept hq, h.2.2.2.kept hq⟩
def XC (Y : YT) (h : AH) : String → State → State → Prop := fun E st t => E = NSE ∧ HR Y (h.1, h.2 + 1) t.heap ∧ va_F (AA Y) st t
def XMC (y : MethodName) (cc : ByteArray) (nL : Nat) (ret : Option FieldType) (d : Nat) (av : List Value) (h h' : AH) : Prop :=
  ∀ (l : Launch) (Y : YT), l.flags = flags0 → vx_Met l y (Cond.code y cc nL ret :: TBL) (rmA d 1 6) (va_Pc (av.map (cv Y)) (fun U => (HR Y h U.heap ∧ va_K Y.2.2.2.1 classes (tysA Y) U ∧ Y.1 ≤ U.heap.size ∧ SX Y U U.heap) ∧ TX Y U U.heap)) (fun _ _ _ _ => False) (XC Y h') 1 6 (AA Y)
def RT (Y : YT) (X : XT) (h : AH) : Prop := X.2.2.2.2.2.2.2.2.2.2 = vx_MQ X.2.2.2.2.2.2.2.1 (fun _ _ _ _ => False) (XC Y h) X.2.2.2.2.2.2.1 X.2.2.2.2.1 1 6 (AA Y) ∧ (∀ x ∈ X.2.2.2.2.2.2.2.2.2.1.exceptionTable.toList, False) ∧ TX Y X.2.2.2.2.1 X.2.2.2.2.1.heap
theorem no_traces {l : Launch} (h : l.flags = flags0) : l.stackTraces = false := by
  unfold Launch.stackTraces
  rw [h]
  decide +kernel
theorem xmc_of {y : MethodName} {cc : ByteArray} {nL : Nat} {ret : Option FieldType} {d : Nat} {av : List Value} {h h' : AH} {l0 : List (Nat × Value)} (hl0 : lv_args 0 av = l0) (hy : plainName y.cls = true) (hlen : (av.map fun v => v.category).sum ≤ nL)
    (body : ∀ (Y : YT) (X : XT), CT Y X y.cls cc nL → RT Y X h' → RO X d 1 6 → AW Y X nL h 0 0 0 l0 []) : XMC y cc nL ret d av h h' := by
  subst hl0
  intro l Y hfl
  refine vx_ofW (cc := cc) (maxL := nL) (ret := ret) hy rfl ?_
  intro p e s m args below meth c s₁ B hml htab hv
  obtain ⟨rfl, ⟨hHR, hK, hz, hSX⟩, hTX⟩ := hv
  have hts := atoms_spec (ws := Cond.code y cc nL ret :: TBL) B.pre
  have hown : s.vm.findClass y.cls = some m.cls := findClass_of_methodNamed B.named
  have h1 := body Y (p, l, e, rmA d 1 6, s, m, (av.map (cv Y)).toArray, below, meth, c, vx_MQ below (fun _ _ _ _ => False) (XC Y h') (av.map (cv Y)).toArray s 1 6 (AA Y))
    ⟨B.exec, B.bytes, hml, hown, fun w hw => hts w (List.mem_cons_of_mem _ hw), hK, B.notSynchronized, hz, hSX, hfl⟩ ⟨rfl, htab, hTX⟩ ⟨Nat.le_refl _, Nat.le_refl _, Nat.le_refl _, Nat.le_refl _⟩
  have hl := lv_entry (av.map (cv Y)) (n := nL) (by rw [lg_sl_len]; exact hlen)
  rw [lg_entry_eq]
  rw [lv_args_cL] at hl
  exact h1 s.heap [] _ hHR va_S.rf hl
section TH1
variable {p : Program} {l : Launch} {e : Env} {R : Room} {s : State} {m : MethodId} {args : Array Value} {below : List Frame} {meth : Method} {c : Code} {H : Heap} {locs : List Loc} {cells slots : Nat} {Q : State → Prop}
variable {mc ms : Nat} {free : Addr → Prop} {A0 A1 : Nat → Prop} {H0 : Heap} {a : Array Value} {ls : Array Slot} {st0 rest : List Value}
variable {Qc : Array Value → State → Outcome → State → Prop} {XK : String → State → State → Prop}
theorem vx_throw1 {cc : ByteArray} {pc : Nat} (hexec : p.tables.exec = Jvm.exec) (hb : c.code = cc) (hl : l.stackTraces = false) {own cls : String} {names : List String} {ik ic mc ms : Nat} {A : Nat → Prop}
    (hown : s.vm.findClass own = some m.cls) (hcls : Bundle.fit cls = true) (hnames : ∀ n ∈ names, Bundle.fit n = true)
    (hk : (Cond.classLink own ik cls).before args s = true) (hini : (Cond.initialized cls).before args s = true) (hat : ∀ w ∈ vx_at0 own ic cls names, w.before args s = true)
    (hgood : ∀ w ∈ Cond.classLink own ik cls :: Cond.initialized cls :: vx_at0 own ic cls names, vx_ot w = true)
    (hU : vx_Zq Bundle.tN "UNASSIGNED_STACK" Bundle.steD A s s.heap) (hN : vx_Zq Bundle.tN "SUPPRESSED_SENTINEL" Bundle.listD A s s.heap) (hS : va_S A s.heap H locs) (hsize : ls.size = c.maxLocals)
    (d0 : decode cc pc = .ok (.new ik, 3)) (d3 : decode cc (pc + 3) = .ok (.dup, 1)) (d4 : decode cc (pc + 4) = .ok (.invokespecial ic, 3)) (d7 : decode cc (pc + 7) = .ok (.athrow, 1))
    (hout : ∀ x ∈ c.exceptionTable.toList, covers x (pc + 7) = false)
    (hRframes : names.length + 3 < R.frames) (hRlocals : (rest.map fun v => v.category).sum + (13 * (names.length + 1) + 42) ≤ R.locals) (hRcells : cells + 1 ≤ R.cells) (hRslots : slots + 6 ≤ R.slots) (hlocks : meth.locks = false)
    (hx : ∀ t : State, s.vm.Alike t.vm → H.size ≤ t.heap.size → (∀ q : Nat, q < H.size → t.heap[q]? = H[q]?) → t.heap.size = H.size + 1 → XK cls s t)
    (hf : ∀ z ∈ locs, free z.base) (hc : cells + 1 ≤ mc) (hs : slots + 6 ≤ ms) :
    W p l e R s m args below meth c H locs cells slots (vx_MQ below Qc XK args s mc ms free) (F0 m pc ls rest) := by
  intro T hT X
  have htr : e.platform.stackTraces = false := (show e.platform.stackTraces = l.stackTraces by rw [X.admits.platform]).trans hl
  have Y := vx_rebase X (R' := { frames := R.frames, locals := R.locals, cells := 1, slots := 6 }) (Nat.le_refl _) (Nat.le_refl _) hRcells hRslots
  obtain ⟨s', hA⟩ : ∃ z, z = (T.setVm s.vm).setFrames (.invoking m args :: below) := ⟨_, rfl⟩
  rw [← hA] at Y
  have hvm : s'.vm = s.vm := by rw [hA]; rfl
  have hhp : s'.heap = H := by rw [hA]; exact hT
  have hW0 : s.WarmedH s'.vm := by rw [hvm]; exact State.WarmedH.refl s
  have hat' : ∀ w ∈ vx_at0 own ic cls names, w.before args s' = true := fun w hw => vx_ot_at hW0 hvm.symm (hgood w (List.mem_cons_of_mem _ (List.mem_cons_of_mem _ hw))) (hat w hw)
  have hk' : (Cond.classLink own ik cls).before args s' = true := vx_ot_at hW0 hvm.symm (hgood _ List.mem_cons_self) hk
  have hini' : (Cond.initialized cls).before args s' = true := vx_ot_at hW0 hvm.symm (hgood _ (List.mem_cons_of_mem _ List.mem_cons_self)) hini
  have hU' : vx_Zq Bundle.tN "UNASSIGNED_STACK" Bundle.steD A s' s'.heap := by rw [hhp]; exact vx_Zq.moved hW0.alike (hU.kept hS.2.1)
  have hN' : vx_Zq Bundle.tN "SUPPRESSED_SENTINEL" Bundle.listD A s' s'.heap := by rw [hhp]; exact vx_Zq.moved hW0.alike (hN.kept hS.2.1)
  have h : ∀ w ∈ Bundle.ownAtoms0 own ic cls names, w.before args s' = true := vx_own hat' (vx_isRefq hU'.1) (vx_isRefq hN'.1) hU'.2.word hN'.2.word
  have hown' : s'.vm.findClass own = some m.cls := by rw [hvm]; exact hown
  have hins : (Cond.instantiable cls 6).before args s' = true := h _ (by simp [Bundle.ownAtoms0])
  obtain ⟨vm₁, cX, kX, hfX, hkX, -, -, X₁, st1⟩ := Y.newCold hexec (own := own) (C := cls) (index := ik) (n := 6) hown' hk' hins hini'
    (g := F0 m pc ls rest) rfl (by rw [hb]; exact d0) (Nat.le_refl _) (Nat.le_refl _)
  generalize hT1 : (T.setVm vm₁).pushCell { cls := cX, slots := kX.instanceTypes.map defaultValue, vm := .none } = T1 at X₁ st1
  have hcat : (Value.ref T.heap.size).category = 1 := rfl
  have hcellA : T1.heap[T.heap.size]? = some (freshCell cX kX) := by rw [← hT1]; exact State.heap_pushCell_size _ _
  have d3' : decode c.code (pc + 3) = .ok (.dup, 1) := by rw [hb]; exact d3
  obtain ⟨U, hsteps, hrun, hend, hW, hsame, ce, hce, hO⟩ := X₁.ctorThrow0 hexec htr (own := own) (cls := cls) (names := names) (ic := ic) hown' hcls hnames h (fun x hx => nomatch hx) hfX hkX hcellA (by rw [hhp, hT]; exact Nat.le_refl _)
    (g := { method := m, pc := pc + 4, locals := ls, stack := .ref T.heap.size :: .ref T.heap.size :: rest, locked := none }) rfl hsize rfl rfl (rest := rest) rfl
    (by rw [hb]; exact d4) (by rw [hb]; exact d7) hout hRframes (by simp only [List.map_cons, List.sum_cons, hcat]; omega) hlocks
  obtain ⟨f1, f2⟩ := vx_frame hsame
  rw [hhp] at f1 f2
  have hWs : s.WarmedH U.vm := State.WarmedH.trans hW0 hW
  have hcl : s.vm.findClass cls = some ce.cls := by
    have h9 := hO.cls
    rw [hvm] at h9
    exact h9
  have hall : s.sameButNew ({ U with vm := s.vm } : State) locs mc ms := by
    subst hA
    obtain ⟨e1, e2⟩ := hsame
    rw [State.setFrames_setFrames] at e1
    have h2 : (T.setVm s.vm).sameButNew ({ U with vm := s.vm } : State) [] (0 + 1) (0 + 6) := ⟨e1, e2⟩
    have h3 := X.same.trans h2
    rw [List.append_nil] at h3
    exact h3.mono hc hs
  have hsz : U.heap.size = H.size + 1 := by
    have g1 : T.heap.size < U.heap.size := (Array.getElem?_eq_some_iff.mp hce).1
    have g2 : U.heap.size ≤ s'.heap.size + 1 := hsame.2.2.1
    rw [hhp] at g2
    rw [hT] at g1
    omega
  refine ⟨U, ?_, .threw T.heap.size, hrun, hend, Or.inr ⟨T.heap.size, rfl, cls, ce, locs, hx U hWs.alike f1 (fun q hq => f2 q hq (fun z hz => nomatch hz)) hsz, hce, hO.vm, hcl, hWs, hall, hf⟩⟩
  refine st1 _ ?_
  show Steps p.tables e below (T1.setTop { method := m, pc := pc + 3, locals := ls, stack := .ref T.heap.size :: rest, locked := none }) _
  jvm_step X₁.here [X₁.here.top, hexec, d3', Value.category]
  exact hsteps
end TH1
set_option maxRecDepth 100000 in
theorem thr_good : ((vx_at0 RX10 144 NSE ["java/lang/RuntimeException", "java/lang/Exception"]).filter goodWord).all (fun w => decide (w ∈ lw_tbl)) = true := by decide +kernel
theorem thr_other : ∀ w ∈ (vx_at0 RX10 144 NSE ["java/lang/RuntimeException", "java/lang/Exception"]).filter (fun w => !goodWord w), w ∈ thrB := by decide +kernel
theorem thr_ot : ∀ w ∈ Cond.classLink RX10 142 NSE :: Cond.initialized NSE :: vx_at0 RX10 144 NSE ["java/lang/RuntimeException", "java/lang/Exception"], vx_ot w = true := by decide +kernel
theorem go_throw {Y : YT} {X : XT} {cc : ByteArray} {nL : Nat} {r h : AH} {pc : Nat} {ls : List (Nat × Value)} {st : List Value} {d : Nat} (C : CT Y X RX10 cc nL) (E : RT Y X r) (O : RO X d 1 6) (hR : 10 ≤ d) (hk : Cond.classLink RX10 142 NSE ∈ TBL) (hi : Cond.initialized NSE ∈ TBL) (hs : (st.map fun v => v.category).sum ≤ 8)
    (d0 : decode cc pc = .ok (.new 142, 3)) (d3 : decode cc (pc + 3) = .ok (.dup, 1)) (d4 : decode cc (pc + 4) = .ok (.invokespecial 144, 3)) (d7 : decode cc (pc + 7) = .ok (.athrow, 1)) : GO Y X nL r h 0 0 pc ls st (some h) := by
  intro hr H locs la hH hS hl
  cases hr
  obtain ⟨E1, E2, E3⟩ := E
  rw [E1]
  have hts := C.2.2.2.2.1
  have e := cat_ok hs Y
  have hw : ∀ w ∈ vx_at0 RX10 144 NSE ["java/lang/RuntimeException", "java/lang/Exception"], w.before X.2.2.2.2.2.2.1 X.2.2.2.2.1 = true := by
    refine vx_hat (B := thrB) (fun w hw => ?_) thr_other (fun w hw => ?_)
    · have h9 := List.all_eq_true.mp thr_good w hw
      exact hts w (List.mem_filter.mpr ⟨of_decide_eq_true h9, (List.mem_filter.mp hw).2⟩)
    · simp only [List.mem_cons, List.not_mem_nil, or_false] at hw
      rcases hw with rfl | rfl | rfl | rfl
      · exact va_Nw.use rfl E3.1
      · exact va_Nw.use rfl (E3.2.1 "java/lang/RuntimeException" (by simp))
      · exact va_Nw.use rfl (E3.2.1 "java/lang/Exception" (by simp))
      · exact va_Nw.use rfl (E3.2.1 "java/lang/Throwable" (by simp))
  refine vx_throw1 (names := ["java/lang/RuntimeException", "java/lang/Exception"]) C.1 C.2.1 (no_traces C.2.2.2.2.2.2.2.2.2) C.2.2.2.1 (by decide +kernel) (by decide +kernel) (hts _ hk) (hts _ hi) hw thr_ot E3.2.2.1 E3.2.2.2 hS (by rw [C.2.2.1]; exact hl.1) d0 d3 d4 d7 (fun x hx => (E2 x hx).elim) ?_ ?_ ?_ ?_ C.2.2.2.2.2.2.1 (fun t ht h1 h2 h3 => ?_) hS.2.2 (by decide) (by decide)
  · have := O.1
    show 2 + 3 < _
    omega
  · have := O.2.1
    show _ + (13 * (2 + 1) + 42) ≤ _
    omega
  · exact O.2.2.1
  · exact O.2.2.2
  · refine ⟨rfl, ⟨?_, fun k e9 hk => (hH.2 k e9 hk).kept (h2 _ (hH.lt hk))⟩, Nat.le_trans hS.1 h1, fun q g1 g2 => (h2 q (Nat.lt_of_lt_of_le g1 hS.1)).trans (hS.2.1 q g1 g2)⟩
    have := hH.1
    show t.heap.size = Y.1 + (r.2 + 1)
    omega

/-! the law's helpers -/
def MCW (y : MethodName) (cc : ByteArray) (nL : Nat) (ret : Option FieldType) (hh : List (Nat × Nat × Nat × Nat)) (d mc ms : Nat) (av : List Value) (h : AH) (v : Option Value) (h' : AH) : Prop :=
  ∀ (l : Launch) (Y : YT), l.flags = flags0 → Met l y (Cond.codeWith y cc nL ret hh :: TBL) (rmA d mc ms) (va_Pc (av.map (cv Y)) (fun U => (HR Y h U.heap ∧ va_K Y.2.2.2.1 classes (tysA Y) U ∧ Y.1 ≤ U.heap.size ∧ SX Y U U.heap) ∧ TX Y U U.heap)) (QR Y v h') mc ms (AA Y)
def RW (Y : YT) (X : XT) (ret : Option FieldType) (hh : List (Nat × Nat × Nat × Nat)) (v : Option Value) (h : AH) (cells slots : Nat) : Prop := X.2.2.2.2.2.2.2.2.2.2 = MQ X.2.2.2.2.2.2.2.1 (QR Y v h) X.2.2.2.2.2.2.1 X.2.2.2.2.1 cells slots (AA Y) ∧ X.2.2.2.2.2.2.2.2.1.sig.returnType = ret ∧ X.2.2.2.2.2.2.2.2.2.1.exceptionTable.toList = tableOf hh ∧ TX Y X.2.2.2.2.1 X.2.2.2.2.1.heap
theorem mcw_of {y : MethodName} {cc : ByteArray} {nL : Nat} {ret : Option FieldType} {hh : List (Nat × Nat × Nat × Nat)} {d mc ms : Nat} {av : List Value} {h : AH} {v : Option Value} {h' : AH} {l0 : List (Nat × Value)} (hl0 : lv_args 0 av = l0) (hy : plainName y.cls = true) (hlen : (av.map fun v => v.category).sum ≤ nL)
    (body : ∀ (Y : YT) (X : XT), CT Y X y.cls cc nL → RW Y X ret hh v h' mc ms → RO X d mc ms → AW Y X nL h 0 0 0 l0 []) : MCW y cc nL ret hh d mc ms av h v h' := by
  subst hl0
  intro l Y hfl
  refine va_MetW (cc := cc) (maxL := nL) (ret := ret) (hh := hh) hy rfl ?_
  intro p e s m args below meth c s₁ B hml hv
  obtain ⟨rfl, ⟨hHR, hK, hz, hSX⟩, hTX⟩ := hv
  have hts := atoms_spec (ws := Cond.codeWith y cc nL ret hh :: TBL) B.pre
  have hown : s.vm.findClass y.cls = some m.cls := findClass_of_methodNamed B.named
  have htab := vx_table (x := y) B (hts _ List.mem_cons_self)
  have h1 := body Y (p, l, e, rmA d mc ms, s, m, (av.map (cv Y)).toArray, below, meth, c, MQ below (QR Y v h') (av.map (cv Y)).toArray s mc ms (AA Y))
    ⟨B.exec, B.bytes, hml, hown, fun w hw => hts w (List.mem_cons_of_mem _ hw), hK, B.notSynchronized, hz, hSX, hfl⟩ ⟨rfl, B.returns, htab, hTX⟩ ⟨Nat.le_refl _, Nat.le_refl _, Nat.le_refl _, Nat.le_refl _⟩
  have hl := lv_entry (av.map (cv Y)) (n := nL) (by rw [lg_sl_len]; exact hlen)
  rw [lg_entry_eq]
  rw [lv_args_cL] at hl
  exact h1 s.heap [] _ hHR va_S.rf hl
section THR
variable {Y : YT} {X : XT} {own : String} {cc : ByteArray} {nL : Nat} {h : AH} {cells slots : Nat} {pc : Nat} {ls : List (Nat × Value)} {st rest : List Value}
variable {index : Nat} {y : MethodName} {bytes : ByteArray} {maxL : Nat} {ret : Option FieldType} {n d mc ms : Nat} {av : List Value} {v : Option Value} {h1 : AH} {ci D0 MC0 MS0 : Nat} {host : String}
theorem aw_iretx {hh : List (Nat × Nat × Nat × Nat)} {x : Int32} (C : CT Y X own cc nL) (E : RW Y X (some .int) hh (some (.int x)) h cells slots) (hd : decode cc pc = .ok (.ireturn, 1)) : AW Y X nL h cells slots pc ls [.int x] := by
  intro H locs la hH hS hl
  rw [E.1]
  exact W.zret C.1 C.2.1 E.2.1 rfl (fun t ht hW => ⟨rfl, by rw [ht]; exact hH, hS.F ht⟩) hS.2.2 hd C.2.2.2.2.2.2.1
theorem aw_last {b : Nat} {i : Int32} {x : Int64} (C : CT Y X own cc nL) (hd : decode cc pc = .ok (.lastore, 1)) (hs : sJ h b i x = some h1) (k : AW Y X nL h1 cells slots (pc + 1) ls st) : AW Y X nL h cells slots pc ls (.long x :: .int i :: .ref b :: st) := go_last (a := h1) (K := fun h2 => some h2) C hd (fun h2 hr => by cases hr; exact k) (by rw [hs]; rfl)
theorem ct_preT {H : Heap} {locs : List Loc} (C : CT Y X own cc nL) (T : TX Y X.2.2.2.2.1 X.2.2.2.2.1.heap) (hH : HR Y h H) (hS : va_S (AA Y) X.2.2.2.2.1.heap H locs) : PreS X.2.2.2.2.1 H (va_Pc (av.map (cv Y)) (fun U => (HR Y h U.heap ∧ va_K Y.2.2.2.1 classes (tysA Y) U ∧ Y.1 ≤ U.heap.size ∧ SX Y U U.heap) ∧ TX Y U U.heap)) (av.map (cv Y)) := by
  refine ⟨fun a U g mk q => ?_, fun U hU hW => ?_⟩
  · obtain ⟨q0, ⟨q1, q2, q3, q4⟩, q5⟩ := q
    exact ⟨q0, ⟨q1, va_K.moved (u := U) (U := U.calling g mk a) (Vm.Alike.refl U.vm) q2, q3, SX.same (u := U) rfl q4⟩, TX.same (u := U) rfl q5⟩
  · exact ⟨rfl, ⟨by rw [hU]; exact hH, va_K.moved hW.alike C.2.2.2.2.2.1, by rw [hU]; exact Nat.le_trans C.2.2.2.2.2.2.2.1 hS.1, by rw [hU]; exact SX.warm hW (SX.kept C.2.2.2.2.2.2.2.2.1 (fun q g1 g2 => hS.2.1 q g1 g2))⟩, by rw [hU]; exact TX.warm hW (TX.kept T (fun q g1 g2 => hS.2.1 q g1 g2))⟩
/-- a call that throws, caught here -/
theorem aw_callX {b s0 e0 p0 k0 : Nat} (C : CT Y X own cc nL) (O : RO X D0 MC0 MS0) (T : TX Y X.2.2.2.2.1 X.2.2.2.2.1.heap) (htab : X.2.2.2.2.2.2.2.2.2.1.exceptionTable.toList = tableOf [(s0, e0, p0, k0)]) (hcov : covers ⟨s0, e0, p0, k0⟩ pc = true) (hk0 : k0 ≠ 0) (hlink : Cond.classLink own k0 NSE ∈ TBL)
    (M : MI own index y bytes maxL ret n) (V : MIV y ci) (av : List Value) (hn : av.length = n) (hb : hasC h ci b = true) (hm : XMC y bytes maxL ret d (.ref b :: av) h h1) (hd : decode cc pc = .ok (.invokevirtual index, 3)) (hR : d + 1 ≤ D0 ∧ maxL ≤ 45 ∧ cells + 1 ≤ MC0 ∧ slots + 6 ≤ MS0) (hst : st = av.reverse ++ .ref b :: rest) (hc : (rest.map fun v => v.category).sum ≤ 8)
    (kk : ∀ (H1 : Heap) (locs1 : List Loc) (la : Array Slot) (q : Nat), HR Y (h1.1, h1.2 + 1) H1 → va_S (AA Y) X.2.2.2.2.1.heap H1 locs1 → lv_has la nL (cL Y ls) → W X.1 X.2.1 X.2.2.1 X.2.2.2.1 X.2.2.2.2.1 X.2.2.2.2.2.1 X.2.2.2.2.2.2.1 X.2.2.2.2.2.2.2.1 X.2.2.2.2.2.2.2.2.1 X.2.2.2.2.2.2.2.2.2.1 H1 locs1 (cells + 1) (slots + 6) X.2.2.2.2.2.2.2.2.2.2 (F0 X.2.2.2.2.2.1 p0 la [.ref q])) : AW Y X nL h cells slots pc ls st := by
  subst hst
  intro H locs la hH hS hl
  obtain ⟨V1, V2, Tt, N, V3⟩ := V
  obtain ⟨fs, hb⟩ := hasC_spec hb
  have hpre := ct_preT (av := .ref b :: av) C T hH hS
  have hts := C.2.2.2.2.1
  intro Ts hT XS
  have hrun := vx_runV (H := H) (locs := locs) (cells := cells) (slots := slots) (R := X.2.2.2.1) (e := X.2.2.1) (below := X.2.2.2.2.2.2.2.1) (meth := X.2.2.2.2.2.2.2.2.1) (g := F0 X.2.2.2.2.2.1 pc la ((av.reverse ++ .ref b :: rest).map (cv Y))) (rest := rest.map (cv Y)) (C := y.cls) (b := Y.1 + b) (As := av.map (cv Y)) ⟨C.1, C.2.1, C.2.2.1, C.2.2.2.1, C.2.2.2.2.1⟩ (hm X.2.1 Y C.2.2.2.2.2.2.2.2.2) ⟨ct_callB C M O hR.1 hR.2.1, C.2.2.2.2.1 _ V1, C.2.2.2.2.1 _ V2⟩ ⟨hpre.1, va_recv C.2.2.2.2.2.1 (hH.one hb) V3 (q0 := 0) rfl, hpre.2⟩ rfl (by rw [List.length_map]; exact hn) hl.1 (by show (av.reverse ++ .ref b :: rest).map (cv Y) = _; rw [List.map_append, List.map_reverse]; rfl) (lv_room (cat_ok hc Y)) hd ⟨Nat.le_trans hR.2.2.1 O.2.2.1, Nat.le_trans hR.2.2.2 O.2.2.2⟩
  rcases hrun Ts hT XS with ⟨v, st₀, t, T', L, h0, X', hL, e1, e2, hF, stp⟩ | ⟨q, st₀, t, T', L, E, ce, h0, X', hL, e1, e2, ⟨rfl, hH', hz, hkp⟩, hce, hcv, hcl, stp⟩
  · exact hF.elim
  · rw [h0] at hz hkp
    have hw := kk T'.heap (locs ++ L) la q (by rw [e1]; exact hH') ⟨Nat.le_trans hS.1 (by rw [e1]; exact hz), fun q g1 g2 => by rw [e1, hkp q (Nat.lt_of_lt_of_le g1 hS.1) g2]; exact hS.2.1 q g1 g2, fun q hq => by
      rcases List.mem_append.mp hq with g | g
      · exact hS.2.2 q g
      · exact hL q g⟩ hl
    have hcat := vx_catch (pc := pc) (rest := rest.map (cv Y)) (name := NSE) (ce := ce) C.2.2.2.1 [] ⟨s0, e0, p0, k0⟩ [] htab (fun z hz => by cases hz) hcov hk0 (hts _ hlink) (va_Nw.use rfl T.1) (by rw [e1]; exact hce) hcv hcl hw
    obtain ⟨t2, a1, b1⟩ := hcat T' rfl X'
    exact ⟨t2, stp.trans a1, b1⟩
/-- the handler of the law's helpers: the exception put away, 1 -/
theorem aw_hand {hh : List (Nat × Nat × Nat × Nat)} {p0 i w : Nat} {H1 : Heap} {locs1 : List Loc} {la : Array Slot} {q : Nat} (C : CT Y X own cc nL) (E : RW Y X (some .int) hh (some (.int 1)) (h1.1, h1.2 + 1) 1 6) (hH : HR Y (h1.1, h1.2 + 1) H1) (hS : va_S (AA Y) X.2.2.2.2.1.heap H1 locs1) (hl : lv_has la nL (cL Y ls)) (hi : i < nL)
    (hd0 : decode cc p0 = .ok (.astore i, 2) ∧ w = 2 ∨ (∃ k : Fin 4, (k : Nat) = i ∧ decode cc p0 = .ok (.astore_n k, 1) ∧ w = 1)) (hd1 : decode cc (p0 + w) = .ok (.iconst 1, 1)) (hd2 : decode cc (p0 + w + 1) = .ok (.ireturn, 1)) :
    W X.1 X.2.1 X.2.2.1 X.2.2.2.1 X.2.2.2.2.1 X.2.2.2.2.2.1 X.2.2.2.2.2.2.1 X.2.2.2.2.2.2.2.1 X.2.2.2.2.2.2.2.2.1 X.2.2.2.2.2.2.2.2.2.1 H1 locs1 1 6 X.2.2.2.2.2.2.2.2.2.2 (F0 X.2.2.2.2.2.1 p0 la [.ref q]) := by
  have key : ∀ la' : Array Slot, W X.1 X.2.1 X.2.2.1 X.2.2.2.1 X.2.2.2.2.1 X.2.2.2.2.2.1 X.2.2.2.2.2.2.1 X.2.2.2.2.2.2.2.1 X.2.2.2.2.2.2.2.2.1 X.2.2.2.2.2.2.2.2.2.1 H1 locs1 1 6 X.2.2.2.2.2.2.2.2.2.2 (F0 X.2.2.2.2.2.1 (p0 + w) la' []) := by
    intro la'
    refine lv_iconst (v := 1) C.1 C.2.1 hd1 (by decide) ?_
    rw [E.1]
    exact W.zret C.1 C.2.1 E.2.1 rfl (fun t ht hW => ⟨rfl, by rw [ht]; exact hH, hS.F ht⟩) hS.2.2 hd2 C.2.2.2.2.2.2.1
  rcases hd0 with ⟨hd0, rfl⟩ | ⟨k, hk, hd0, rfl⟩
  · exact lv_astore C.1 C.2.1 hd0 hl hi rfl (fun la' _ => key la')
  · exact lv_astore_n C.1 C.2.1 hd0 hk hl hi rfl (fun la' _ => key la')
end THR
theorem w_1203 : Cond.classLink RX10 142 "java/util/NoSuchElementException" ∈ TBL := tin5 155 rfl rfl
theorem w_106 : Cond.initialized "java/util/NoSuchElementException" ∈ TBL := tin1 18 rfl rfl
theorem w_1202 : Cond.code yX10_space cX10_space 3 (some .int) ∈ TBL := tin5 154 rfl rfl
theorem w_1198 : Cond.classLink RL 13 "java/util/NoSuchElementException" ∈ TBL := tin5 150 rfl rfl
theorem w_1272 : Cond.code yX10_object cX10_object 3 (some .int) ∈ TBL := tin5 224 rfl rfl
theorem w_1288 : Cond.code yX10_page cX10_page 3 (some .int) ∈ TBL := tin6 0 rfl rfl
theorem w_1296 : Cond.code yX10_row cX10_row 2 (some .long) ∈ TBL := tin6 8 rfl rfl
theorem miL_7 : MI RL 7 yX10_space cX10_space 3 (some .int) 2 := ⟨(tin5 151 rfl rfl), w_1202, w_89, by decide +kernel⟩
theorem mvX10_space : MIV yX10_space 10 := ⟨(tin5 152 rfl rfl), (tin5 153 rfl rfl), TX10, 12, rfl⟩
theorem miL_15 : MI RL 15 yX10_object cX10_object 3 (some .int) 2 := ⟨(tin5 221 rfl rfl), w_1272, w_89, by decide +kernel⟩
theorem mvX10_object : MIV yX10_object 10 := ⟨(tin5 222 rfl rfl), (tin5 223 rfl rfl), TX10, 12, rfl⟩
theorem miL_18 : MI RL 18 yX10_page cX10_page 3 (some .int) 2 := ⟨(tin5 237 rfl rfl), w_1288, w_89, by decide +kernel⟩
theorem mvX10_page : MIV yX10_page 10 := ⟨(tin5 238 rfl rfl), (tin5 239 rfl rfl), TX10, 12, rfl⟩
theorem miL_21 : MI RL 21 yX10_row cX10_row 2 (some .long) 1 := ⟨(tin6 5 rfl rfl), w_1296, w_89, by decide +kernel⟩
theorem mvX10_row : MIV yX10_row 10 := ⟨(tin6 6 rfl rfl), (tin6 7 rfl rfl), TX10, 12, rfl⟩
theorem pn_L : plainName RL = true := by decide +kernel
theorem dX10_space_11 : decode cX10_space 11 = .ok (.new 142, 3) := by decide +kernel
theorem dX10_space_14 : decode cX10_space 14 = .ok (.dup, 1) := by decide +kernel
theorem dX10_space_15 : decode cX10_space 15 = .ok (.invokespecial 144, 3) := by decide +kernel
theorem dX10_space_18 : decode cX10_space 18 = .ok (.athrow, 1) := by decide +kernel
theorem dX10_space_111 : decode cX10_space 111 = .ok (.new 142, 3) := by decide +kernel
theorem dX10_space_114 : decode cX10_space 114 = .ok (.dup, 1) := by decide +kernel
theorem dX10_space_115 : decode cX10_space 115 = .ok (.invokespecial 144, 3) := by decide +kernel
theorem dX10_space_118 : decode cX10_space 118 = .ok (.athrow, 1) := by decide +kernel
def fX10_space_t (h : AH) (a0 : Nat) (a1 : Int32) (a2 : Int32) : Option AH :=
  if hasC h 10 a0 = true then (
    (gR h 10 a0 2).bind fun x1 =>
    (fX9_hasSpace h x1 a1).bind fun q2 =>
    if q2 = true then (
      if a2 = 0 then (
        none
      ) else (
        if a2 = 1 then (
          none
        ) else (
          if a2 = 2 then (
            none
          ) else (
            if a2 = 3 then (
              none
            ) else (
              some h))))
    ) else (
      some h
    )
  ) else none
set_option maxHeartbeats 4000000 in
theorem mX10_space_t {h : AH} {a0 : Nat} {a1 : Int32} {a2 : Int32} {r : AH} (hr : fX10_space_t h a0 a1 a2 = some r) : hasC h 10 a0 = true ∧ XMC yX10_space cX10_space 3 (some .int) 10 [.ref a0, .int a1, .int a2] h r := by
  unfold fX10_space_t at hr
  obtain ⟨hc, hr⟩ := if_some hr
  refine ⟨hc, xmc_of (l0 := [(0, .ref a0), (1, .int a1), (2, .int a2)]) rfl pn_X10 (Nat.le_of_ble_eq_true rfl) (fun Y X C E O => go_run hr ?_)⟩
  have C : CT Y X RX10 cX10_space 3 := C
  refine go_aload_n (pc := 0) C 0 dX10_space_0 rfl ?_
  refine go_gR (pc := 1) C fdX10_16 dX10_space_1 (fun x1 => ?_)
  refine go_iload_n (pc := 4) C 1 dX10_space_4 rfl ?_
  refine go_bind (fun q2 hq2 => ?_)
  refine go_callV (rest := []) (st' := [.int (b2i q2)]) (c' := 0) (s' := 0) (pc := 5) C O miX10_138 mvX9_hasSpace [.int a1] rfl (mX9_hasSpace hq2).1 (mX9_hasSpace hq2).2 dX10_space_5 ⟨by decide, by decide, by decide, by decide⟩ rfl (Nat.le_of_ble_eq_true rfl) rfl ⟨rfl, rfl⟩ ?_
  refine go_ifZ_ne (pc := 8) C 19 dX10_space_8 (by decide) (fun _ => ?_) (fun _ => ?_)
  · refine go_iload_n (pc := 19) C 2 dX10_space_19 rfl ?_
    refine go_ite (fun hc3 => ?_) (fun hc3 => ?_)
    · refine go_tsw (pc := 20) C 52 0 hc3 dX10_space_20 (by decide) (by decide) rfl (by decide) ?_
      exact go_none _ _ _
    · refine go_ite (fun hc4 => ?_) (fun hc4 => ?_)
      · refine go_tsw (pc := 20) C 61 1 hc4 dX10_space_20 (by decide) (by decide) rfl (by decide) ?_
        exact go_none _ _ _
      · refine go_ite (fun hc5 => ?_) (fun hc5 => ?_)
        · refine go_tsw (pc := 20) C 78 2 hc5 dX10_space_20 (by decide) (by decide) rfl (by decide) ?_
          exact go_none _ _ _
        · refine go_ite (fun hc6 => ?_) (fun hc6 => ?_)
          · refine go_tsw (pc := 20) C 87 3 hc6 dX10_space_20 (by decide) (by decide) rfl (by decide) ?_
            exact go_none _ _ _
          · refine go_tsw_else (pc := 20) C 111 [0, 1, 2, 3] dX10_space_20 (fun v hv => by simp only [List.mem_cons, List.not_mem_nil, or_false] at hv; rcases hv with rfl | rfl | rfl | rfl <;> first | exact i32_ne hc3 (by decide) | exact i32_ne hc4 (by decide) | exact i32_ne hc5 (by decide) | exact i32_ne hc6 (by decide)) (by decide) (by decide) (by decide) ?_
            exact go_throw (pc := 111) C E O (by decide) w_1203 w_106 (Nat.le_of_ble_eq_true rfl) dX10_space_111 dX10_space_114 dX10_space_115 dX10_space_118
  · exact go_throw (pc := 11) C E O (by decide) w_1203 w_106 (Nat.le_of_ble_eq_true rfl) dX10_space_11 dX10_space_14 dX10_space_15 dX10_space_18
theorem dX10_object_11 : decode cX10_object 11 = .ok (.new 142, 3) := by decide +kernel
theorem dX10_object_14 : decode cX10_object 14 = .ok (.dup, 1) := by decide +kernel
theorem dX10_object_15 : decode cX10_object 15 = .ok (.invokespecial 144, 3) := by decide +kernel
theorem dX10_object_18 : decode cX10_object 18 = .ok (.athrow, 1) := by decide +kernel
theorem dX10_object_127 : decode cX10_object 127 = .ok (.new 142, 3) := by decide +kernel
theorem dX10_object_130 : decode cX10_object 130 = .ok (.dup, 1) := by decide +kernel
theorem dX10_object_131 : decode cX10_object 131 = .ok (.invokespecial 144, 3) := by decide +kernel
theorem dX10_object_134 : decode cX10_object 134 = .ok (.athrow, 1) := by decide +kernel
def fX10_object_t (h : AH) (a0 : Nat) (a1 : Int32) (a2 : Int32) : Option AH :=
  if hasC h 10 a0 = true then (
    (gR h 10 a0 2).bind fun x1 =>
    (fX9_hasObject h x1 a1).bind fun q2 =>
    if q2 = true then (
      if a2 = 0 then (
        none
      ) else (
        if a2 = 1 then (
          none
        ) else (
          if a2 = 2 then (
            none
          ) else (
            if a2 = 3 then (
              none
            ) else (
              if a2 = 4 then (
                none
              ) else (
                if a2 = 5 then (
                  none
                ) else (
                  if a2 = 6 then (
                    none
                  ) else (
                    some h)))))))
    ) else (
      some h
    )
  ) else none
set_option maxHeartbeats 4000000 in
theorem mX10_object_t {h : AH} {a0 : Nat} {a1 : Int32} {a2 : Int32} {r : AH} (hr : fX10_object_t h a0 a1 a2 = some r) : hasC h 10 a0 = true ∧ XMC yX10_object cX10_object 3 (some .int) 10 [.ref a0, .int a1, .int a2] h r := by
  unfold fX10_object_t at hr
  obtain ⟨hc, hr⟩ := if_some hr
  refine ⟨hc, xmc_of (l0 := [(0, .ref a0), (1, .int a1), (2, .int a2)]) rfl pn_X10 (Nat.le_of_ble_eq_true rfl) (fun Y X C E O => go_run hr ?_)⟩
  have C : CT Y X RX10 cX10_object 3 := C
  refine go_aload_n (pc := 0) C 0 dX10_object_0 rfl ?_
  refine go_gR (pc := 1) C fdX10_16 dX10_object_1 (fun x1 => ?_)
  refine go_iload_n (pc := 4) C 1 dX10_object_4 rfl ?_
  refine go_bind (fun q2 hq2 => ?_)
  refine go_callV (rest := []) (st' := [.int (b2i q2)]) (c' := 0) (s' := 0) (pc := 5) C O miX10_162 mvX9_hasObject [.int a1] rfl (mX9_hasObject hq2).1 (mX9_hasObject hq2).2 dX10_object_5 ⟨by decide, by decide, by decide, by decide⟩ rfl (Nat.le_of_ble_eq_true rfl) rfl ⟨rfl, rfl⟩ ?_
  refine go_ifZ_ne (pc := 8) C 19 dX10_object_8 (by decide) (fun _ => ?_) (fun _ => ?_)
  · refine go_iload_n (pc := 19) C 2 dX10_object_19 rfl ?_
    refine go_ite (fun hc3 => ?_) (fun hc3 => ?_)
    · refine go_tsw (pc := 20) C 64 0 hc3 dX10_object_20 (by decide) (by decide) rfl (by decide) ?_
      exact go_none _ _ _
    · refine go_ite (fun hc4 => ?_) (fun hc4 => ?_)
      · refine go_tsw (pc := 20) C 73 1 hc4 dX10_object_20 (by decide) (by decide) rfl (by decide) ?_
        exact go_none _ _ _
      · refine go_ite (fun hc5 => ?_) (fun hc5 => ?_)
        · refine go_tsw (pc := 20) C 82 2 hc5 dX10_object_20 (by decide) (by decide) rfl (by decide) ?_
          exact go_none _ _ _
        · refine go_ite (fun hc6 => ?_) (fun hc6 => ?_)
          · refine go_tsw (pc := 20) C 91 3 hc6 dX10_object_20 (by decide) (by decide) rfl (by decide) ?_
            exact go_none _ _ _
          · refine go_ite (fun hc7 => ?_) (fun hc7 => ?_)
            · refine go_tsw (pc := 20) C 100 4 hc7 dX10_object_20 (by decide) (by decide) rfl (by decide) ?_
              exact go_none _ _ _
            · refine go_ite (fun hc8 => ?_) (fun hc8 => ?_)
              · refine go_tsw (pc := 20) C 109 5 hc8 dX10_object_20 (by decide) (by decide) rfl (by decide) ?_
                exact go_none _ _ _
              · refine go_ite (fun hc9 => ?_) (fun hc9 => ?_)
                · refine go_tsw (pc := 20) C 118 6 hc9 dX10_object_20 (by decide) (by decide) rfl (by decide) ?_
                  exact go_none _ _ _
                · refine go_tsw_else (pc := 20) C 127 [0, 1, 2, 3, 4, 5, 6] dX10_object_20 (fun v hv => by simp only [List.mem_cons, List.not_mem_nil, or_false] at hv; rcases hv with rfl | rfl | rfl | rfl | rfl | rfl | rfl <;> first | exact i32_ne hc3 (by decide) | exact i32_ne hc4 (by decide) | exact i32_ne hc5 (by decide) | exact i32_ne hc6 (by decide) | exact i32_ne hc7 (by decide) | exact i32_ne hc8 (by decide) | exact i32_ne hc9 (by decide)) (by decide) (by decide) (by decide) ?_
                  exact go_throw (pc := 127) C E O (by decide) w_1203 w_106 (Nat.le_of_ble_eq_true rfl) dX10_object_127 dX10_object_130 dX10_object_131 dX10_object_134
  · exact go_throw (pc := 11) C E O (by decide) w_1203 w_106 (Nat.le_of_ble_eq_true rfl) dX10_object_11 dX10_object_14 dX10_object_15 dX10_object_18
theorem dX10_page_12 : decode cX10_page 12 = .ok (.new 142, 3) := by decide +kernel
theorem dX10_page_15 : decode cX10_page 15 = .ok (.dup, 1) := by decide +kernel
theorem dX10_page_16 : decode cX10_page 16 = .ok (.invokespecial 144, 3) := by decide +kernel
theorem dX10_page_19 : decode cX10_page 19 = .ok (.athrow, 1) := by decide +kernel
def fX10_page_t (h : AH) (a0 : Nat) (a1 : Int32) (a2 : Int32) : Option AH :=
  if hasC h 10 a0 = true then (
    (gR h 10 a0 2).bind fun x1 =>
    (fX9_holds h x1 a1 a2).bind fun q2 =>
    if q2 = true then (
      none
    ) else (
      some h
    )
  ) else none
set_option maxHeartbeats 4000000 in
theorem mX10_page_t {h : AH} {a0 : Nat} {a1 : Int32} {a2 : Int32} {r : AH} (hr : fX10_page_t h a0 a1 a2 = some r) : hasC h 10 a0 = true ∧ XMC yX10_page cX10_page 3 (some .int) 10 [.ref a0, .int a1, .int a2] h r := by
  unfold fX10_page_t at hr
  obtain ⟨hc, hr⟩ := if_some hr
  refine ⟨hc, xmc_of (l0 := [(0, .ref a0), (1, .int a1), (2, .int a2)]) rfl pn_X10 (Nat.le_of_ble_eq_true rfl) (fun Y X C E O => go_run hr ?_)⟩
  have C : CT Y X RX10 cX10_page 3 := C
  refine go_aload_n (pc := 0) C 0 dX10_page_0 rfl ?_
  refine go_gR (pc := 1) C fdX10_16 dX10_page_1 (fun x1 => ?_)
  refine go_iload_n (pc := 4) C 1 dX10_page_4 rfl ?_
  refine go_iload_n (pc := 5) C 2 dX10_page_5 rfl ?_
  refine go_bind (fun q2 hq2 => ?_)
  refine go_callV (rest := []) (st' := [.int (b2i q2)]) (c' := 0) (s' := 0) (pc := 6) C O miX10_186 mvX9_holds [.int a1, .int a2] rfl (mX9_holds hq2).1 (mX9_holds hq2).2 dX10_page_6 ⟨by decide, by decide, by decide, by decide⟩ rfl (Nat.le_of_ble_eq_true rfl) rfl ⟨rfl, rfl⟩ ?_
  refine go_ifZ_ne (pc := 9) C 20 dX10_page_9 (by decide) (fun _ => ?_) (fun _ => ?_)
  · exact go_none _ _ _
  · exact go_throw (pc := 12) C E O (by decide) w_1203 w_106 (Nat.le_of_ble_eq_true rfl) dX10_page_12 dX10_page_15 dX10_page_16 dX10_page_19
theorem dX10_row_11 : decode cX10_row 11 = .ok (.new 142, 3) := by decide +kernel
theorem dX10_row_14 : decode cX10_row 14 = .ok (.dup, 1) := by decide +kernel
theorem dX10_row_15 : decode cX10_row 15 = .ok (.invokespecial 144, 3) := by decide +kernel
theorem dX10_row_18 : decode cX10_row 18 = .ok (.athrow, 1) := by decide +kernel
def fX10_row_t (h : AH) (a0 : Nat) (a1 : Int32) : Option AH :=
  if hasC h 10 a0 = true then (
    (gR h 10 a0 8).bind fun x1 =>
    (fX5_has h x1 a1).bind fun q2 =>
    if q2 = true then (
      none
    ) else (
      some h
    )
  ) else none
set_option maxHeartbeats 4000000 in
theorem mX10_row_t {h : AH} {a0 : Nat} {a1 : Int32} {r : AH} (hr : fX10_row_t h a0 a1 = some r) : hasC h 10 a0 = true ∧ XMC yX10_row cX10_row 2 (some .long) 10 [.ref a0, .int a1] h r := by
  unfold fX10_row_t at hr
  obtain ⟨hc, hr⟩ := if_some hr
  refine ⟨hc, xmc_of (l0 := [(0, .ref a0), (1, .int a1)]) rfl pn_X10 (Nat.le_of_ble_eq_true rfl) (fun Y X C E O => go_run hr ?_)⟩
  have C : CT Y X RX10 cX10_row 2 := C
  refine go_aload_n (pc := 0) C 0 dX10_row_0 rfl ?_
  refine go_gR (pc := 1) C fdX10_50 dX10_row_1 (fun x1 => ?_)
  refine go_iload_n (pc := 4) C 1 dX10_row_4 rfl ?_
  refine go_bind (fun q2 hq2 => ?_)
  refine go_callV (rest := []) (st' := [.int (b2i q2)]) (c' := 0) (s' := 0) (pc := 5) C O miX10_401 mvX5_has [.int a1] rfl (mX5_has hq2).1 (mX5_has hq2).2 dX10_row_5 ⟨by decide, by decide, by decide, by decide⟩ rfl (Nat.le_of_ble_eq_true rfl) rfl ⟨rfl, rfl⟩ ?_
  refine go_ifZ_ne (pc := 8) C 19 dX10_row_8 (by decide) (fun _ => ?_) (fun _ => ?_)
  · exact go_none _ _ _
  · exact go_throw (pc := 11) C E O (by decide) w_1203 w_106 (Nat.le_of_ble_eq_true rfl) dX10_row_11 dX10_row_14 dX10_row_15 dX10_row_18
theorem dL_space_0 : decode cL_space 0 = .ok (.aload_n 3, 1) := by decide +kernel
theorem dL_space_1 : decode cL_space 1 = .ok (.iconst 0, 1) := by decide +kernel
theorem dL_space_2 : decode cL_space 2 = .ok (.aload_n 0, 1) := by decide +kernel
theorem dL_space_3 : decode cL_space 3 = .ok (.iload_n 1, 1) := by decide +kernel
theorem dL_space_4 : decode cL_space 4 = .ok (.iload_n 2, 1) := by decide +kernel
theorem dL_space_5 : decode cL_space 5 = .ok (.invokevirtual 7, 3) := by decide +kernel
theorem dL_space_8 : decode cL_space 8 = .ok (.i2l, 1) := by decide +kernel
theorem dL_space_9 : decode cL_space 9 = .ok (.lastore, 1) := by decide +kernel
theorem dL_space_10 : decode cL_space 10 = .ok (.goto 7, 3) := by decide +kernel
theorem dL_space_13 : decode cL_space 13 = .ok (.astore 4, 2) := by decide +kernel
theorem dL_space_15 : decode cL_space 15 = .ok (.iconst 1, 1) := by decide +kernel
theorem dL_space_16 : decode cL_space 16 = .ok (.ireturn, 1) := by decide +kernel
theorem dL_space_17 : decode cL_space 17 = .ok (.iconst 0, 1) := by decide +kernel
theorem dL_space_18 : decode cL_space 18 = .ok (.ireturn, 1) := by decide +kernel
theorem mL_space_ok {h h1 : AH} {a0 : Nat} {a1 : Int32} {a2 : Int32} {a3 : Nat} {q : Int32 × AH} (hq : fX10_space h a0 a1 a2 = some q) (hs : sJ q.2 a3 0 (Int32.toInt64 q.1) = some h1) : MCW yL_space cL_space 5 (some .int) [(0, 10, 13, 13)] 21 1 6 [.ref a0, .int a1, .int a2, .ref a3] h (some (.int 0)) h1 := by
  refine mcw_of (l0 := [(0, .ref a0), (1, .int a1), (2, .int a2), (3, .ref a3)]) rfl pn_L (Nat.le_of_ble_eq_true rfl) (fun Y X C E O => ?_)
  have C : CT Y X RL cL_space 5 := C
  refine go_run (a := ()) (res := some ()) rfl ?_
  refine go_aload_n (pc := 0) C 3 dL_space_0 rfl ?_
  refine go_iconst (pc := 1) C dL_space_1 ki_0 ?_
  refine go_aload_n (pc := 2) C 0 dL_space_2 rfl ?_
  refine go_iload_n (pc := 3) C 1 dL_space_3 rfl ?_
  refine go_iload_n (pc := 4) C 2 dL_space_4 rfl ?_
  refine go_callV (rest := [.int 0, .ref a3]) (st' := [.int q.1, .int 0, .ref a3]) (c' := 0) (s' := 0) (pc := 5) C O miL_7 mvX10_space [.int a1, .int a2] rfl (mX10_space hq).1 (mX10_space hq).2 dL_space_5 ⟨by decide, by decide, by decide, by decide⟩ rfl (Nat.le_of_ble_eq_true rfl) rfl ⟨rfl, rfl⟩ ?_
  refine go_i2l (pc := 8) C dL_space_8 ?_
  intro hr H locs la hH hS hl
  have hk : GO Y X 5 () h1 0 0 10 [(0, .ref a0), (1, .int a1), (2, .int a2), (3, .ref a3)] [] (some ()) := by
    refine go_goto (pc := 10) C 17 dL_space_10 (by decide) ?_
    refine go_iconst (pc := 17) C dL_space_17 ki_0 ?_
    refine go_widen (c2 := 1) (s2 := 6) (by decide) (by decide) ?_
    exact go_aw (aw_iretx C E dL_space_18)
  exact aw_last C dL_space_9 hs (hk rfl) H locs la hH hS hl
theorem mL_space_thr {h h1 : AH} {a0 : Nat} {a1 : Int32} {a2 : Int32} {a3 : Nat} (hq : fX10_space_t h a0 a1 a2 = some h1) : MCW yL_space cL_space 5 (some .int) [(0, 10, 13, 13)] 21 1 6 [.ref a0, .int a1, .int a2, .ref a3] h (some (.int 1)) (h1.1, h1.2 + 1) := by
  refine mcw_of (l0 := [(0, .ref a0), (1, .int a1), (2, .int a2), (3, .ref a3)]) rfl pn_L (Nat.le_of_ble_eq_true rfl) (fun Y X C E O => ?_)
  have C : CT Y X RL cL_space 5 := C
  refine go_run (a := ()) (res := some ()) rfl ?_
  refine go_aload_n (pc := 0) C 3 dL_space_0 rfl ?_
  refine go_iconst (pc := 1) C dL_space_1 ki_0 ?_
  refine go_aload_n (pc := 2) C 0 dL_space_2 rfl ?_
  refine go_iload_n (pc := 3) C 1 dL_space_3 rfl ?_
  refine go_iload_n (pc := 4) C 2 dL_space_4 rfl ?_
  refine go_aw (aw_callX (pc := 5) (rest := [.int 0, .ref a3]) C O E.2.2.2 E.2.2.1 (by decide) (by decide) w_1198 miL_7 mvX10_space [.int a1, .int a2] rfl (mX10_space_t hq).1 (mX10_space_t hq).2 dL_space_5 ⟨by decide, by decide, by decide, by decide⟩ rfl (Nat.le_of_ble_eq_true rfl) (fun H1 locs1 la q hH hS hl => ?_))
  exact aw_hand (ls := [(0, .ref a0), (1, .int a1), (2, .int a2), (3, .ref a3)]) (w := 2) C E hH hS hl (by decide) (Or.inl ⟨dL_space_13, rfl⟩) dL_space_15 dL_space_16
def fL_space (h : AH) (a0 : Nat) (a1 : Int32) (a2 : Int32) (a3 : Nat) : Option (Int32 × AH) := match fX10_space h a0 a1 a2 with
  | some q => (sJ q.2 a3 0 (Int32.toInt64 q.1)).bind fun h1 => some (0, h1)
  | none => (fX10_space_t h a0 a1 a2).bind fun h1 => some (1, (h1.1, h1.2 + 1))
theorem mL_space {h : AH} {a0 : Nat} {a1 : Int32} {a2 : Int32} {a3 : Nat} {r : Int32 × AH} (hr : fL_space h a0 a1 a2 a3 = some r) : MCW yL_space cL_space 5 (some .int) [(0, 10, 13, 13)] 21 1 6 [.ref a0, .int a1, .int a2, .ref a3] h (some (.int r.1)) r.2 := by
  unfold fL_space at hr
  split at hr
  · rename_i q hq
    obtain ⟨h1, hs, hr⟩ := Option.bind_eq_some_iff.mp hr
    cases hr
    exact mL_space_ok hq hs
  · obtain ⟨h1, hs, hr⟩ := Option.bind_eq_some_iff.mp hr
    cases hr
    exact mL_space_thr hs
theorem dL_object_0 : decode cL_object 0 = .ok (.aload_n 3, 1) := by decide +kernel
theorem dL_object_1 : decode cL_object 1 = .ok (.iconst 0, 1) := by decide +kernel
theorem dL_object_2 : decode cL_object 2 = .ok (.aload_n 0, 1) := by decide +kernel
theorem dL_object_3 : decode cL_object 3 = .ok (.iload_n 1, 1) := by decide +kernel
theorem dL_object_4 : decode cL_object 4 = .ok (.iload_n 2, 1) := by decide +kernel
theorem dL_object_5 : decode cL_object 5 = .ok (.invokevirtual 15, 3) := by decide +kernel
theorem dL_object_8 : decode cL_object 8 = .ok (.i2l, 1) := by decide +kernel
theorem dL_object_9 : decode cL_object 9 = .ok (.lastore, 1) := by decide +kernel
theorem dL_object_10 : decode cL_object 10 = .ok (.goto 7, 3) := by decide +kernel
theorem dL_object_13 : decode cL_object 13 = .ok (.astore 4, 2) := by decide +kernel
theorem dL_object_15 : decode cL_object 15 = .ok (.iconst 1, 1) := by decide +kernel
theorem dL_object_16 : decode cL_object 16 = .ok (.ireturn, 1) := by decide +kernel
theorem dL_object_17 : decode cL_object 17 = .ok (.iconst 0, 1) := by decide +kernel
theorem dL_object_18 : decode cL_object 18 = .ok (.ireturn, 1) := by decide +kernel
theorem mL_object_ok {h h1 : AH} {a0 : Nat} {a1 : Int32} {a2 : Int32} {a3 : Nat} {q : Int32 × AH} (hq : fX10_object h a0 a1 a2 = some q) (hs : sJ q.2 a3 0 (Int32.toInt64 q.1) = some h1) : MCW yL_object cL_object 5 (some .int) [(0, 10, 13, 13)] 21 1 6 [.ref a0, .int a1, .int a2, .ref a3] h (some (.int 0)) h1 := by
  refine mcw_of (l0 := [(0, .ref a0), (1, .int a1), (2, .int a2), (3, .ref a3)]) rfl pn_L (Nat.le_of_ble_eq_true rfl) (fun Y X C E O => ?_)
  have C : CT Y X RL cL_object 5 := C
  refine go_run (a := ()) (res := some ()) rfl ?_
  refine go_aload_n (pc := 0) C 3 dL_object_0 rfl ?_
  refine go_iconst (pc := 1) C dL_object_1 ki_0 ?_
  refine go_aload_n (pc := 2) C 0 dL_object_2 rfl ?_
  refine go_iload_n (pc := 3) C 1 dL_object_3 rfl ?_
  refine go_iload_n (pc := 4) C 2 dL_object_4 rfl ?_
  refine go_callV (rest := [.int 0, .ref a3]) (st' := [.int q.1, .int 0, .ref a3]) (c' := 0) (s' := 0) (pc := 5) C O miL_15 mvX10_object [.int a1, .int a2] rfl (mX10_object hq).1 (mX10_object hq).2 dL_object_5 ⟨by decide, by decide, by decide, by decide⟩ rfl (Nat.le_of_ble_eq_true rfl) rfl ⟨rfl, rfl⟩ ?_
  refine go_i2l (pc := 8) C dL_object_8 ?_
  intro hr H locs la hH hS hl
  have hk : GO Y X 5 () h1 0 0 10 [(0, .ref a0), (1, .int a1), (2, .int a2), (3, .ref a3)] [] (some ()) := by
    refine go_goto (pc := 10) C 17 dL_object_10 (by decide) ?_
    refine go_iconst (pc := 17) C dL_object_17 ki_0 ?_
    refine go_widen (c2 := 1) (s2 := 6) (by decide) (by decide) ?_
    exact go_aw (aw_iretx C E dL_object_18)
  exact aw_last C dL_object_9 hs (hk rfl) H locs la hH hS hl
theorem mL_object_thr {h h1 : AH} {a0 : Nat} {a1 : Int32} {a2 : Int32} {a3 : Nat} (hq : fX10_object_t h a0 a1 a2 = some h1) : MCW yL_object cL_object 5 (some .int) [(0, 10, 13, 13)] 21 1 6 [.ref a0, .int a1, .int a2, .ref a3] h (some (.int 1)) (h1.1, h1.2 + 1) := by
  refine mcw_of (l0 := [(0, .ref a0), (1, .int a1), (2, .int a2), (3, .ref a3)]) rfl pn_L (Nat.le_of_ble_eq_true rfl) (fun Y X C E O => ?_)
  have C : CT Y X RL cL_object 5 := C
  refine go_run (a := ()) (res := some ()) rfl ?_
  refine go_aload_n (pc := 0) C 3 dL_object_0 rfl ?_
  refine go_iconst (pc := 1) C dL_object_1 ki_0 ?_
  refine go_aload_n (pc := 2) C 0 dL_object_2 rfl ?_
  refine go_iload_n (pc := 3) C 1 dL_object_3 rfl ?_
  refine go_iload_n (pc := 4) C 2 dL_object_4 rfl ?_
  refine go_aw (aw_callX (pc := 5) (rest := [.int 0, .ref a3]) C O E.2.2.2 E.2.2.1 (by decide) (by decide) w_1198 miL_15 mvX10_object [.int a1, .int a2] rfl (mX10_object_t hq).1 (mX10_object_t hq).2 dL_object_5 ⟨by decide, by decide, by decide, by decide⟩ rfl (Nat.le_of_ble_eq_true rfl) (fun H1 locs1 la q hH hS hl => ?_))
  exact aw_hand (ls := [(0, .ref a0), (1, .int a1), (2, .int a2), (3, .ref a3)]) (w := 2) C E hH hS hl (by decide) (Or.inl ⟨dL_object_13, rfl⟩) dL_object_15 dL_object_16
def fL_object (h : AH) (a0 : Nat) (a1 : Int32) (a2 : Int32) (a3 : Nat) : Option (Int32 × AH) := match fX10_object h a0 a1 a2 with
  | some q => (sJ q.2 a3 0 (Int32.toInt64 q.1)).bind fun h1 => some (0, h1)
  | none => (fX10_object_t h a0 a1 a2).bind fun h1 => some (1, (h1.1, h1.2 + 1))
theorem mL_object {h : AH} {a0 : Nat} {a1 : Int32} {a2 : Int32} {a3 : Nat} {r : Int32 × AH} (hr : fL_object h a0 a1 a2 a3 = some r) : MCW yL_object cL_object 5 (some .int) [(0, 10, 13, 13)] 21 1 6 [.ref a0, .int a1, .int a2, .ref a3] h (some (.int r.1)) r.2 := by
  unfold fL_object at hr
  split at hr
  · rename_i q hq
    obtain ⟨h1, hs, hr⟩ := Option.bind_eq_some_iff.mp hr
    cases hr
    exact mL_object_ok hq hs
  · obtain ⟨h1, hs, hr⟩ := Option.bind_eq_some_iff.mp hr
    cases hr
    exact mL_object_thr hs
theorem dL_page_0 : decode cL_page 0 = .ok (.aload_n 3, 1) := by decide +kernel
theorem dL_page_1 : decode cL_page 1 = .ok (.iconst 0, 1) := by decide +kernel
theorem dL_page_2 : decode cL_page 2 = .ok (.aload_n 0, 1) := by decide +kernel
theorem dL_page_3 : decode cL_page 3 = .ok (.iload_n 1, 1) := by decide +kernel
theorem dL_page_4 : decode cL_page 4 = .ok (.iload_n 2, 1) := by decide +kernel
theorem dL_page_5 : decode cL_page 5 = .ok (.invokevirtual 18, 3) := by decide +kernel
theorem dL_page_8 : decode cL_page 8 = .ok (.i2l, 1) := by decide +kernel
theorem dL_page_9 : decode cL_page 9 = .ok (.lastore, 1) := by decide +kernel
theorem dL_page_10 : decode cL_page 10 = .ok (.goto 7, 3) := by decide +kernel
theorem dL_page_13 : decode cL_page 13 = .ok (.astore 4, 2) := by decide +kernel
theorem dL_page_15 : decode cL_page 15 = .ok (.iconst 1, 1) := by decide +kernel
theorem dL_page_16 : decode cL_page 16 = .ok (.ireturn, 1) := by decide +kernel
theorem dL_page_17 : decode cL_page 17 = .ok (.iconst 0, 1) := by decide +kernel
theorem dL_page_18 : decode cL_page 18 = .ok (.ireturn, 1) := by decide +kernel
theorem mL_page_ok {h h1 : AH} {a0 : Nat} {a1 : Int32} {a2 : Int32} {a3 : Nat} {q : Int32 × AH} (hq : fX10_page h a0 a1 a2 = some q) (hs : sJ q.2 a3 0 (Int32.toInt64 q.1) = some h1) : MCW yL_page cL_page 5 (some .int) [(0, 10, 13, 13)] 21 1 6 [.ref a0, .int a1, .int a2, .ref a3] h (some (.int 0)) h1 := by
  refine mcw_of (l0 := [(0, .ref a0), (1, .int a1), (2, .int a2), (3, .ref a3)]) rfl pn_L (Nat.le_of_ble_eq_true rfl) (fun Y X C E O => ?_)
  have C : CT Y X RL cL_page 5 := C
  refine go_run (a := ()) (res := some ()) rfl ?_
  refine go_aload_n (pc := 0) C 3 dL_page_0 rfl ?_
  refine go_iconst (pc := 1) C dL_page_1 ki_0 ?_
  refine go_aload_n (pc := 2) C 0 dL_page_2 rfl ?_
  refine go_iload_n (pc := 3) C 1 dL_page_3 rfl ?_
  refine go_iload_n (pc := 4) C 2 dL_page_4 rfl ?_
  refine go_callV (rest := [.int 0, .ref a3]) (st' := [.int q.1, .int 0, .ref a3]) (c' := 0) (s' := 0) (pc := 5) C O miL_18 mvX10_page [.int a1, .int a2] rfl (mX10_page hq).1 (mX10_page hq).2 dL_page_5 ⟨by decide, by decide, by decide, by decide⟩ rfl (Nat.le_of_ble_eq_true rfl) rfl ⟨rfl, rfl⟩ ?_
  refine go_i2l (pc := 8) C dL_page_8 ?_
  intro hr H locs la hH hS hl
  have hk : GO Y X 5 () h1 0 0 10 [(0, .ref a0), (1, .int a1), (2, .int a2), (3, .ref a3)] [] (some ()) := by
    refine go_goto (pc := 10) C 17 dL_page_10 (by decide) ?_
    refine go_iconst (pc := 17) C dL_page_17 ki_0 ?_
    refine go_widen (c2 := 1) (s2 := 6) (by decide) (by decide) ?_
    exact go_aw (aw_iretx C E dL_page_18)
  exact aw_last C dL_page_9 hs (hk rfl) H locs la hH hS hl
theorem mL_page_thr {h h1 : AH} {a0 : Nat} {a1 : Int32} {a2 : Int32} {a3 : Nat} (hq : fX10_page_t h a0 a1 a2 = some h1) : MCW yL_page cL_page 5 (some .int) [(0, 10, 13, 13)] 21 1 6 [.ref a0, .int a1, .int a2, .ref a3] h (some (.int 1)) (h1.1, h1.2 + 1) := by
  refine mcw_of (l0 := [(0, .ref a0), (1, .int a1), (2, .int a2), (3, .ref a3)]) rfl pn_L (Nat.le_of_ble_eq_true rfl) (fun Y X C E O => ?_)
  have C : CT Y X RL cL_page 5 := C
  refine go_run (a := ()) (res := some ()) rfl ?_
  refine go_aload_n (pc := 0) C 3 dL_page_0 rfl ?_
  refine go_iconst (pc := 1) C dL_page_1 ki_0 ?_
  refine go_aload_n (pc := 2) C 0 dL_page_2 rfl ?_
  refine go_iload_n (pc := 3) C 1 dL_page_3 rfl ?_
  refine go_iload_n (pc := 4) C 2 dL_page_4 rfl ?_
  refine go_aw (aw_callX (pc := 5) (rest := [.int 0, .ref a3]) C O E.2.2.2 E.2.2.1 (by decide) (by decide) w_1198 miL_18 mvX10_page [.int a1, .int a2] rfl (mX10_page_t hq).1 (mX10_page_t hq).2 dL_page_5 ⟨by decide, by decide, by decide, by decide⟩ rfl (Nat.le_of_ble_eq_true rfl) (fun H1 locs1 la q hH hS hl => ?_))
  exact aw_hand (ls := [(0, .ref a0), (1, .int a1), (2, .int a2), (3, .ref a3)]) (w := 2) C E hH hS hl (by decide) (Or.inl ⟨dL_page_13, rfl⟩) dL_page_15 dL_page_16
def fL_page (h : AH) (a0 : Nat) (a1 : Int32) (a2 : Int32) (a3 : Nat) : Option (Int32 × AH) := match fX10_page h a0 a1 a2 with
  | some q => (sJ q.2 a3 0 (Int32.toInt64 q.1)).bind fun h1 => some (0, h1)
  | none => (fX10_page_t h a0 a1 a2).bind fun h1 => some (1, (h1.1, h1.2 + 1))
theorem mL_page {h : AH} {a0 : Nat} {a1 : Int32} {a2 : Int32} {a3 : Nat} {r : Int32 × AH} (hr : fL_page h a0 a1 a2 a3 = some r) : MCW yL_page cL_page 5 (some .int) [(0, 10, 13, 13)] 21 1 6 [.ref a0, .int a1, .int a2, .ref a3] h (some (.int r.1)) r.2 := by
  unfold fL_page at hr
  split at hr
  · rename_i q hq
    obtain ⟨h1, hs, hr⟩ := Option.bind_eq_some_iff.mp hr
    cases hr
    exact mL_page_ok hq hs
  · obtain ⟨h1, hs, hr⟩ := Option.bind_eq_some_iff.mp hr
    cases hr
    exact mL_page_thr hs
theorem dL_row_0 : decode cL_row 0 = .ok (.aload_n 2, 1) := by decide +kernel
theorem dL_row_1 : decode cL_row 1 = .ok (.iconst 0, 1) := by decide +kernel
theorem dL_row_2 : decode cL_row 2 = .ok (.aload_n 0, 1) := by decide +kernel
theorem dL_row_3 : decode cL_row 3 = .ok (.iload_n 1, 1) := by decide +kernel
theorem dL_row_4 : decode cL_row 4 = .ok (.invokevirtual 21, 3) := by decide +kernel
theorem dL_row_7 : decode cL_row 7 = .ok (.lastore, 1) := by decide +kernel
theorem dL_row_8 : decode cL_row 8 = .ok (.goto 6, 3) := by decide +kernel
theorem dL_row_11 : decode cL_row 11 = .ok (.astore_n 3, 1) := by decide +kernel
theorem dL_row_12 : decode cL_row 12 = .ok (.iconst 1, 1) := by decide +kernel
theorem dL_row_13 : decode cL_row 13 = .ok (.ireturn, 1) := by decide +kernel
theorem dL_row_14 : decode cL_row 14 = .ok (.iconst 0, 1) := by decide +kernel
theorem dL_row_15 : decode cL_row 15 = .ok (.ireturn, 1) := by decide +kernel
theorem mL_row_ok {h h1 : AH} {a0 : Nat} {a1 : Int32} {a2 : Nat} {q : Int64 × AH} (hq : fX10_row h a0 a1 = some q) (hs : sJ q.2 a2 0 q.1 = some h1) : MCW yL_row cL_row 4 (some .int) [(0, 8, 11, 13)] 21 1 6 [.ref a0, .int a1, .ref a2] h (some (.int 0)) h1 := by
  refine mcw_of (l0 := [(0, .ref a0), (1, .int a1), (2, .ref a2)]) rfl pn_L (Nat.le_of_ble_eq_true rfl) (fun Y X C E O => ?_)
  have C : CT Y X RL cL_row 4 := C
  refine go_run (a := ()) (res := some ()) rfl ?_
  refine go_aload_n (pc := 0) C 2 dL_row_0 rfl ?_
  refine go_iconst (pc := 1) C dL_row_1 ki_0 ?_
  refine go_aload_n (pc := 2) C 0 dL_row_2 rfl ?_
  refine go_iload_n (pc := 3) C 1 dL_row_3 rfl ?_
  refine go_callV (rest := [.int 0, .ref a2]) (st' := [.long q.1, .int 0, .ref a2]) (c' := 0) (s' := 0) (pc := 4) C O miL_21 mvX10_row [.int a1] rfl (mX10_row hq).1 (mX10_row hq).2 dL_row_4 ⟨by decide, by decide, by decide, by decide⟩ rfl (Nat.le_of_ble_eq_true rfl) rfl ⟨rfl, rfl⟩ ?_
  intro hr H locs la hH hS hl
  have hk : GO Y X 4 () h1 0 0 8 [(0, .ref a0), (1, .int a1), (2, .ref a2)] [] (some ()) := by
    refine go_goto (pc := 8) C 14 dL_row_8 (by decide) ?_
    refine go_iconst (pc := 14) C dL_row_14 ki_0 ?_
    refine go_widen (c2 := 1) (s2 := 6) (by decide) (by decide) ?_
    exact go_aw (aw_iretx C E dL_row_15)
  exact aw_last C dL_row_7 hs (hk rfl) H locs la hH hS hl
theorem mL_row_thr {h h1 : AH} {a0 : Nat} {a1 : Int32} {a2 : Nat} (hq : fX10_row_t h a0 a1 = some h1) : MCW yL_row cL_row 4 (some .int) [(0, 8, 11, 13)] 21 1 6 [.ref a0, .int a1, .ref a2] h (some (.int 1)) (h1.1, h1.2 + 1) := by
  refine mcw_of (l0 := [(0, .ref a0), (1, .int a1), (2, .ref a2)]) rfl pn_L (Nat.le_of_ble_eq_true rfl) (fun Y X C E O => ?_)
  have C : CT Y X RL cL_row 4 := C
  refine go_run (a := ()) (res := some ()) rfl ?_
  refine go_aload_n (pc := 0) C 2 dL_row_0 rfl ?_
  refine go_iconst (pc := 1) C dL_row_1 ki_0 ?_
  refine go_aload_n (pc := 2) C 0 dL_row_2 rfl ?_
  refine go_iload_n (pc := 3) C 1 dL_row_3 rfl ?_
  refine go_aw (aw_callX (pc := 4) (rest := [.int 0, .ref a2]) C O E.2.2.2 E.2.2.1 (by decide) (by decide) w_1198 miL_21 mvX10_row [.int a1] rfl (mX10_row_t hq).1 (mX10_row_t hq).2 dL_row_4 ⟨by decide, by decide, by decide, by decide⟩ rfl (Nat.le_of_ble_eq_true rfl) (fun H1 locs1 la q hH hS hl => ?_))
  exact aw_hand (ls := [(0, .ref a0), (1, .int a1), (2, .ref a2)]) (w := 1) C E hH hS hl (by decide) (Or.inr ⟨3, rfl, dL_row_11, rfl⟩) dL_row_12 dL_row_13
def fL_row (h : AH) (a0 : Nat) (a1 : Int32) (a2 : Nat) : Option (Int32 × AH) := match fX10_row h a0 a1 with
  | some q => (sJ q.2 a2 0 q.1).bind fun h1 => some (0, h1)
  | none => (fX10_row_t h a0 a1).bind fun h1 => some (1, (h1.1, h1.2 + 1))
theorem mL_row {h : AH} {a0 : Nat} {a1 : Int32} {a2 : Nat} {r : Int32 × AH} (hr : fL_row h a0 a1 a2 = some r) : MCW yL_row cL_row 4 (some .int) [(0, 8, 11, 13)] 21 1 6 [.ref a0, .int a1, .ref a2] h (some (.int r.1)) r.2 := by
  unfold fL_row at hr
  split at hr
  · rename_i q hq
    obtain ⟨h1, hs, hr⟩ := Option.bind_eq_some_iff.mp hr
    cases hr
    exact mL_row_ok hq hs
  · obtain ⟨h1, hs, hr⟩ := Option.bind_eq_some_iff.mp hr
    cases hr
    exact mL_row_thr hs
