/-! contracts: a method's entry; calls; new cells; copies -/
theorem lv_args_cL {Y : YT} : ∀ (vs : List Value) (i : Nat), lv_args i (vs.map (cv Y)) = cL Y (lv_args i vs)
  | [], _ => rfl
  | v :: vs, i => by
    show lv_args i (cv Y v :: vs.map (cv Y)) = cL Y ((i, v) :: lv_args _ vs)
    rw [lv_args, cv_cat', lv_args_cL vs]
    rfl
theorem lg_sl_len {Y : YT} : ∀ (vs : List Value), (lg_sl (vs.map (cv Y))).length = (vs.map fun v => v.category).sum
  | [] => rfl
  | v :: vs => by
    have ih := lg_sl_len (Y := Y) vs
    show (lg_sl (cv Y v :: vs.map (cv Y))).length = _
    have e : lg_sl (cv Y v :: vs.map (cv Y)) = (if (cv Y v).category = 2 then [.val (cv Y v), .second] else [.val (cv Y v)]) ++ lg_sl (vs.map (cv Y)) := rfl
    rw [e, List.length_append, ih, cv_cat', List.map_cons, List.sum_cons]
    rcases lv_cat v with h | h <;> simp [h]
/-- a method's contract out of its walk -/
theorem mc_of {y : MethodName} {cc : ByteArray} {nL : Nat} {ret : Option FieldType} {d mc ms : Nat} {av : List Value} {h : AH} {v : Option Value} {h' : AH} {l0 : List (Nat × Value)} (hl0 : lv_args 0 av = l0) (hy : plainName y.cls = true) (hlen : (av.map fun v => v.category).sum ≤ nL)
    (body : ∀ (Y : YT) (X : XT), CT Y X y.cls cc nL → RX Y X ret v h' mc ms → RO X d mc ms → X.2.2.2.2.2.2.2.2.1.name = y.name → AW Y X nL h 0 0 0 l0 []) : MC y cc nL ret d mc ms av h v h' := by
  subst hl0
  intro l Y hfl
  refine Met.ofW (cc := cc) (maxL := nL) (ret := ret) hy rfl ?_
  intro p e s m args below meth c s₁ B hml hv
  obtain ⟨rfl, hHR, hK, hz, hSX⟩ := hv
  have hts := atoms_spec (ws := Cond.code y cc nL ret :: TBL) B.pre
  have hown : s.vm.findClass y.cls = some m.cls := findClass_of_methodNamed B.named
  have hname : meth.name = y.name := (name_of_methodNamed B.named B.method).1
  have h1 := body Y (p, l, e, rmA d mc ms, s, m, (av.map (cv Y)).toArray, below, meth, c, MQ below (QR Y v h') (av.map (cv Y)).toArray s mc ms (AA Y))
    ⟨B.exec, B.bytes, hml, hown, fun w hw => hts w (List.mem_cons_of_mem _ hw), hK, B.notSynchronized, hz, hSX, hfl⟩ ⟨rfl, B.returns⟩ ⟨Nat.le_refl _, Nat.le_refl _, Nat.le_refl _, Nat.le_refl _⟩ hname
  have hl := lv_entry (av.map (cv Y)) (n := nL) (by rw [lg_sl_len]; exact hlen)
  rw [lg_entry_eq]
  rw [lv_args_cL] at hl
  exact h1 s.heap [] _ hHR va_S.rf hl
/-- what a call site knows of a method -/
def MI (own : String) (index : Nat) (y : MethodName) (cc : ByteArray) (nL : Nat) (ret : Option FieldType) (n : Nat) : Prop :=
  Cond.methodLink own index y ∈ TBL ∧ Cond.code y cc nL ret ∈ TBL ∧ Cond.initialized y.cls ∈ TBL ∧ (y.cls ≠ "java/lang/invoke/MethodHandle" ∧ y.cls ≠ "java/lang/invoke/VarHandle" ∧ (parseMethodDescriptor y.desc).map (fun d => d.parameters.length) = some n)
def MIN (own : String) (index : Nat) (y : MethodName) (host : String) (cc : ByteArray) (nL : Nat) (ret : Option FieldType) (n : Nat) : Prop :=
  (own, index, y, host) ∈ nestL ∧ Cond.code y cc nL ret ∈ TBL ∧ Cond.initialized y.cls ∈ TBL ∧ (y.cls ≠ "java/lang/invoke/MethodHandle" ∧ y.cls ≠ "java/lang/invoke/VarHandle" ∧ (parseMethodDescriptor y.desc).map (fun d => d.parameters.length) = some n)
def MIV (y : MethodName) (ci : Nat) : Prop := Cond.instanceMethod y ∈ TBL ∧ Cond.selects y.cls y y ∈ TBL ∧ ∃ (T : u_T) (N : Nat), classes[ci]? = some (y.cls, T, N)
section CALLS
variable {α : Type} {Y : YT} {X : XT} {own : String} {cc : ByteArray} {nL : Nat} {a : α} {h : AH} {cells slots : Nat} {pc : Nat} {ls ls' : List (Nat × Value)} {st rest : List Value} {res : Option α}
variable {index : Nat} {y : MethodName} {bytes : ByteArray} {maxL : Nat} {ret : Option FieldType} {n d mc ms : Nat} {av : List Value} {v : Option Value} {h1 : AH} {ci D0 MC0 MS0 : Nat} {host : String}
theorem aw_run {H : Heap} {locs : List Loc} {la : Array Slot} {as : Array Value} (hr : va_Run X.1 X.2.1 X.2.2.1 X.2.2.2.1 X.2.2.2.2.1 X.2.2.2.2.2.1 X.2.2.2.2.2.2.1 X.2.2.2.2.2.2.2.1 X.2.2.2.2.2.2.2.2.1 X.2.2.2.2.2.2.2.2.2.1 H locs cells slots mc ms (F0 X.2.2.2.2.2.1 pc la st) (rest.map (cv Y)) (QR Y v h1 as) (AA Y)) (hS : va_S (AA Y) X.2.2.2.2.1.heap H locs) (hl : lv_has la nL (cL Y ls))
    (kk : AW Y X nL h1 (cells + mc) (slots + ms) (pc + 3) ls (v.toList ++ rest)) : W X.1 X.2.1 X.2.2.1 X.2.2.2.1 X.2.2.2.2.1 X.2.2.2.2.2.1 X.2.2.2.2.2.2.1 X.2.2.2.2.2.2.2.1 X.2.2.2.2.2.2.2.2.1 X.2.2.2.2.2.2.2.2.2.1 H locs cells slots X.2.2.2.2.2.2.2.2.2.2 (F0 X.2.2.2.2.2.1 pc la st) := by
  intro T hT XS
  obtain ⟨v', st₀, t, T', L, h0, X', hL, e1, e2, ⟨hv, hH', hz, hk⟩, stp⟩ := hr T hT XS
  have hv' : v' = v.map (cv Y) := by injection hv
  subst hv'
  rw [h0] at hz hk
  obtain ⟨t2, a1, b1⟩ := kk T'.heap (locs ++ L) la (by rw [e1]; exact hH')
    ⟨Nat.le_trans hS.1 (by rw [e1]; exact hz), fun q g1 g2 => by rw [e1, hk q (Nat.lt_of_lt_of_le g1 hS.1) g2]; exact hS.2.1 q g1 g2, fun q hq => by
      rcases List.mem_append.mp hq with g | g
      · exact hS.2.2 q g
      · exact hL q g⟩ hl T' rfl X'
  refine ⟨t2, stp t2 ?_, b1⟩
  have e3 : (v.toList ++ rest).map (cv Y) = (v.map (cv Y)).toList ++ rest.map (cv Y) := by cases v <;> rfl
  rw [e3] at a1
  exact a1
theorem ct_pre {H : Heap} {locs : List Loc} (C : CT Y X own cc nL) (hH : HR Y h H) (hS : va_S (AA Y) X.2.2.2.2.1.heap H locs) : PreS X.2.2.2.2.1 H (va_Pc (av.map (cv Y)) (fun U => HR Y h U.heap ∧ va_K Y.2.2.2.1 classes (tysA Y) U ∧ Y.1 ≤ U.heap.size ∧ SX Y U U.heap)) (av.map (cv Y)) := by
  refine ⟨fun a U g mk q => ?_, fun U hU hW => ?_⟩
  · obtain ⟨q0, q1, q2, q3, q4⟩ := q
    exact ⟨q0, q1, va_K.moved (u := U) (U := U.calling g mk a) (Vm.Alike.refl U.vm) q2, q3, SX.same (u := U) rfl q4⟩
  · exact ⟨rfl, by rw [hU]; exact hH, va_K.moved hW.alike C.2.2.2.2.2.1, by rw [hU]; exact Nat.le_trans C.2.2.2.2.2.2.2.1 hS.1, by rw [hU]; exact SX.warm hW (SX.kept C.2.2.2.2.2.2.2.2.1 (fun q g1 g2 => hS.2.1 q g1 g2))⟩
theorem cat_ok (hc : (rest.map fun v => v.category).sum ≤ 8) (Y : YT) : ((rest.map (cv Y)).map fun v => v.category).sum ≤ 8 := by
  have e : (rest.map (cv Y)).map (fun v => v.category) = rest.map fun v => v.category := by
    rw [List.map_map]
    congr 1
    funext v
    exact cv_cat' v
  rw [e]
  exact hc
theorem ro_call (O : RO X D0 MC0 MS0) (hd : d + 1 ≤ D0) (hm : maxL ≤ 45) : (rmA d mc ms).frames + 1 ≤ X.2.2.2.1.frames ∧ 8 + (maxL + 11) + (rmA d mc ms).locals ≤ X.2.2.2.1.locals := by
  refine ⟨Nat.le_trans hd O.1, Nat.le_trans ?_ O.2.1⟩
  show 8 + (maxL + 11) + 64 * d ≤ 64 * D0
  omega
theorem ct_callB (C : CT Y X own cc nL) (M : MI own index y bytes maxL ret n) (O : RO X D0 MC0 MS0) (hd : d + 1 ≤ D0) (hm : maxL ≤ 45) : CallB X.2.2.2.1 X.2.2.2.2.1 X.2.2.2.2.2.2.1 own index y bytes maxL ret (Cond.code y bytes maxL ret :: TBL) (rmA d mc ms) mc ms n :=
  callB_of n C.2.2.2.2.1 (tbl_in M.2.1) rfl rfl rfl (C.2.2.2.2.1 _ M.2.2.1) (C.2.2.2.2.1 _ M.1) M.2.2.2 (ro_call O hd hm)
theorem ct_callN (C : CT Y X own cc nL) (M : MIN own index y host bytes maxL ret n) (O : RO X D0 MC0 MS0) (hd : d + 1 ≤ D0) (hm : maxL ≤ 45) : va_CN X.2.2.2.1 X.2.2.2.2.1 X.2.2.2.2.2.2.1 own index y host bytes maxL ret (Cond.code y bytes maxL ret :: TBL) (rmA d mc ms) mc ms n :=
  va_cnB n C.2.2.2.2.1 (tbl_in M.2.1) rfl rfl rfl (C.2.2.2.2.2.2.2.2.1.2.2.2.1 _ M.1) (C.2.2.2.2.1 _ M.2.2.1) M.2.2.2 (ro_call O hd hm)
theorem go_callS (C : CT Y X own cc nL) (O : RO X D0 MC0 MS0) (M : MI own index y bytes maxL ret n) (hs : Cond.static y ∈ TBL) (av : List Value) (hn : av.length = n) (hm : MC y bytes maxL ret d mc ms av h v h1) (hd : decode cc pc = .ok (.invokestatic index, 3)) (hR : d + 1 ≤ D0 ∧ maxL ≤ 45 ∧ cells + mc ≤ MC0 ∧ slots + ms ≤ MS0) (hst : st = av.reverse ++ rest) (hc : (rest.map fun v => v.category).sum ≤ 8)
    {st' : List Value} {c' s' : Nat} (hsh : v.toList ++ rest = st') (hcs : cells + mc = c' ∧ slots + ms = s') (kk : GO Y X nL a h1 c' s' (pc + 3) ls st' res) : GO Y X nL a h cells slots pc ls st res := by
  subst hst
  subst hsh
  obtain ⟨hcs1, hcs2⟩ := hcs
  subst hcs1
  subst hcs2
  intro hr H locs la hH hS hl
  refine aw_run (Y := Y) (X := X) (ls := ls) (rest := rest) (va_runS (As := av.map (cv Y)) ⟨C.1, C.2.1, C.2.2.1, C.2.2.2.1, C.2.2.2.2.1⟩ (hm X.2.1 Y C.2.2.2.2.2.2.2.2.2) ⟨ct_callB C M O hR.1 hR.2.1, C.2.2.2.2.1 _ hs⟩ (ct_pre C hH hS) rfl (by rw [List.length_map]; exact hn) hl.1 ?_ (lv_room (cat_ok hc Y)) hd ⟨Nat.le_trans hR.2.2.1 O.2.2.1, Nat.le_trans hR.2.2.2 O.2.2.2⟩) hS hl (kk hr)
  show (av.reverse ++ rest).map (cv Y) = _
  rw [List.map_append, List.map_reverse]
theorem go_callSN (C : CT Y X own cc nL) (O : RO X D0 MC0 MS0) (M : MIN own index y host bytes maxL ret n) (hs : Cond.static y ∈ TBL) (av : List Value) (hn : av.length = n) (hm : MC y bytes maxL ret d mc ms av h v h1) (hd : decode cc pc = .ok (.invokestatic index, 3)) (hR : d + 1 ≤ D0 ∧ maxL ≤ 45 ∧ cells + mc ≤ MC0 ∧ slots + ms ≤ MS0) (hst : st = av.reverse ++ rest) (hc : (rest.map fun v => v.category).sum ≤ 8)
    {st' : List Value} {c' s' : Nat} (hsh : v.toList ++ rest = st') (hcs : cells + mc = c' ∧ slots + ms = s') (kk : GO Y X nL a h1 c' s' (pc + 3) ls st' res) : GO Y X nL a h cells slots pc ls st res := by
  subst hst
  subst hsh
  obtain ⟨hcs1, hcs2⟩ := hcs
  subst hcs1
  subst hcs2
  intro hr H locs la hH hS hl
  refine aw_run (Y := Y) (X := X) (ls := ls) (rest := rest) (va_runSN (As := av.map (cv Y)) ⟨C.1, C.2.1, C.2.2.1, C.2.2.2.1, C.2.2.2.2.1⟩ (hm X.2.1 Y C.2.2.2.2.2.2.2.2.2) ⟨ct_callN C M O hR.1 hR.2.1, C.2.2.2.2.1 _ hs, trivial⟩ (ct_pre C hH hS) rfl (by rw [List.length_map]; exact hn) hl.1 ?_ (lv_room (cat_ok hc Y)) hd ⟨Nat.le_trans hR.2.2.1 O.2.2.1, Nat.le_trans hR.2.2.2 O.2.2.2⟩) hS hl (kk hr)
  show (av.reverse ++ rest).map (cv Y) = _
  rw [List.map_append, List.map_reverse]
theorem go_callV {b : Nat} (C : CT Y X own cc nL) (O : RO X D0 MC0 MS0) (M : MI own index y bytes maxL ret n) (V : MIV y ci) (av : List Value) (hn : av.length = n) (hb : hasC h ci b = true) (hm : MC y bytes maxL ret d mc ms (.ref b :: av) h v h1) (hd : decode cc pc = .ok (.invokevirtual index, 3)) (hR : d + 1 ≤ D0 ∧ maxL ≤ 45 ∧ cells + mc ≤ MC0 ∧ slots + ms ≤ MS0) (hst : st = av.reverse ++ .ref b :: rest) (hc : (rest.map fun v => v.category).sum ≤ 8)
    {st' : List Value} {c' s' : Nat} (hsh : v.toList ++ rest = st') (hcs : cells + mc = c' ∧ slots + ms = s') (kk : GO Y X nL a h1 c' s' (pc + 3) ls st' res) : GO Y X nL a h cells slots pc ls st res := by
  subst hst
  subst hsh
  obtain ⟨hcs1, hcs2⟩ := hcs
  subst hcs1
  subst hcs2
  intro hr H locs la hH hS hl
  obtain ⟨V1, V2, T, N, V3⟩ := V
  obtain ⟨fs, hb⟩ := hasC_spec hb
  have hpre := ct_pre (av := .ref b :: av) C hH hS
  refine aw_run (Y := Y) (X := X) (ls := ls) (rest := rest) (va_runV (C := y.cls) (b := Y.1 + b) (As := av.map (cv Y)) ⟨C.1, C.2.1, C.2.2.1, C.2.2.2.1, C.2.2.2.2.1⟩ (hm X.2.1 Y C.2.2.2.2.2.2.2.2.2) ⟨ct_callB C M O hR.1 hR.2.1, C.2.2.2.2.1 _ V1, C.2.2.2.2.1 _ V2⟩ ⟨hpre.1, va_recv C.2.2.2.2.2.1 (hH.one hb) V3 (q0 := 0) rfl, hpre.2⟩ rfl (by rw [List.length_map]; exact hn) hl.1 ?_ (lv_room (cat_ok hc Y)) hd ⟨Nat.le_trans hR.2.2.1 O.2.2.1, Nat.le_trans hR.2.2.2 O.2.2.2⟩) hS hl (kk hr)
  show (av.reverse ++ .ref b :: rest).map (cv Y) = _
  rw [List.map_append, List.map_reverse]
  rfl
theorem go_callI {b : Nat} (C : CT Y X own cc nL) (O : RO X D0 MC0 MS0) (M : MI own index y bytes maxL none n) (hy : y.name = "<init>") (hi : Cond.instanceMethod y ∈ TBL) (av : List Value) (hn : av.length = n) (hm : MC y bytes maxL none d mc ms (.ref b :: av) h v h1) (hd : decode cc pc = .ok (.invokespecial index, 3)) (hR : d + 1 ≤ D0 ∧ maxL ≤ 45 ∧ cells + mc ≤ MC0 ∧ slots + ms ≤ MS0) (hst : st = av.reverse ++ .ref b :: rest) (hc : (rest.map fun v => v.category).sum ≤ 8)
    {st' : List Value} {c' s' : Nat} (hsh : v.toList ++ rest = st') (hcs : cells + mc = c' ∧ slots + ms = s') (kk : GO Y X nL a h1 c' s' (pc + 3) ls st' res) : GO Y X nL a h cells slots pc ls st res := by
  subst hst
  subst hsh
  obtain ⟨hcs1, hcs2⟩ := hcs
  subst hcs1
  subst hcs2
  intro hr H locs la hH hS hl
  have hpre := ct_pre (av := .ref b :: av) C hH hS
  refine aw_run (Y := Y) (X := X) (ls := ls) (rest := rest) (va_runI (b := Y.1 + b) (As := av.map (cv Y)) ⟨C.1, C.2.1, C.2.2.1, C.2.2.2.1, C.2.2.2.2.1⟩ (hm X.2.1 Y C.2.2.2.2.2.2.2.2.2) ⟨ct_callB C M O hR.1 hR.2.1, hy, C.2.2.2.2.1 _ hi⟩ hpre rfl (by rw [List.length_map]; exact hn) hl.1 ?_ (lv_room (cat_ok hc Y)) hd ⟨Nat.le_trans hR.2.2.1 O.2.2.1, Nat.le_trans hR.2.2.2 O.2.2.2⟩) hS hl (kk hr)
  show (av.reverse ++ .ref b :: rest).map (cv Y) = _
  rw [List.map_append, List.map_reverse]
  rfl
theorem go_callIN {b : Nat} (C : CT Y X own cc nL) (O : RO X D0 MC0 MS0) (M : MIN own index y host bytes maxL none n) (hy : y.name = "<init>") (hi : Cond.instanceMethod y ∈ TBL) (av : List Value) (hn : av.length = n) (hm : MC y bytes maxL none d mc ms (.ref b :: av) h v h1) (hd : decode cc pc = .ok (.invokespecial index, 3)) (hR : d + 1 ≤ D0 ∧ maxL ≤ 45 ∧ cells + mc ≤ MC0 ∧ slots + ms ≤ MS0) (hst : st = av.reverse ++ .ref b :: rest) (hc : (rest.map fun v => v.category).sum ≤ 8)
    {st' : List Value} {c' s' : Nat} (hsh : v.toList ++ rest = st') (hcs : cells + mc = c' ∧ slots + ms = s') (kk : GO Y X nL a h1 c' s' (pc + 3) ls st' res) : GO Y X nL a h cells slots pc ls st res := by
  subst hst
  subst hsh
  obtain ⟨hcs1, hcs2⟩ := hcs
  subst hcs1
  subst hcs2
  intro hr H locs la hH hS hl
  have hpre := ct_pre (av := .ref b :: av) C hH hS
  refine aw_run (Y := Y) (X := X) (ls := ls) (rest := rest) (va_runIN (b := Y.1 + b) (As := av.map (cv Y)) ⟨C.1, C.2.1, C.2.2.1, C.2.2.2.1, C.2.2.2.2.1⟩ (hm X.2.1 Y C.2.2.2.2.2.2.2.2.2) ⟨ct_callN C M O hR.1 hR.2.1, hy, C.2.2.2.2.1 _ hi⟩ hpre rfl (by rw [List.length_map]; exact hn) hl.1 ?_ (lv_room (cat_ok hc Y)) hd ⟨Nat.le_trans hR.2.2.1 O.2.2.1, Nat.le_trans hR.2.2.2 O.2.2.2⟩) hS hl (kk hr)
  show (av.reverse ++ .ref b :: rest).map (cv Y) = _
  rw [List.map_append, List.map_reverse]
  rfl
theorem go_objInit {b : Nat} (C : CT Y X own cc nL) (O : RO X D0 MC0 MS0) (h0 : Cond.methodLink own index Lib.objectInit ∈ TBL) (h1 : Cond.instanceMethod Lib.objectInit ∈ TBL) (h2 : Cond.code Lib.objectInit ⟨#[0xb1]⟩ 1 none ∈ TBL) (hd : decode cc pc = .ok (.invokespecial index, 3)) (hR : 1 ≤ D0) (hc : (st.map fun v => v.category).sum ≤ 8)
    (kk : GO Y X nL a h cells slots (pc + 3) ls st res) : GO Y X nL a h cells slots pc ls (.ref b :: st) res := by
  intro hr H locs la hH hS hl
  refine W.objInit C.1 C.2.1 C.2.2.2.1 (C.2.2.2.2.1 _ h0) (C.2.2.2.2.1 _ h1) (C.2.2.2.2.1 _ h2) rfl (by rw [C.2.2.1]; exact hl.1) rfl hd (Nat.le_trans hR O.1) ?_ (kk hr H locs la hH hS hl)
  have e := cat_ok hc Y
  have e2 := O.2.1
  show 2 * 0 + ((st.map (cv Y)).map fun v => v.category).sum + 12 ≤ _
  omega
/-! new cells -/
def plainV : Value → Bool
  | .ref _ => false
  | .retAddr _ => false
  | _ => true
def CLS (own : String) (index ci : Nat) (N : Nat) (fs : List Value) : Prop := ∃ (C : String) (T : u_T) (ty : Nat → FieldType), classes[ci]? = some (C, T, N) ∧ (∀ w ∈ u_ws C T N, w ∈ TBL) ∧ (∀ k, k < N → parseFieldDescriptor (T k).2.2.1 = some (ty k)) ∧ Cond.classLink own index C ∈ TBL ∧ Cond.instantiable C N ∈ TBL ∧ Cond.initialized C ∈ TBL ∧ (∀ j, j < N → defaultValue (ty j) = vp_V fs j) ∧ fs.all plainV = true
theorem cv_plain {Y : YT} : ∀ (fs : List Value), fs.all plainV = true → fs.map (cv Y) = fs
  | [], _ => rfl
  | v :: fs, hf => by
    rw [List.all_cons, Bool.and_eq_true] at hf
    rw [List.map_cons, cv_plain fs hf.2]
    congr 1
    cases v with
    | ref k => exact absurd hf.1 (by simp [plainV])
    | retAddr k => exact absurd hf.1 (by simp [plainV])
    | _ => rfl
theorem go_new {ci N : Nat} {fs : List Value} {K : AH → Option α} (C : CT Y X own cc nL) (O : RO X D0 MC0 MS0) (F : CLS own index ci N fs) (hd : decode cc pc = .ok (.new index, 3)) (hR : cells + 1 ≤ MC0 ∧ slots + N ≤ MS0)
    {c' s' : Nat} (hcs : cells + 1 = c' ∧ slots + N = s') (kk : ∀ h1 : AH, GO Y X nL a h1 c' s' (pc + 3) ls (.ref h.2 :: st) (K h1)) : GO Y X nL a h cells slots pc ls st (letF (hnew h (.inr (ci, fs))) K) := by
  intro hr H locs la hH hS hl
  obtain ⟨hcs1, hcs2⟩ := hcs
  subst hcs1
  subst hcs2
  obtain ⟨Cn, T, ty, hc, hin, hty, hcl, hinst, hini, hfs, hpl⟩ := F
  have hts := C.2.2.2.2.1
  have hKn := C.2.2.2.2.2.1.1 ci _ hc
  refine W.newcK C.1 C.2.1 C.2.2.2.1 (hts _ hcl) (hts _ hinst) (hts _ hini) rfl hd (Nat.le_trans hR.1 O.2.2.1) (Nat.le_trans hR.2 O.2.2.2) hKn.2.1 rfl fun H1 kC hkC e1 z1 o1 => ?_
  have e9 : H.size = Y.1 + h.2 := hH.1
  rw [e9] at e1
  have h9 := kk _ hr H1 locs la (hH.new ⟨_, hc, ((u_born ty hts hin hKn hkC e1 hty).to (V' := vp_V (fs.map (cv Y))) (fun j hj => by rw [cv_plain fs hpl]; exact hfs j hj))⟩ z1 o1) ⟨Nat.le_trans hS.1 (by omega), fun x g1 g2 => (o1 x (Nat.lt_of_lt_of_le g1 hS.1)).trans (hS.2.1 x g1 g2), hS.2.2⟩ hl
  have e10 : (.ref h.2 :: st).map (cv Y) = .ref H.size :: st.map (cv Y) := by rw [e9]; rfl
  rw [e10] at h9
  exact h9
def newD (t : Nat) (n : Nat) : vp_A := if t = 1 then (n, .inr (.inl (fun _ => 0))) else (n, .inl (fun _ => 0))
theorem go_newa {atype : ArrayType} {n : Int32} {t : Nat} (N : Nat) {K : AH → Option α} (C : CT Y X own cc nL) (O : RO X D0 MC0 MS0) (ht : newarray.typeOf atype = tyA t ∧ t < 5) (hw : Cond.arrayClass (newarray.typeOf atype) ∈ TBL) (hN : n.toNatClampNeg = N) (hn : ¬ n < 0) (hb : N ≤ 65536) (hd : decode cc pc = .ok (.newarray atype, 2)) (hR : cells + 1 ≤ MC0 ∧ slots + N ≤ MS0)
    {c' s' : Nat} (hcs : cells + 1 = c' ∧ slots + N = s') (kk : ∀ h1 : AH, GO Y X nL a h1 c' s' (pc + 2) ls (.ref h.2 :: st) (K h1)) : GO Y X nL a h cells slots pc ls (.int n :: st) (letF (hnew h (.inl (t, newD t N))) K) := by
  intro hr H locs la hH hS hl
  obtain ⟨hcs1, hcs2⟩ := hcs
  subst hcs1
  subst hcs2
  have hts := C.2.2.2.2.1
  obtain ⟨ht, ht5⟩ := ht
  refine va_newaK C.1 C.2.1 (hts _ hw) rfl hd rfl hn hN ?_ (Nat.le_trans hR.1 O.2.2.1) (Nat.le_trans hR.2 O.2.2.2) rfl fun H1 cA e1 z1 o1 hAr hNm => ?_
  · have : componentBytes (newarray.typeOf atype) ≤ 8 := by cases atype <;> decide
    calc N * componentBytes (newarray.typeOf atype) ≤ 65536 * 8 := Nat.mul_le_mul hb this
      _ ≤ 536870912 := by decide
  have e9 : H.size = Y.1 + h.2 := hH.1
  have hcA : cA = Y.2.2.2.2 t := by
    rw [ht] at hNm
    have hK := C.2.2.2.2.2.1.2
    rcases (show t = 0 ∨ t = 1 ∨ t = 2 ∨ t = 3 ∨ t = 4 by omega) with rfl | rfl | rfl | rfl | rfl
    · exact Option.some.inj (hNm.symm.trans (hK 0 _ rfl).2)
    · exact Option.some.inj (hNm.symm.trans (hK 1 _ rfl).2)
    · exact Option.some.inj (hNm.symm.trans (hK 2 _ rfl).2)
    · exact Option.some.inj (hNm.symm.trans (hK 3 _ rfl).2)
    · exact Option.some.inj (hNm.symm.trans (hK 4 _ rfl).2)
  subst hcA
  rw [e9] at e1
  have h9 := kk _ hr H1 locs la (hH.new ?_ z1 o1) ⟨Nat.le_trans hS.1 (by omega), fun x g1 g2 => (o1 x (Nat.lt_of_lt_of_le g1 hS.1)).trans (hS.2.1 x g1 g2), hS.2.2⟩ hl
  · have e10 : (.ref h.2 :: st).map (cv Y) = .ref H.size :: st.map (cv Y) := by rw [e9]; rfl
    rw [e10] at h9
    exact h9
  · show H1[Y.1 + h.2]? = some (vp_cell _ (cD Y (newD t N)))
    rw [e1, ht]
    rcases (show t = 0 ∨ t = 1 ∨ t = 2 ∨ t = 3 ∨ t = 4 by omega) with rfl | rfl | rfl | rfl | rfl <;> rfl
theorem go_newq {n : Int32} (N : Nat) {K : AH → Option α} (C : CT Y X own cc nL) (O : RO X D0 MC0 MS0) (hw : Cond.classLink own index RX9 ∈ TBL) (hN : n.toNatClampNeg = N) (hn : ¬ n < 0) (hb : N ≤ 65536) (hd : decode cc pc = .ok (.anewarray index, 3)) (hR : cells + 1 ≤ MC0 ∧ slots + N ≤ MS0)
    {c' s' : Nat} (hcs : cells + 1 = c' ∧ slots + N = s') (kk : ∀ h1 : AH, GO Y X nL a h1 c' s' (pc + 3) ls (.ref h.2 :: st) (K h1)) : GO Y X nL a h cells slots pc ls (.int n :: st) (letF (hnew h (.inl (5, N, .inr (.inr (.inr (.inr (fun _ => none))))))) K) := by
  intro hr H locs la hH hS hl
  obtain ⟨hcs1, hcs2⟩ := hcs
  subst hcs1
  subst hcs2
  have hts := C.2.2.2.2.1
  subst hN
  refine W.anew C.1 C.2.1 C.2.2.2.1 (hts _ hw) (va_AO.use C.2.2.2.2.2.2.2.2.1.2.2.2.2.1) rfl hd rfl hn (by omega) (Nat.le_trans hR.1 O.2.2.1) (Nat.le_trans hR.2 O.2.2.2) fun cA kA comp f1 f2 f3 f4 => ?_
  have e9 : H.size = Y.1 + h.2 := hH.1
  obtain ⟨kA', comp', g1, g2, g3, g4⟩ := (C.2.2.2.2.2.1.2 5 _ rfl).2
  have hcA : cA = Y.2.2.2.2 5 := Option.some.inj (f1.symm.trans g4)
  subst hcA
  generalize hH1 : H.push ({ cls := Y.2.2.2.2 5, slots := Array.replicate n.toNatClampNeg .null, vm := .none } : Cell) = H1
  have z1 : H1.size = H.size + 1 := by rw [← hH1, Array.size_push]
  have e1 : H1[H.size]? = some (arrV (Y.2.2.2.2 5) n.toNatClampNeg (fun _ => .null)) := by rw [← hH1, Array.getElem?_push_size, ← arrV_new]
  have o1 : ∀ q : Nat, q < H.size → H1[q]? = H[q]? := fun q hq => by rw [← hH1, Array.getElem?_push, if_neg (Nat.ne_of_lt hq)]
  rw [e9] at e1
  have h9 := kk _ hr H1 locs la (hH.new ?_ z1 o1) ⟨Nat.le_trans hS.1 (by omega), fun x g1 g2 => (o1 x (Nat.lt_of_lt_of_le g1 hS.1)).trans (hS.2.1 x g1 g2), hS.2.2⟩ hl
  · have e10 : (.ref h.2 :: st).map (cv Y) = .ref H.size :: st.map (cv Y) := by rw [e9]; rfl
    rw [e10] at h9
    exact h9
  · show H1[Y.1 + h.2]? = some (vp_cell _ _)
    rw [e1]
    rfl
/-! Math.max, Math.min -/
def jmax (x y : Int32) : Int32 := if x < y then y else x
def jmin (x y : Int32) : Int32 := if y < x then y else x
theorem go_mmax {x y : Int32} (C : CT Y X own cc nL) (O : RO X D0 MC0 MS0) (h0 : Cond.methodLink own index Lib.Math.max.name ∈ TBL) (h1 : Cond.static Lib.Math.max.name ∈ TBL) (h2 : Cond.initialized "java/lang/Math" ∈ TBL) (h3 : Cond.code Lib.Math.max.name Lib.Math.max.code 2 (some .int) ∈ TBL) (hR : 1 ≤ D0 ∧ cells ≤ MC0 ∧ slots ≤ MS0) (hs : (st.map fun v => v.category).sum ≤ 8) (hd : decode cc pc = .ok (.invokestatic index, 3)) (kk : GO Y X nL a h cells slots (pc + 3) ls (.int (jmax x y) :: st) res) : GO Y X nL a h cells slots pc ls (.int y :: .int x :: st) res := by
  intro hr H locs la hH hS hl
  have hts := C.2.2.2.2.1
  have e := cat_ok hs Y
  have e2 := O.2.1
  exact va_mmax C.1 C.2.1 (by rw [C.2.2.1]; exact hl.1.symm) C.2.2.2.1 (hts _ h0) (hts _ h1) (hts _ h2) (hts _ h3) (Nat.le_trans hR.1 O.1) (by omega) (Nat.le_trans hR.2.1 O.2.2.1) (Nat.le_trans hR.2.2 O.2.2.2) hd (kk hr H locs la hH hS hl)
theorem go_mmin {x y : Int32} (C : CT Y X own cc nL) (O : RO X D0 MC0 MS0) (h0 : Cond.methodLink own index Lib.Math.min.name ∈ TBL) (h1 : Cond.static Lib.Math.min.name ∈ TBL) (h2 : Cond.initialized "java/lang/Math" ∈ TBL) (h3 : Cond.code Lib.Math.min.name Lib.Math.min.code 2 (some .int) ∈ TBL) (hR : 1 ≤ D0 ∧ cells ≤ MC0 ∧ slots ≤ MS0) (hs : (st.map fun v => v.category).sum ≤ 8) (hd : decode cc pc = .ok (.invokestatic index, 3)) (kk : GO Y X nL a h cells slots (pc + 3) ls (.int (jmin x y) :: st) res) : GO Y X nL a h cells slots pc ls (.int y :: .int x :: st) res := by
  intro hr H locs la hH hS hl
  have hts := C.2.2.2.2.1
  have e := cat_ok hs Y
  have e2 := O.2.1
  exact va_mmin C.1 C.2.1 (by rw [C.2.2.1]; exact hl.1.symm) C.2.2.2.1 (hts _ h0) (hts _ h1) (hts _ h2) (hts _ h3) (Nat.le_trans hR.1 O.1) (by omega) (Nat.le_trans hR.2.1 O.2.2.1) (Nat.le_trans hR.2.2 O.2.2.2) hd (kk hr H locs la hH hS hl)
/-! System.arraycopy of ints -/
def acI (h : AH) (x : Nat) (sp : Int32) (b : Nat) (dp n : Int32) : Option AH := match h.1 x, h.1 b with
  | some (.inl (0, n0, .inl f)), some (.inl (0, n1, .inl g)) => if ¬ sp < 0 ∧ ¬ dp < 0 ∧ ¬ n < 0 ∧ sp.toNatClampNeg + n.toNatClampNeg ≤ n0 ∧ dp.toNatClampNeg + n.toNatClampNeg ≤ n1 then some (hset h b (.inl (0, n1, .inl (va_cpy f g sp.toNatClampNeg dp.toNatClampNeg n.toNatClampNeg)))) else none
  | _, _ => none
theorem acI_spec {h h1 : AH} {x b : Nat} {sp dp n : Int32} (e : acI h x sp b dp n = some h1) : ∃ n0 n1 f g, h.1 x = some (.inl (0, n0, .inl f)) ∧ h.1 b = some (.inl (0, n1, .inl g)) ∧ ¬ sp < 0 ∧ ¬ dp < 0 ∧ ¬ n < 0 ∧ sp.toNatClampNeg + n.toNatClampNeg ≤ n0 ∧ dp.toNatClampNeg + n.toNatClampNeg ≤ n1 ∧ h1 = hset h b (.inl (0, n1, .inl (va_cpy f g sp.toNatClampNeg dp.toNatClampNeg n.toNatClampNeg))) := by
  unfold acI at e
  split at e
  · rename_i n0 f n1 g h1 h2
    split at e
    · rename_i hc
      obtain ⟨c1, c2, c3, c4, c5⟩ := hc
      cases e
      exact ⟨n0, n1, f, g, h1, h2, c1, c2, c3, c4, c5, rfl⟩
    · cases e
  · cases e
/-- the world as a list -/
def wl (Y : YT) (h : AH) : va_W := (List.range h.2).filterMap (fun k => (h.1 k).map (fun e => (Y.1 + k, cE Y e)))
theorem wl_mem {h : AH} {H : Heap} (hH : HR Y h H) {k : Nat} {e : AE} (hk : h.1 k = some e) : (Y.1 + k, cE Y e) ∈ wl Y h := by
  have hl := hH.lt hk
  rw [hH.1] at hl
  exact List.mem_filterMap.mpr ⟨k, List.mem_range.mpr (by omega), by rw [hk]; rfl⟩
theorem wl_of {h : AH} {q : Nat × va_E} (hq : q ∈ wl Y h) : ∃ k e, h.1 k = some e ∧ q = (Y.1 + k, cE Y e) := by
  obtain ⟨k, -, hk⟩ := List.mem_filterMap.mp hq
  cases hh : h.1 k with
  | none => rw [hh] at hk; cases hk
  | some e => rw [hh] at hk; cases hk; exact ⟨k, e, hh, rfl⟩
theorem wl_P {h : AH} {H : Heap} (hH : HR Y h H) : va_P Y.2.2.2.1 classes (wl Y h) H := by
  intro k q hq
  obtain ⟨j, e, h1, rfl⟩ := wl_of (List.mem_of_getElem? hq)
  exact hH.2 j e h1
theorem wl_lt {h : AH} {H : Heap} (hH : HR Y h H) {k : Nat} {e : AE} (hk : h.1 k = some e) : k < h.2 := by
  have hl := hH.lt hk
  rw [hH.1] at hl
  omega
theorem fm_inj {β : Type} (f : Nat → Option β) (g : β → Nat) (hg : ∀ k b, f k = some b → g b = k) : ∀ (l : List Nat), l.Nodup → ∀ (i j : Nat) (p q : β), (l.filterMap f)[i]? = some p → (l.filterMap f)[j]? = some q → g p = g q → i = j
  | [], _, i, j, p, q, h1, _, _ => by simp at h1
  | x :: l, hn, i, j, p, q, h1, h2, h3 => by
    have hn' := List.nodup_cons.mp hn
    have ih := fm_inj f g hg l hn'.2
    cases hx : f x with
    | none =>
      rw [List.filterMap_cons_none hx] at h1 h2
      exact ih i j p q h1 h2 h3
    | some b =>
      rw [List.filterMap_cons_some hx] at h1 h2
      have key : ∀ (m : Nat) (r : β), (l.filterMap f)[m]? = some r → g r ≠ x := by
        intro m r hr he
        obtain ⟨y, hy, hfy⟩ := List.mem_filterMap.mp (List.mem_of_getElem? hr)
        have := hg y r hfy
        rw [this] at he
        subst he
        exact hn'.1 hy
      have hb := hg x b hx
      cases i with
      | zero =>
        cases j with
        | zero => rfl
        | succ j =>
          rw [List.getElem?_cons_zero] at h1
          rw [List.getElem?_cons_succ] at h2
          cases h1
          exact absurd (h3.symm.trans hb) (key _ _ h2)
      | succ i =>
        rw [List.getElem?_cons_succ] at h1
        cases j with
        | zero =>
          rw [List.getElem?_cons_zero] at h2
          cases h2
          exact absurd (h3.trans hb) (key _ _ h1)
        | succ j =>
          rw [List.getElem?_cons_succ] at h2
          rw [ih i j p q h1 h2 h3]
theorem wl_D {h : AH} {H : Heap} (hH : HR Y h H) : va_D (AA Y) (wl Y h) := by
  refine ⟨fun i j p q hp hq e => ?_, fun k q hq => ?_⟩
  · refine fm_inj (fun k => (h.1 k).map (fun e => (Y.1 + k, cE Y e))) (fun q => q.1 - Y.1) (fun k b hb => ?_) (List.range h.2) List.nodup_range i j p q hp hq (by rw [e])
    cases hh : h.1 k with
    | none => simp [hh] at hb
    | some e => simp [hh] at hb; rw [← hb]; simp
  · obtain ⟨j, e, h1, rfl⟩ := wl_of (List.mem_of_getElem? hq)
    exact Nat.le_add_right _ _
theorem go_acI {x b : Nat} {sp dp n : Int32} {K : AH → Option α} (C : CT Y X own cc nL) (O : RO X D0 MC0 MS0) (h0 : Cond.methodLink own index arraycopyName ∈ TBL) (h1 : Cond.native arraycopyName ∈ TBL) (h2 : Cond.static arraycopyName ∈ TBL) (h3 : Cond.initialized "java/lang/System" ∈ TBL) (hD : 1 ≤ D0) (hs : (st.map fun v => v.category).sum ≤ 8) (hd : decode cc pc = .ok (.invokestatic index, 3))
    (kk : ∀ h1 : AH, GO Y X nL a h1 0 slots (pc + 3) ls st (K h1)) : GO Y X nL a h 0 slots pc ls (.int n :: .int dp :: .ref b :: .int sp :: .ref x :: st) ((acI h x sp b dp n).bind K) := by
  refine go_bind fun hh hx hr H locs la hH hS hl => ?_
  obtain ⟨n0, n1, f, g, g1, g2, c1, c2, c3, c4, c5, rfl⟩ := acI_spec hx
  have hts := C.2.2.2.2.1
  have hws := wl_P hH
  have hwD := wl_D hH
  obtain ⟨q0, e0⟩ := List.getElem?_of_mem (wl_mem hH g1)
  obtain ⟨q1, e1⟩ := List.getElem?_of_mem (wl_mem hH g2)
  intro T hT XS
  have hsz : H.size ≤ X.2.2.2.2.1.heap.size := by rw [← hT]; exact XS.heapSize
  refine va_copyi C.1 C.2.1 (by rw [C.2.2.1]; exact hl.1.symm) C.2.2.2.1 (hts _ h0) (hts _ h1) (hts _ h2) (hts _ h3) C.2.2.2.2.2.1 hws hwD hS q0 q1 0 0 e0 e1 rfl rfl rfl c1 c2 c3 c4 c5 (fun _ _ => rfl) (Nat.le_trans hD O.1) ?_ hd (fun H1 locs1 hP1 hD1 hS1 => ?_) T hT XS
  · have e := cat_ok hs Y
    have e2 := O.2.1
    have e3 : nativeFrameWords "java/lang/System" "arraycopy" 5 + 11 ≤ 40 := by decide
    omega
  · intro T1 hT1 XS1
    have hsz1 : H1.size ≤ X.2.2.2.2.1.heap.size := by rw [← hT1]; exact XS1.heapSize
    refine kk _ hr H1 locs1 la ⟨?_, fun j e hj => ?_⟩ hS1 hl T1 hT1 XS1
    · have := hS.1
      have := hS1.1
      have := hH.1
      show H1.size = Y.1 + h.2
      omega
    · have hl1 := (List.getElem?_eq_some_iff.mp e1).1
      by_cases hjb : j = b
      · subst hjb
        simp only [hset, va_up, if_true] at hj
        cases hj
        exact hP1 q1 _ (by rw [List.getElem?_set_self hl1]; rfl)
      · simp only [hset, va_up, if_neg hjb] at hj
        obtain ⟨q, eq⟩ := List.getElem?_of_mem (wl_mem hH hj)
        have hqq : q1 ≠ q := by
          intro z
          subst z
          rw [e1] at eq
          have := congrArg Prod.fst (Option.some.inj eq)
          simp at this
          exact hjb this.symm
        exact hP1 q _ (by rw [List.getElem?_set_ne hqq]; exact eq)
end CALLS


abbrev wI (h : AH) : Int32 → Option Value × AH := fun r => (some (.int r), h)
abbrev wIh : Int32 × AH → Option Value × AH := fun r => (some (.int r.1), r.2)
abbrev wZ (h : AH) : Bool → Option Value × AH := fun r => (some (.int (b2i r)), h)
abbrev wZh : Bool × AH → Option Value × AH := fun r => (some (.int (b2i r.1)), r.2)
abbrev wJ (h : AH) : Int64 → Option Value × AH := fun r => (some (.long r), h)
abbrev wJh : Int64 × AH → Option Value × AH := fun r => (some (.long r.1), r.2)
abbrev wR (h : AH) : Nat → Option Value × AH := fun r => (some (.ref r), h)
abbrev wS (h : AH) : Nat → Option Value × AH := fun r => (some (.retAddr r), h)
abbrev wV : AH → Option Value × AH := fun r => (none, r)
abbrev wU (h : AH) : Unit → Option Value × AH := fun _ => (none, h)
theorem if_some {α : Type} {c : Prop} [Decidable c] {o : Option α} {r : α} (h : (if c then o else none) = some r) : c ∧ o = some r := by
  by_cases hc : c
  · rw [if_pos hc] at h; exact ⟨hc, h⟩
  · rw [if_neg hc] at h; cases h
/-- so many rounds of a loop are looked at -/
def FU : Nat := 4096
/-- a switch: outside its rows -/
theorem tsw_out {x : Int32} {lo hi : Int} (h : ∀ i : Int, lo ≤ i → i ≤ hi → x.toInt ≠ i) : x.toInt < lo ∨ hi < x.toInt := by
  rcases Int.lt_or_le x.toInt lo with h1 | h1
  · exact Or.inl h1
  · rcases Int.lt_or_le hi x.toInt with h2 | h2
    · exact Or.inr h2
    · exact absurd rfl (h x.toInt h1 h2)
theorem i32_ne {x : Int32} {v : Int32} {n : Int} (h : ¬ x = v) (hv : v.toInt = n) : x.toInt ≠ n := fun e => h (Int32.toInt_inj.mp (e.trans hv.symm))

section SW
variable {α : Type} {Y : YT} {X : XT} {own : String} {cc : ByteArray} {nL : Nat} {a : α} {h : AH} {cells slots : Nat} {pc : Nat} {ls : List (Nat × Value)} {st : List Value} {res : Option α}
theorem go_tsw_else (C : CT Y X own cc nL) {dflt lo hi : Int} {offs : Array Int} {len : Nat} {x : Int32} (tgt : Nat) (ex : List Int) (hd : decode cc pc = .ok (.tableswitch dflt lo hi offs, len)) (hx : ∀ v ∈ ex, x.toInt ≠ v) (hc : (List.range offs.size).all (fun i => decide (offs[i]? = some dflt) || ex.contains (lo + i)) = true) (hh : hi = lo + (offs.size : Int) - 1) (ht : (pc : Int) + dflt = (tgt : Int)) (k : GO Y X nL a h cells slots tgt ls st res) : GO Y X nL a h cells slots pc ls (.int x :: st) res := by
  rcases Int.lt_or_le x.toInt lo with h1 | h1
  · exact go_tsw_out C tgt hd (Or.inl h1) ht k
  · rcases Int.lt_or_le hi x.toInt with h2 | h2
    · exact go_tsw_out C tgt hd (Or.inr h2) ht k
    · have hi : (x.toInt - lo).toNat < offs.size := by omega
      have h3 := List.all_eq_true.mp hc _ (List.mem_range.mpr hi)
      have e : lo + (((x.toInt - lo).toNat : Nat) : Int) = x.toInt := by omega
      rw [e, Bool.or_eq_true, decide_eq_true_eq] at h3
      rcases h3 with h3 | h3
      · exact go_tsw C tgt x rfl hd (Int.not_lt.mpr h1) (Int.not_lt.mpr h2) h3 ht k
      · exact absurd rfl (hx _ (by simpa using h3))
theorem lsw_else : ∀ (ps : List (Int × Int)) (dflt v : Int), (∀ q ∈ ps, v ≠ q.1) → Op.lookupswitch.offset ps dflt v = dflt
  | [], _, _, _ => rfl
  | (x, o) :: ps, dflt, v, h => by
    rw [Op.lookupswitch.offset_cons, if_neg (fun e => h (x, o) List.mem_cons_self e.symm)]
    exact lsw_else ps dflt v (fun q hq => h q (List.mem_cons_of_mem _ hq))
theorem go_lsw_else (C : CT Y X own cc nL) {dflt : Int} {ps : Array (Int × Int)} {len : Nat} {x : Int32} (tgt : Nat) (hd : decode cc pc = .ok (.lookupswitch dflt ps, len)) (hp : (ps.toList.zip (ps.toList.drop 1)).all (fun (a, next) => a.1 < next.1) = true) (hx : ∀ q ∈ ps.toList, x.toInt ≠ q.1) (ht : (pc : Int) + dflt = (tgt : Int)) (k : GO Y X nL a h cells slots tgt ls st res) : GO Y X nL a h cells slots pc ls (.int x :: st) res := go_lsw C tgt hd hp (lsw_else _ _ _ hx) ht k
theorem go_i2z {x : Int32} {K : Bool → Option α} (kk : ∀ z : Bool, x = b2i z → GO Y X nL a h cells slots pc ls st (K z)) : GO Y X nL a h cells slots pc ls st ((i2z x).bind K) := go_bind fun z hz => kk z (i2z_b hz)
end SW

/-! literals: their length and their signs, by the JDK's own code -/
def strV (i : Nat) : Option Nat := if i < 5 then some (5 + i) else none
def strC (i : Nat) : Option Int32 := if i < 5 then some 0 else none
def strL (j : Nat) : Option Int32 := if 5 ≤ j ∧ j < 10 then some (Int32.ofNat (stL.getD (j - 5) 0)) else none
def strB (j : Nat) (x : Int32) : Option Int32 := if (5 ≤ j ∧ j < 10) ∧ ¬ (x < 0 ∨ stL.getD (j - 5) 0 ≤ x.toNatClampNeg) then some ((stB.getD (j - 5) []).getD x.toNatClampNeg 0) else none
def i2by (x : Int32) : Option Int32 := if (narrow .byte (.int x)) = .int x then some x else none
def MIS (y : MethodName) : Prop := Cond.instanceMethod y ∈ TBL ∧ Cond.selects y.cls y y ∈ TBL ∧ y.cls = "java/lang/String"
section STR
variable {α : Type} {Y : YT} {X : XT} {own : String} {cc : ByteArray} {nL : Nat} {a : α} {h : AH} {cells slots : Nat} {pc : Nat} {ls ls' : List (Nat × Value)} {st rest : List Value} {res : Option α}
variable {index : Nat} {y : MethodName} {bytes : ByteArray} {maxL : Nat} {ret : Option FieldType} {n d mc ms : Nat} {av : List Value} {v : Option Value} {h1 : AH} {ci D0 MC0 MS0 : Nat} {host : String}
theorem aw_OF {o nm ds : String} {w : Value} {t : Nat} (C : CT Y X own cc nL) (hE : va_OF o nm ds w t (AA Y) X.2.2.2.2.1 X.2.2.2.2.1.heap) (hw : Cond.fieldLink own index o nm ds ∈ TBL) (hd : decode cc pc = .ok (.getfield index, 3)) {H : Heap} {locs : List Loc} {la : Array Slot} {st : List Value} (hS : va_S (AA Y) X.2.2.2.2.1.heap H locs)
    (kk : W X.1 X.2.1 X.2.2.1 X.2.2.2.1 X.2.2.2.2.1 X.2.2.2.2.2.1 X.2.2.2.2.2.2.1 X.2.2.2.2.2.2.2.1 X.2.2.2.2.2.2.2.2.1 X.2.2.2.2.2.2.2.2.2.1 H locs cells slots X.2.2.2.2.2.2.2.2.2.2 (F0 X.2.2.2.2.2.1 (pc + 3) la (w :: st))) : W X.1 X.2.1 X.2.2.1 X.2.2.2.1 X.2.2.2.2.1 X.2.2.2.2.2.1 X.2.2.2.2.2.2.1 X.2.2.2.2.2.2.2.1 X.2.2.2.2.2.2.2.2.1 X.2.2.2.2.2.2.2.2.2.1 H locs cells slots X.2.2.2.2.2.2.2.2.2.2 (F0 X.2.2.2.2.2.1 pc la (.ref t :: st)) := by
  obtain ⟨cf, k, fi, f, cell, h1, h2, h3, h4, h5, h6⟩ := hE.kept hS.2.1
  exact W.getf C.1 C.2.1 C.2.2.2.1 (C.2.2.2.2.1 _ hw) h1 h2 h3 h4 h5 rfl rfl hd kk
theorem go_gSv {i : Nat} {K : Nat → Option α} (C : CT Y X own cc nL) (hw : Cond.fieldLink own index "java/lang/String" "value" "[B" ∈ TBL) (hd : decode cc pc = .ok (.getfield index, 3)) (kk : ∀ x : Nat, GO Y X nL a h cells slots (pc + 3) ls (.retAddr x :: st) (K x)) : GO Y X nL a h cells slots pc ls (.retAddr i :: st) ((strV i).bind K) := by
  refine go_bind fun x hx hr H locs la hH hS hl => ?_
  unfold strV at hx
  split at hx
  · rename_i hi
    cases hx
    exact aw_OF C (C.2.2.2.2.2.2.2.2.1.2.1.1 i hi).2.2.1 hw hd hS (kk _ hr H locs la hH hS hl)
  · cases hx
theorem go_gSc {i : Nat} {K : Int32 → Option α} (C : CT Y X own cc nL) (hw : Cond.fieldLink own index "java/lang/String" "coder" "B" ∈ TBL) (hd : decode cc pc = .ok (.getfield index, 3)) (kk : ∀ x : Int32, GO Y X nL a h cells slots (pc + 3) ls (.int x :: st) (K x)) : GO Y X nL a h cells slots pc ls (.retAddr i :: st) ((strC i).bind K) := by
  refine go_bind fun x hx hr H locs la hH hS hl => ?_
  unfold strC at hx
  split at hx
  · rename_i hi
    cases hx
    exact aw_OF C (C.2.2.2.2.2.2.2.2.1.2.1.1 i hi).2.1 hw hd hS (kk _ hr H locs la hH hS hl)
  · cases hx
theorem str_T (C : CT Y X own cc nL) {j : Nat} (hj : 5 ≤ j ∧ j < 10) : va_T .byte (Y.2.1 j) (stL.getD (j - 5) 0) (fun k => .int ((stB.getD (j - 5) []).getD k 0)) (AA Y) X.2.2.2.2.1 X.2.2.2.2.1.heap := by
  have h9 := (C.2.2.2.2.2.2.2.2.1.2.1.1 (j - 5) (by omega)).2.2.2
  have e : 5 + (j - 5) = j := by omega
  dsimp only at h9
  rw [e] at h9
  exact h9
theorem go_Sl {j : Nat} {K : Int32 → Option α} (C : CT Y X own cc nL) (hd : decode cc pc = .ok (.arraylength, 1)) (kk : ∀ x : Int32, GO Y X nL a h cells slots (pc + 1) ls (.int x :: st) (K x)) : GO Y X nL a h cells slots pc ls (.retAddr j :: st) ((strL j).bind K) := by
  refine go_bind fun x hx hr H locs la hH hS hl => ?_
  unfold strL at hx
  split at hx
  · rename_i hj
    cases hx
    exact va_tlen C.1 C.2.1 (str_T C hj) hS rfl hd (kk _ hr H locs la hH hS hl)
  · cases hx
theorem go_Sb {j : Nat} {i : Int32} {K : Int32 → Option α} (C : CT Y X own cc nL) (hd : decode cc pc = .ok (.baload, 1)) (kk : ∀ x : Int32, GO Y X nL a h cells slots (pc + 1) ls (.int x :: st) (K x)) : GO Y X nL a h cells slots pc ls (.int i :: .retAddr j :: st) ((strB j i).bind K) := by
  refine go_bind fun x hx hr H locs la hH hS hl => ?_
  unfold strB at hx
  split at hx
  · rename_i hj
    cases hx
    exact va_tb C.1 C.2.1 (str_T C hj.1) hS hj.2 rfl hd (kk _ hr H locs la hH hS hl)
  · cases hx
theorem go_gCS (C : CT Y X own cc nL) (hw : Cond.fieldLink own index "java/lang/String" "COMPACT_STRINGS" "Z" ∈ TBL) (hd : decode cc pc = .ok (.getstatic index, 3)) (kk : GO Y X nL a h cells slots (pc + 3) ls (.int 1 :: st) res) : GO Y X nL a h cells slots pc ls st res := fun hr H locs la hH hS hl =>
  va_gets C.1 C.2.1 C.2.2.2.2.2.2.2.2.1.1 hS C.2.2.2.1 (C.2.2.2.2.1 _ hw) (fun _ h9 => h9) hd (kk hr H locs la hH hS hl)
theorem go_gFM (C : CT Y X own cc nL) (hw : Cond.fieldLink own index "jdk/internal/util/Preconditions" "SIOOBE_FORMATTER" "Ljava/util/function/BiFunction;" ∈ TBL) (hd : decode cc pc = .ok (.getstatic index, 3)) (kk : ∀ w : Value, w.category = 1 → GO Y X nL a h cells slots (pc + 3) ls (w :: st) res) : GO Y X nL a h cells slots pc ls st res := by
  intro hr H locs la hH hS hl
  rcases C.2.2.2.2.2.2.2.2.1.2.2.2.2.2 with h9 | h9
  · exact va_gets C.1 C.2.1 h9 hS C.2.2.2.1 (C.2.2.2.2.1 _ hw) (fun _ h9 => h9) hd (kk .null rfl hr H locs la hH hS hl)
  · exact va_gets C.1 C.2.1 h9 hS C.2.2.2.1 (C.2.2.2.2.1 _ hw) (fun _ h9 => h9) hd (kk (.retAddr 10) rfl hr H locs la hH hS hl)
theorem go_byret {w : α → Option Value × AH} (C : CT Y X own cc nL) (E : RX Y X (some .byte) (w a).1 (w a).2 cells slots) (x : Int32) (g : Int32 → α) (hd : decode cc pc = .ok (.ireturn, 1)) (hw : ∀ z, w (g z) = (some (.int z), h)) : GO Y X nL a h cells slots pc ls [.int x] ((i2by x).bind fun z => some (g z)) := by
  refine go_bind fun z hz => ?_
  unfold i2by at hz
  split at hz
  · rename_i hn
    cases hz
    exact go_zret C E (g x) x hd (hw x) hn
  · cases hz
theorem go_callVS {i : Nat} (C : CT Y X own cc nL) (O : RO X D0 MC0 MS0) (M : MI own index y bytes maxL ret n) (V : MIS y) (av : List Value) (hn : av.length = n) (hi : i < 5) (hm : MC y bytes maxL ret d mc ms (.retAddr i :: av) h v h1) (hd : decode cc pc = .ok (.invokevirtual index, 3)) (hR : d + 1 ≤ D0 ∧ maxL ≤ 45 ∧ cells + mc ≤ MC0 ∧ slots + ms ≤ MS0) (hst : st = av.reverse ++ .retAddr i :: rest) (hc : (rest.map fun v => v.category).sum ≤ 8)
    {st' : List Value} {c' s' : Nat} (hsh : v.toList ++ rest = st') (hcs : cells + mc = c' ∧ slots + ms = s') (kk : GO Y X nL a h1 c' s' (pc + 3) ls st' res) : GO Y X nL a h cells slots pc ls st res := by
  subst hst
  subst hsh
  obtain ⟨hcs1, hcs2⟩ := hcs
  subst hcs1
  subst hcs2
  intro hr H locs la hH hS hl
  obtain ⟨V1, V2, V3⟩ := V
  have hpre := ct_pre (av := .retAddr i :: av) C hH hS
  obtain ⟨cell, g1, g2, g3, -⟩ := (C.2.2.2.2.2.2.2.2.1.2.1.1 i hi).1.kept hS.2.1
  refine aw_run (Y := Y) (X := X) (ls := ls) (rest := rest) (va_runV (C := y.cls) (b := Y.2.1 i) (As := av.map (cv Y)) ⟨C.1, C.2.1, C.2.2.1, C.2.2.2.1, C.2.2.2.2.1⟩ (hm X.2.1 Y C.2.2.2.2.2.2.2.2.2) ⟨ct_callB C M O hR.1 hR.2.1, C.2.2.2.2.1 _ V1, C.2.2.2.2.1 _ V2⟩ ⟨hpre.1, ⟨cell, g1, g2, by rw [V3]; exact g3⟩, hpre.2⟩ rfl (by rw [List.length_map]; exact hn) hl.1 ?_ (lv_room (cat_ok hc Y)) hd ⟨Nat.le_trans hR.2.2.1 O.2.2.1, Nat.le_trans hR.2.2.2 O.2.2.2⟩) hS hl (kk hr)
  show (av.reverse ++ .retAddr i :: rest).map (cv Y) = _
  rw [List.map_append, List.map_reverse]
  rfl
theorem ldcSW {p : Program} {l : Launch} {e : Env} {R : Room} {s : State} {m : MethodId} {args : Array Value} {below : List Frame} {meth : Method} {c : Code} {T : State} {locs : List Loc}
    (X : Stand p l e R s m args below meth c T locs cells slots) (hexec : p.tables.exec = Jvm.exec) {own text : String} {index : Nat} {a : Addr} (hown : s.vm.findClass own = some m.cls)
    (hconst : (Cond.stringRef own index text).before args s = true) (hev : (Term.string own index).eval args s none [] s = some (.ref a)) {g : JFrame} (hg : g.method = m) (hdg : decode c.code g.pc = .ok (.ldc_w index, 3)) :
    ∀ target, Steps p.tables e below (T.setTop { g with pc := g.pc + 3, stack := .ref a :: g.stack }) target → Steps p.tables e below (T.setTop g) target := by
  obtain ⟨k, cf, i, a', hk, hcf, hcp, -, hr, hev'⟩ := Cond.stringRef_spec hown hconst
  cases hev.symm.trans hev'
  obtain ⟨k', hk', he⟩ := X.warmed.alike.2.2 _ _ hk
  have hr' : k'.resolved[index]? = some (some (.string a)) := by
    rcases X.warmed.entry hk hk' index with h | ⟨h, -⟩
    · rw [h]; exact hr
    · rw [hr] at h; cases h
  intro target hrest
  subst hg
  jvm_step X.here [hexec, hdg, ldc_w.wp_string (e := e) (s := T) (f := g) X.here.top hk' (by rw [he]; exact hcf) hcp hr']
  exact hrest
theorem go_ldcSw (C : CT Y X "ShadowSpaces" cc nL) (i : Nat) (hi : i < 5) (hd : decode cc pc = .ok (.ldc_w (stI i), 3)) (k : GO Y X nL a h cells slots (pc + 3) ls (.retAddr i :: st) res) : GO Y X nL a h cells slots pc ls st res := by
  intro hr H locs la hH hS hl T hT X
  obtain ⟨t, a1, b1⟩ := k hr H locs la hH hS hl T hT X
  have hz := C.2.2.2.2.2.2.2.2.1.2.2.1 i hi
  exact ⟨t, ldcSW X C.1 C.2.2.2.1 (text := stX i) (a := Y.2.1 i) hz.1 hz.2 (g := F0 _ pc la (st.map (cv Y))) rfl (by rw [C.2.1]; exact hd) t a1, b1⟩
end STR
