/-! THE CLAIM OUT OF ONE WALK OF THE LAW'S BODY. Your part is whole_start (and what it stands on); all else here is the same for every law, but numbers. -/
def R_law : String := "ShadowSpacesLaw"
def lw_P (b : Addr) (xs : List Int32) (args : Array Value) (s : State) : Prop := args = #[.ref b] ∧ s.IntsAt b xs ∧ xs.length ≤ 2560 ∧ (Jvm.Cond.and given_1 narrow_1).before args s = true
def lw_Q (_ : Array Value) (s : State) (o : Outcome) (t : State) : Prop := o = .returned (some (.int 1)) ∧ Framed s o t [] 601024 7293034
def lw_Z (below : List Frame) (a : Array Value) (s : State) : State → Prop := fun t => ∃ o, t.status = .running ∧ Ended t below o ∧ lw_Q a s o t
/-- the law's own end, with 1 on the stack, nothing written that was there before, its room as the claim has it -/
theorem lw_ret {p : Program} {l : Launch} {e : Env} {s : State} {m : MethodId} {below : List Frame} {meth : Method} {c : Code} {b : Nat} (hx : p.tables.exec = Jvm.exec) (hb : c.code = code) (hr : meth.sig.returnType = ret) (hlocks : meth.locks = false) {pc : Nat} {H : Heap} {ls : Array Slot} (hdg : decode code pc = .ok (.ireturn, 1)) : W p l e room_1 s m #[Value.ref b] below meth c H [] 601024 7293034 (lw_Z below #[Value.ref b] s) (F0 m pc ls [.int 1]) := by
  intro T hT X
  obtain ⟨fs, hret, hrun, hended, hW, hframe⟩ := X.leave (v := some (.int 1)) (hlocks := hlocks) (fun h => by rw [hr] at h; cases h)
  have hmeth' : T.vm.method? m = some meth := X.method'
  refine ⟨T.setFrames fs, ?_, .returned (some (.int 1)), hrun, hended, rfl, ⟨_, rfl⟩, hW, hframe⟩
  jvm_step X.here [X.here.top, hx, hb, hdg, hmeth', hr, ret, narrow_b1]
  (try refine ⟨rfl, ?_⟩); (try refine ⟨rfl, ?_⟩)
  first | (intro acts; rw [hret _ acts rfl rfl rfl]) | rw [hret _ _ rfl rfl rfl]
  exact Steps.refl _
/-- what holds at the law's entry: the machine, the code, the tables' words (any of lw_tbl by 'hts w (by decide +kernel)'), the script of L ints xs at the cell b, what the Statement gives of the start (any of its parts by flat_of_before) -/
def lw_At (p : Program) (s : State) (m : MethodId) (meth : Method) (c : Code) (b L : Nat) (xs : Nat → Int32) : Prop :=
  p.tables.exec = Jvm.exec ∧ c.code = code ∧ meth.sig.returnType = ret ∧ c.maxLocals = 8 ∧ s.vm.findClass R_law = some m.cls ∧ (∀ w ∈ lw_tbl, w.before #[Value.ref b] s = true) ∧ va_X b L xs s s.heap ∧ b < s.heap.size ∧ meth.locks = false ∧ (Jvm.Cond.and given_1 narrow_1).before #[Value.ref b] s = true
/-! the law's own body: the script, its end, its helpers -/
abbrev XL (p : Program) (l : Launch) (e : Env) (s : State) (m : MethodId) (below : List Frame) (meth : Method) (c : Code) (b : Nat) : XT := (p, l, e, room_1, s, m, #[Value.ref b], below, meth, c, lw_Z below #[Value.ref b] s)
def LX (Y : YT) (X : XT) (b L : Nat) (xs : Nat → Int32) : Prop := (∃ p l e s m below meth c, X = XL p l e s m below meth c b) ∧ X.2.2.2.2.2.2.2.2.1.sig.returnType = ret ∧ Y.1 = X.2.2.2.2.1.heap.size ∧ va_X b L xs X.2.2.2.2.1 X.2.2.2.2.1.heap ∧ b < X.2.2.2.2.1.heap.size ∧ Y.2.1 11 = b ∧ TX Y X.2.2.2.2.1 X.2.2.2.2.1.heap
def scI (xs : Nat → Int32) (L : Nat) (i : Int32) : Option Int32 := if ¬ (i < 0 ∨ L ≤ i.toNatClampNeg) then some (xs i.toNatClampNeg) else none
section LAWR
variable {α : Type} {Y : YT} {X : XT} {cc : ByteArray} {own : String} {nL : Nat} {a : α} {h : AH} {cells slots : Nat} {pc : Nat} {ls : List (Nat × Value)} {st rest : List Value} {res : Option α} {b L : Nat} {xs : Nat → Int32}
variable {index : Nat} {y : MethodName} {bytes : ByteArray} {maxL : Nat} {ret' : Option FieldType} {n d mc ms : Nat} {av : List Value} {v : Option Value} {h1 : AH} {ci D0 MC0 MS0 : Nat} {hh : List (Nat × Nat × Nat × Nat)}
theorem lx_not (E : LX Y X b L xs) : ¬ AA Y b := by
  obtain ⟨-, -, h1, -, h2, -, -⟩ := E
  show ¬ Y.1 ≤ b
  omega
theorem go_slen (C : CT Y X own cc nL) (E : LX Y X b L xs) (hd : decode cc pc = .ok (.arraylength, 1)) (k : GO Y X nL a h cells slots (pc + 1) ls (.int (Int32.ofNat L) :: st) res) : GO Y X nL a h cells slots pc ls (.retAddr 11 :: st) res := by
  intro hr H locs la hH hS hl
  have h9 := va_slen C.1 C.2.1 E.2.2.2.1 E.2.2.2.2.1 (lx_not E) hS hd (k hr H locs la hH hS hl)
  rw [← E.2.2.2.2.2.1] at h9
  exact h9
theorem go_sld {i : Int32} {K : Int32 → Option α} (C : CT Y X own cc nL) (E : LX Y X b L xs) (hd : decode cc pc = .ok (.iaload, 1)) (k : ∀ x : Int32, GO Y X nL a h cells slots (pc + 1) ls (.int x :: st) (K x)) : GO Y X nL a h cells slots pc ls (.int i :: .retAddr 11 :: st) ((scI xs L i).bind K) := by
  refine go_bind fun x hx hr H locs la hH hS hl => ?_
  unfold scI at hx
  split at hx
  · rename_i hi
    cases hx
    have h9 := va_sld C.1 C.2.1 E.2.2.2.1 E.2.2.2.2.1 (lx_not E) hS hi hd (k _ hr H locs la hH hS hl)
    rw [← E.2.2.2.2.2.1] at h9
    exact h9
  · cases hx
theorem go_lawret {u : Unit} (C : CT Y X own code nL) (E : LX Y X b L xs) (hc : cells ≤ 601024) (hs : slots ≤ 7293034) (hd : decode code pc = .ok (.ireturn, 1)) : GO Y X nL u h cells slots pc ls [.int 1] (some ()) := by
  intro hr H locs la hH hS hl
  obtain ⟨⟨p, l, e, s, m, below, meth, c, rfl⟩, E2, E3, -⟩ := E
  refine W.widen hc hs ?_
  refine va_forget (fun q hq => ?_) ?_
  · have := hS.2.2 q hq
    show s.heap.size ≤ q.base
    have h3 : Y.1 = s.heap.size := E3
    have h4 : Y.1 ≤ q.base := this
    omega
  · exact lw_ret C.1 C.2.1 E2 C.2.2.2.2.2.2.1 hd
def MIW (own : String) (index : Nat) (y : MethodName) (cc : ByteArray) (nL : Nat) (ret : Option FieldType) (hh : List (Nat × Nat × Nat × Nat)) (n : Nat) : Prop :=
  Cond.methodLink own index y ∈ TBL ∧ Cond.codeWith y cc nL ret hh ∈ TBL ∧ Cond.initialized y.cls ∈ TBL ∧ Cond.static y ∈ TBL ∧ (y.cls ≠ "java/lang/invoke/MethodHandle" ∧ y.cls ≠ "java/lang/invoke/VarHandle" ∧ (parseMethodDescriptor y.desc).map (fun d => d.parameters.length) = some n)
theorem go_callW (C : CT Y X own cc nL) (T : TX Y X.2.2.2.2.1 X.2.2.2.2.1.heap) (O : RO X D0 MC0 MS0) (M : MIW own index y bytes maxL ret' hh n) (av : List Value) (hn : av.length = n) (hm : MCW y bytes maxL ret' hh d mc ms av h v h1) (hd : decode cc pc = .ok (.invokestatic index, 3)) (hR : d + 1 ≤ D0 ∧ maxL ≤ 45 ∧ cells + mc ≤ MC0 ∧ slots + ms ≤ MS0) (hst : st = av.reverse ++ rest) (hc : (rest.map fun v => v.category).sum ≤ 8)
    {st' : List Value} {c' s' : Nat} (hsh : v.toList ++ rest = st') (hcs : cells + mc = c' ∧ slots + ms = s') (kk : GO Y X nL a h1 c' s' (pc + 3) ls st' res) : GO Y X nL a h cells slots pc ls st res := by
  subst hst
  subst hsh
  obtain ⟨hcs1, hcs2⟩ := hcs
  subst hcs1
  subst hcs2
  intro hr H locs la hH hS hl
  obtain ⟨M1, M2, M3, M4, M5⟩ := M
  have hpre := ct_preT (av := av) C T hH hS
  have hro := ro_call (mc := mc) (ms := ms) O hR.1 hR.2.1
  have cw : vx_CSW X.2.2.2.1 X.2.2.2.2.1 X.2.2.2.2.2.2.1 own index y bytes maxL ret' hh (Cond.codeWith y bytes maxL ret' hh :: TBL) (rmA d mc ms) mc ms n := by
    refine ⟨⟨rfl, rfl, hro.1, hro.2, pay_in C.2.2.2.2.1 (tbl_in M2), List.mem_cons_self⟩, C.2.2.2.2.1 _ M2, C.2.2.2.2.1 _ M3, ⟨M5.1, M5.2.1⟩, fun sig h => ?_, C.2.2.2.2.1 _ M1, C.2.2.2.2.1 _ M4⟩
    have h2 := M5.2.2
    rw [h] at h2
    exact (Option.some.inj h2).symm
  refine aw_run (Y := Y) (X := X) (ls := ls) (rest := rest) (vx_runSW (As := av.map (cv Y)) ⟨C.1, C.2.1, C.2.2.1, C.2.2.2.1, C.2.2.2.2.1⟩ (hm X.2.1 Y C.2.2.2.2.2.2.2.2.2) cw hpre rfl (by rw [List.length_map]; exact hn) hl.1 ?_ (lv_room (cat_ok hc Y)) hd ⟨Nat.le_trans hR.2.2.1 O.2.2.1, Nat.le_trans hR.2.2.2 O.2.2.2⟩) hS hl (kk hr)
  show (av.reverse ++ rest).map (cv Y) = _
  rw [List.map_append, List.map_reverse]
end LAWR
theorem w_364 : Cond.code yX10_sign cX10_sign 3 (some .int) ∈ TBL := tin2 36 rfl rfl
theorem w_1431 : Cond.code yX11_sign cX11_sign 3 (some .int) ∈ TBL := tin6 143 rfl rfl
theorem w_368 : Cond.code yX10_end cX10_end 2 (some .boolean) ∈ TBL := tin2 40 rfl rfl
theorem w_1435 : Cond.code yX11_end cX11_end 2 (some .boolean) ∈ TBL := tin6 147 rfl rfl
theorem w_372 : Cond.code yX10_spaces cX10_spaces 5 (some .int) ∈ TBL := tin2 44 rfl rfl
theorem w_1442 : Cond.code yX11_spaces cX11_spaces 8 (some .int) ∈ TBL := tin6 154 rfl rfl
theorem w_470 : Cond.code yX10_rule cX10_rule 2 (some .int) ∈ TBL := tin2 142 rfl rfl
theorem w_1510 : Cond.code yX11_rule cX11_rule 3 (some .int) ∈ TBL := tin6 222 rfl rfl
theorem w_1197 : Cond.codeWith yL_space cL_space 5 (some .int) [(0, 10, 13, 13)] ∈ TBL := tin5 149 rfl rfl
theorem w_1195 : Cond.methodLink RL 48 yL_space ∈ TBL := tin5 147 rfl rfl
theorem w_88 : Cond.initialized RL ∈ TBL := tin1 0 rfl rfl
theorem w_1196 : Cond.static yL_space ∈ TBL := tin5 148 rfl rfl
theorem w_1549 : Cond.code yX11_space cX11_space 3 (some .int) ∈ TBL := tin7 21 rfl rfl
theorem w_1427 : Cond.code yX11_thrown cX11_thrown 1 (some .int) ∈ TBL := tin6 139 rfl rfl
theorem w_1268 : Cond.codeWith yL_object cL_object 5 (some .int) [(0, 10, 13, 13)] ∈ TBL := tin5 220 rfl rfl
theorem w_1266 : Cond.methodLink RL 57 yL_object ∈ TBL := tin5 218 rfl rfl
theorem w_1267 : Cond.static yL_object ∈ TBL := tin5 219 rfl rfl
theorem w_1569 : Cond.code yX11_object cX11_object 3 (some .int) ∈ TBL := tin7 41 rfl rfl
theorem w_1284 : Cond.codeWith yL_page cL_page 5 (some .int) [(0, 10, 13, 13)] ∈ TBL := tin5 236 rfl rfl
theorem w_1282 : Cond.methodLink RL 60 yL_page ∈ TBL := tin5 234 rfl rfl
theorem w_1283 : Cond.static yL_page ∈ TBL := tin5 235 rfl rfl
theorem w_1583 : Cond.code yX11_page cX11_page 3 (some .int) ∈ TBL := tin7 55 rfl rfl
theorem w_541 : Cond.code yX10_sheet cX10_sheet 10 (some .int) ∈ TBL := tin2 213 rfl rfl
theorem w_1590 : Cond.code yX11_sheet cX11_sheet 10 (some .int) ∈ TBL := tin7 62 rfl rfl
theorem w_558 : Cond.code yX10_reads cX10_reads 5 (some .int) ∈ TBL := tin2 230 rfl rfl
theorem w_1594 : Cond.code yX11_reads cX11_reads 6 (some .int) ∈ TBL := tin7 66 rfl rfl
theorem w_636 : Cond.code yX10_writes cX10_writes 5 (some .int) ∈ TBL := tin3 68 rfl rfl
theorem w_1629 : Cond.code yX11_writes cX11_writes 5 (some .int) ∈ TBL := tin7 101 rfl rfl
theorem w_748 : Cond.code yX10_forks cX10_forks 3 (some .int) ∈ TBL := tin3 180 rfl rfl
theorem w_1663 : Cond.code yX11_forks cX11_forks 3 (some .int) ∈ TBL := tin7 135 rfl rfl
theorem w_762 : Cond.code yX10_ends cX10_ends 3 (some .int) ∈ TBL := tin3 194 rfl rfl
theorem w_1673 : Cond.code yX11_ends cX11_ends 2 (some .int) ∈ TBL := tin7 145 rfl rfl
theorem w_770 : Cond.code yX10_arrives cX10_arrives 5 (some .int) ∈ TBL := tin3 202 rfl rfl
theorem w_1680 : Cond.code yX11_arrives cX11_arrives 5 (some .int) ∈ TBL := tin7 152 rfl rfl
theorem w_778 : Cond.code yX10_tidies cX10_tidies 3 (some .int) ∈ TBL := tin3 210 rfl rfl
theorem w_1695 : Cond.code yX11_tidies cX11_tidies 2 (some .int) ∈ TBL := tin7 167 rfl rfl
theorem w_796 : Cond.code yX10_day cX10_day 7 (some .int) ∈ TBL := tin3 228 rfl rfl
theorem w_1699 : Cond.code yX11_day cX11_day 5 (some .int) ∈ TBL := tin7 171 rfl rfl
theorem w_873 : Cond.code yX10_undo cX10_undo 1 (some .int) ∈ TBL := tin4 65 rfl rfl
theorem w_1715 : Cond.code yX11_undo cX11_undo 2 (some .int) ∈ TBL := tin7 187 rfl rfl
theorem w_885 : Cond.code yX10_chain cX10_chain 5 (some .int) ∈ TBL := tin4 77 rfl rfl
theorem w_1719 : Cond.code yX11_chain cX11_chain 4 (some .int) ∈ TBL := tin7 191 rfl rfl
theorem w_892 : Cond.code yX10_peeks cX10_peeks 4 (some .int) ∈ TBL := tin4 84 rfl rfl
theorem w_1723 : Cond.code yX11_peeks cX11_peeks 4 (some .int) ∈ TBL := tin7 195 rfl rfl
theorem w_897 : Cond.code yX10_holders cX10_holders 2 (some .int) ∈ TBL := tin4 89 rfl rfl
theorem w_1727 : Cond.code yX11_holders cX11_holders 2 (some .int) ∈ TBL := tin7 199 rfl rfl
theorem w_911 : Cond.code yX10_shared cX10_shared 6 (some .int) ∈ TBL := tin4 103 rfl rfl
theorem w_1738 : Cond.code yX11_shared cX11_shared 5 (some .int) ∈ TBL := tin7 210 rfl rfl
theorem w_919 : Cond.code yX10_differ cX10_differ 6 (some .int) ∈ TBL := tin4 111 rfl rfl
theorem w_1753 : Cond.code yX11_differ cX11_differ 6 (some .int) ∈ TBL := tin7 225 rfl rfl
theorem w_923 : Cond.code yX10_common cX10_common 8 (some .int) ∈ TBL := tin4 115 rfl rfl
theorem w_1757 : Cond.code yX11_common cX11_common 6 (some .int) ∈ TBL := tin7 229 rfl rfl
theorem w_927 : Cond.code yX10_hidden cX10_hidden 4 (some .int) ∈ TBL := tin4 119 rfl rfl
theorem w_1761 : Cond.code yX11_hidden cX11_hidden 4 (some .int) ∈ TBL := tin7 233 rfl rfl
theorem w_940 : Cond.code yX10_frames cX10_frames 1 (some .int) ∈ TBL := tin4 132 rfl rfl
theorem w_1769 : Cond.code yX11_frames cX11_frames 4 (some .int) ∈ TBL := tin8 1 rfl rfl
theorem w_948 : Cond.code yX10_deepest cX10_deepest 6 (some .int) ∈ TBL := tin4 140 rfl rfl
theorem w_1773 : Cond.code yX11_deepest cX11_deepest 5 (some .int) ∈ TBL := tin8 5 rfl rfl
theorem w_952 : Cond.code yX10_would cX10_would 3 (some .int) ∈ TBL := tin4 144 rfl rfl
theorem w_1777 : Cond.code yX11_would cX11_would 2 (some .int) ∈ TBL := tin8 9 rfl rfl
theorem w_957 : Cond.code yX10_frees cX10_frees 4 (some .int) ∈ TBL := tin4 149 rfl rfl
theorem w_1781 : Cond.code yX11_frees cX11_frees 4 (some .int) ∈ TBL := tin8 13 rfl rfl
theorem w_962 : Cond.code yX10_storm cX10_storm 5 (some .int) ∈ TBL := tin4 154 rfl rfl
theorem w_1785 : Cond.code yX11_storm cX11_storm 5 (some .int) ∈ TBL := tin8 17 rfl rfl
theorem w_966 : Cond.code yX10_sweep cX10_sweep 5 (some .int) ∈ TBL := tin4 158 rfl rfl
theorem w_1796 : Cond.code yX11_sweep cX11_sweep 5 (some .int) ∈ TBL := tin8 28 rfl rfl
theorem w_971 : Cond.code yX10_odds cX10_odds 8 (some .int) ∈ TBL := tin4 163 rfl rfl
theorem w_1800 : Cond.code yX11_odds cX11_odds 13 (some .int) ∈ TBL := tin8 32 rfl rfl
theorem w_993 : Cond.code yX10_heard cX10_heard 3 (some .int) ∈ TBL := tin4 185 rfl rfl
theorem w_1808 : Cond.code yX11_heard cX11_heard 3 (some .int) ∈ TBL := tin8 40 rfl rfl
theorem w_1004 : Cond.code yX10_forget cX10_forget 1 (some .int) ∈ TBL := tin4 196 rfl rfl
theorem w_1815 : Cond.code yX11_forget cX11_forget 2 (some .int) ∈ TBL := tin8 47 rfl rfl
theorem w_1012 : Cond.code yX10_fits cX10_fits 2 (some .int) ∈ TBL := tin4 204 rfl rfl
theorem w_1819 : Cond.code yX11_fits cX11_fits 3 (some .int) ∈ TBL := tin8 51 rfl rfl
theorem w_1038 : Cond.code yX10_asks cX10_asks 8 (some .int) ∈ TBL := tin4 230 rfl rfl
theorem w_1835 : Cond.code yX11_asks cX11_asks 8 (some .int) ∈ TBL := tin8 67 rfl rfl
theorem w_1047 : Cond.code yX10_saw cX10_saw 4 (some .int) ∈ TBL := tin4 239 rfl rfl
theorem w_1840 : Cond.code yX11_saw cX11_saw 4 (some .int) ∈ TBL := tin8 72 rfl rfl
theorem w_1055 : Cond.code yX10_denies cX10_denies 1 (some .int) ∈ TBL := tin5 7 rfl rfl
theorem w_1844 : Cond.code yX11_denies cX11_denies 2 (some .int) ∈ TBL := tin8 76 rfl rfl
theorem w_1063 : Cond.code yX10_laws cX10_laws 4 (some .int) ∈ TBL := tin5 15 rfl rfl
theorem w_1848 : Cond.code yX11_laws cX11_laws 3 (some .int) ∈ TBL := tin8 80 rfl rfl
theorem w_1074 : Cond.code yX10_looks cX10_looks 8 (some .int) ∈ TBL := tin5 26 rfl rfl
theorem w_1859 : Cond.code yX11_looks cX11_looks 8 (some .int) ∈ TBL := tin8 91 rfl rfl
theorem w_1087 : Cond.code yX10_pages cX10_pages 4 (some .int) ∈ TBL := tin5 39 rfl rfl
theorem w_1863 : Cond.code yX11_pages cX11_pages 4 (some .int) ∈ TBL := tin8 95 rfl rfl
theorem w_1112 : Cond.code yX10_rests cX10_rests 5 (some .int) ∈ TBL := tin5 64 rfl rfl
theorem w_1871 : Cond.code yX11_rests cX11_rests 5 (some .int) ∈ TBL := tin8 103 rfl rfl
theorem w_1122 : Cond.code yX10_law cX10_law 4 (some .int) ∈ TBL := tin5 74 rfl rfl
theorem w_1881 : Cond.code yX11_law cX11_law 7 (some .int) ∈ TBL := tin8 113 rfl rfl
theorem w_1130 : Cond.code yX10_years cX10_years 7 (some .int) ∈ TBL := tin5 82 rfl rfl
theorem w_1889 : Cond.code yX11_years cX11_years 7 (some .int) ∈ TBL := tin8 121 rfl rfl
theorem w_1161 : Cond.code yX10_keep cX10_keep 2 (some .boolean) ∈ TBL := tin5 113 rfl rfl
theorem w_1898 : Cond.code yX11_keep cX11_keep 2 (some .boolean) ∈ TBL := tin8 130 rfl rfl
theorem w_1169 : Cond.code yX10_again cX10_again 2 (some .boolean) ∈ TBL := tin5 121 rfl rfl
theorem w_1902 : Cond.code yX11_again cX11_again 3 (some .boolean) ∈ TBL := tin8 134 rfl rfl
theorem w_1177 : Cond.code yX10_count cX10_count 2 (some .int) ∈ TBL := tin5 129 rfl rfl
theorem w_1906 : Cond.code yX11_count cX11_count 2 (some .int) ∈ TBL := tin8 138 rfl rfl
theorem w_1292 : Cond.codeWith yL_row cL_row 4 (some .int) [(0, 8, 11, 13)] ∈ TBL := tin6 4 rfl rfl
theorem w_1290 : Cond.methodLink RL 217 yL_row ∈ TBL := tin6 2 rfl rfl
theorem w_1291 : Cond.static yL_row ∈ TBL := tin6 3 rfl rfl
theorem w_1914 : Cond.code yX11_row cX11_row 2 (some .long) ∈ TBL := tin8 146 rfl rfl
theorem w_118 : Cond.code yX10_init cX10_init 1 none ∈ TBL := tin1 30 rfl rfl
theorem w_117 : Cond.instanceMethod yX10_init ∈ TBL := tin1 29 rfl rfl
theorem w_1310 : Cond.code yX11_init cX11_init 2 none ∈ TBL := tin6 22 rfl rfl
theorem w_1309 : Cond.instanceMethod yX11_init ∈ TBL := tin6 21 rfl rfl
theorem miL_29 : MI RL 29 yX10_sign cX10_sign 3 (some .int) 1 := ⟨(tin2 33 rfl rfl), w_364, w_89, by decide +kernel⟩
theorem mvX10_sign : MIV yX10_sign 10 := ⟨(tin2 34 rfl rfl), (tin2 35 rfl rfl), TX10, 12, rfl⟩
theorem miL_33 : MI RL 33 yX11_sign cX11_sign 3 (some .int) 1 := ⟨(tin6 140 rfl rfl), w_1431, w_98, by decide +kernel⟩
theorem mvX11_sign : MIV yX11_sign 11 := ⟨(tin6 141 rfl rfl), (tin6 142 rfl rfl), TX11, 36, rfl⟩
theorem miL_34 : MI RL 34 yX10_end cX10_end 2 (some .boolean) 1 := ⟨(tin2 37 rfl rfl), w_368, w_89, by decide +kernel⟩
theorem mvX10_end : MIV yX10_end 10 := ⟨(tin2 38 rfl rfl), (tin2 39 rfl rfl), TX10, 12, rfl⟩
theorem miL_38 : MI RL 38 yX11_end cX11_end 2 (some .boolean) 1 := ⟨(tin6 144 rfl rfl), w_1435, w_98, by decide +kernel⟩
theorem mvX11_end : MIV yX11_end 11 := ⟨(tin6 145 rfl rfl), (tin6 146 rfl rfl), TX11, 36, rfl⟩
theorem miL_39 : MI RL 39 yX10_spaces cX10_spaces 5 (some .int) 0 := ⟨(tin2 41 rfl rfl), w_372, w_89, by decide +kernel⟩
theorem mvX10_spaces : MIV yX10_spaces 10 := ⟨(tin2 42 rfl rfl), (tin2 43 rfl rfl), TX10, 12, rfl⟩
theorem miL_43 : MI RL 43 yX11_spaces cX11_spaces 8 (some .int) 0 := ⟨(tin6 151 rfl rfl), w_1442, w_98, by decide +kernel⟩
theorem mvX11_spaces : MIV yX11_spaces 11 := ⟨(tin6 152 rfl rfl), (tin6 153 rfl rfl), TX11, 36, rfl⟩
theorem miL_44 : MI RL 44 yX10_rule cX10_rule 2 (some .int) 0 := ⟨(tin2 139 rfl rfl), w_470, w_89, by decide +kernel⟩
theorem mvX10_rule : MIV yX10_rule 10 := ⟨(tin2 140 rfl rfl), (tin2 141 rfl rfl), TX10, 12, rfl⟩
theorem miL_47 : MI RL 47 yX11_rule cX11_rule 3 (some .int) 0 := ⟨(tin6 219 rfl rfl), w_1510, w_98, by decide +kernel⟩
theorem mvX11_rule : MIV yX11_rule 11 := ⟨(tin6 220 rfl rfl), (tin6 221 rfl rfl), TX11, 36, rfl⟩
theorem miL_48 : MIW RL 48 yL_space cL_space 5 (some .int) [(0, 10, 13, 13)] 4 := ⟨w_1195, w_1197, w_88, w_1196, by decide +kernel⟩
theorem miL_53 : MI RL 53 yX11_space cX11_space 3 (some .int) 2 := ⟨(tin7 18 rfl rfl), w_1549, w_98, by decide +kernel⟩
theorem mvX11_space : MIV yX11_space 11 := ⟨(tin7 19 rfl rfl), (tin7 20 rfl rfl), TX11, 36, rfl⟩
theorem miL_54 : MI RL 54 yX11_thrown cX11_thrown 1 (some .int) 0 := ⟨(tin6 136 rfl rfl), w_1427, w_98, by decide +kernel⟩
theorem mvX11_thrown : MIV yX11_thrown 11 := ⟨(tin6 137 rfl rfl), (tin6 138 rfl rfl), TX11, 36, rfl⟩
theorem miL_57 : MIW RL 57 yL_object cL_object 5 (some .int) [(0, 10, 13, 13)] 4 := ⟨w_1266, w_1268, w_88, w_1267, by decide +kernel⟩
theorem miL_59 : MI RL 59 yX11_object cX11_object 3 (some .int) 2 := ⟨(tin7 38 rfl rfl), w_1569, w_98, by decide +kernel⟩
theorem mvX11_object : MIV yX11_object 11 := ⟨(tin7 39 rfl rfl), (tin7 40 rfl rfl), TX11, 36, rfl⟩
theorem miL_60 : MIW RL 60 yL_page cL_page 5 (some .int) [(0, 10, 13, 13)] 4 := ⟨w_1282, w_1284, w_88, w_1283, by decide +kernel⟩
theorem miL_62 : MI RL 62 yX11_page cX11_page 3 (some .int) 2 := ⟨(tin7 52 rfl rfl), w_1583, w_98, by decide +kernel⟩
theorem mvX11_page : MIV yX11_page 11 := ⟨(tin7 53 rfl rfl), (tin7 54 rfl rfl), TX11, 36, rfl⟩
theorem miL_63 : MI RL 63 yX10_sheet cX10_sheet 10 (some .int) 4 := ⟨(tin2 210 rfl rfl), w_541, w_89, by decide +kernel⟩
theorem mvX10_sheet : MIV yX10_sheet 10 := ⟨(tin2 211 rfl rfl), (tin2 212 rfl rfl), TX10, 12, rfl⟩
theorem miL_67 : MI RL 67 yX11_sheet cX11_sheet 10 (some .int) 4 := ⟨(tin7 59 rfl rfl), w_1590, w_98, by decide +kernel⟩
theorem mvX11_sheet : MIV yX11_sheet 11 := ⟨(tin7 60 rfl rfl), (tin7 61 rfl rfl), TX11, 36, rfl⟩
theorem miL_68 : MI RL 68 yX10_reads cX10_reads 5 (some .int) 2 := ⟨(tin2 227 rfl rfl), w_558, w_89, by decide +kernel⟩
theorem mvX10_reads : MIV yX10_reads 10 := ⟨(tin2 228 rfl rfl), (tin2 229 rfl rfl), TX10, 12, rfl⟩
theorem miL_71 : MI RL 71 yX11_reads cX11_reads 6 (some .int) 2 := ⟨(tin7 63 rfl rfl), w_1594, w_98, by decide +kernel⟩
theorem mvX11_reads : MIV yX11_reads 11 := ⟨(tin7 64 rfl rfl), (tin7 65 rfl rfl), TX11, 36, rfl⟩
theorem miL_72 : MI RL 72 yX10_writes cX10_writes 5 (some .int) 3 := ⟨(tin3 65 rfl rfl), w_636, w_89, by decide +kernel⟩
theorem mvX10_writes : MIV yX10_writes 10 := ⟨(tin3 66 rfl rfl), (tin3 67 rfl rfl), TX10, 12, rfl⟩
theorem miL_76 : MI RL 76 yX11_writes cX11_writes 5 (some .int) 3 := ⟨(tin7 98 rfl rfl), w_1629, w_98, by decide +kernel⟩
theorem mvX11_writes : MIV yX11_writes 11 := ⟨(tin7 99 rfl rfl), (tin7 100 rfl rfl), TX11, 36, rfl⟩
theorem miL_77 : MI RL 77 yX10_forks cX10_forks 3 (some .int) 1 := ⟨(tin3 177 rfl rfl), w_748, w_89, by decide +kernel⟩
theorem mvX10_forks : MIV yX10_forks 10 := ⟨(tin3 178 rfl rfl), (tin3 179 rfl rfl), TX10, 12, rfl⟩
theorem miL_80 : MI RL 80 yX11_forks cX11_forks 3 (some .int) 1 := ⟨(tin7 132 rfl rfl), w_1663, w_98, by decide +kernel⟩
theorem mvX11_forks : MIV yX11_forks 11 := ⟨(tin7 133 rfl rfl), (tin7 134 rfl rfl), TX11, 36, rfl⟩
theorem miL_81 : MI RL 81 yX10_ends cX10_ends 3 (some .int) 1 := ⟨(tin3 191 rfl rfl), w_762, w_89, by decide +kernel⟩
theorem mvX10_ends : MIV yX10_ends 10 := ⟨(tin3 192 rfl rfl), (tin3 193 rfl rfl), TX10, 12, rfl⟩
theorem miL_84 : MI RL 84 yX11_ends cX11_ends 2 (some .int) 1 := ⟨(tin7 142 rfl rfl), w_1673, w_98, by decide +kernel⟩
theorem mvX11_ends : MIV yX11_ends 11 := ⟨(tin7 143 rfl rfl), (tin7 144 rfl rfl), TX11, 36, rfl⟩
theorem miL_85 : MI RL 85 yX10_arrives cX10_arrives 5 (some .int) 3 := ⟨(tin3 199 rfl rfl), w_770, w_89, by decide +kernel⟩
theorem mvX10_arrives : MIV yX10_arrives 10 := ⟨(tin3 200 rfl rfl), (tin3 201 rfl rfl), TX10, 12, rfl⟩
theorem miL_88 : MI RL 88 yX11_arrives cX11_arrives 5 (some .int) 3 := ⟨(tin7 149 rfl rfl), w_1680, w_98, by decide +kernel⟩
theorem mvX11_arrives : MIV yX11_arrives 11 := ⟨(tin7 150 rfl rfl), (tin7 151 rfl rfl), TX11, 36, rfl⟩
theorem miL_89 : MI RL 89 yX10_tidies cX10_tidies 3 (some .int) 1 := ⟨(tin3 207 rfl rfl), w_778, w_89, by decide +kernel⟩
theorem mvX10_tidies : MIV yX10_tidies 10 := ⟨(tin3 208 rfl rfl), (tin3 209 rfl rfl), TX10, 12, rfl⟩
theorem miL_92 : MI RL 92 yX11_tidies cX11_tidies 2 (some .int) 1 := ⟨(tin7 164 rfl rfl), w_1695, w_98, by decide +kernel⟩
theorem mvX11_tidies : MIV yX11_tidies 11 := ⟨(tin7 165 rfl rfl), (tin7 166 rfl rfl), TX11, 36, rfl⟩
theorem miL_93 : MI RL 93 yX10_day cX10_day 7 (some .int) 0 := ⟨(tin3 225 rfl rfl), w_796, w_89, by decide +kernel⟩
theorem mvX10_day : MIV yX10_day 10 := ⟨(tin3 226 rfl rfl), (tin3 227 rfl rfl), TX10, 12, rfl⟩
theorem miL_96 : MI RL 96 yX11_day cX11_day 5 (some .int) 0 := ⟨(tin7 168 rfl rfl), w_1699, w_98, by decide +kernel⟩
theorem mvX11_day : MIV yX11_day 11 := ⟨(tin7 169 rfl rfl), (tin7 170 rfl rfl), TX11, 36, rfl⟩
theorem miL_97 : MI RL 97 yX10_undo cX10_undo 1 (some .int) 0 := ⟨(tin4 62 rfl rfl), w_873, w_89, by decide +kernel⟩
theorem mvX10_undo : MIV yX10_undo 10 := ⟨(tin4 63 rfl rfl), (tin4 64 rfl rfl), TX10, 12, rfl⟩
theorem miL_100 : MI RL 100 yX11_undo cX11_undo 2 (some .int) 0 := ⟨(tin7 184 rfl rfl), w_1715, w_98, by decide +kernel⟩
theorem mvX11_undo : MIV yX11_undo 11 := ⟨(tin7 185 rfl rfl), (tin7 186 rfl rfl), TX11, 36, rfl⟩
theorem miL_101 : MI RL 101 yX10_chain cX10_chain 5 (some .int) 1 := ⟨(tin4 74 rfl rfl), w_885, w_89, by decide +kernel⟩
theorem mvX10_chain : MIV yX10_chain 10 := ⟨(tin4 75 rfl rfl), (tin4 76 rfl rfl), TX10, 12, rfl⟩
theorem miL_104 : MI RL 104 yX11_chain cX11_chain 4 (some .int) 1 := ⟨(tin7 188 rfl rfl), w_1719, w_98, by decide +kernel⟩
theorem mvX11_chain : MIV yX11_chain 11 := ⟨(tin7 189 rfl rfl), (tin7 190 rfl rfl), TX11, 36, rfl⟩
theorem miL_105 : MI RL 105 yX10_peeks cX10_peeks 4 (some .int) 2 := ⟨(tin4 81 rfl rfl), w_892, w_89, by decide +kernel⟩
theorem mvX10_peeks : MIV yX10_peeks 10 := ⟨(tin4 82 rfl rfl), (tin4 83 rfl rfl), TX10, 12, rfl⟩
theorem miL_108 : MI RL 108 yX11_peeks cX11_peeks 4 (some .int) 2 := ⟨(tin7 192 rfl rfl), w_1723, w_98, by decide +kernel⟩
theorem mvX11_peeks : MIV yX11_peeks 11 := ⟨(tin7 193 rfl rfl), (tin7 194 rfl rfl), TX11, 36, rfl⟩
theorem miL_109 : MI RL 109 yX10_holders cX10_holders 2 (some .int) 1 := ⟨(tin4 86 rfl rfl), w_897, w_89, by decide +kernel⟩
theorem mvX10_holders : MIV yX10_holders 10 := ⟨(tin4 87 rfl rfl), (tin4 88 rfl rfl), TX10, 12, rfl⟩
theorem miL_112 : MI RL 112 yX11_holders cX11_holders 2 (some .int) 1 := ⟨(tin7 196 rfl rfl), w_1727, w_98, by decide +kernel⟩
theorem mvX11_holders : MIV yX11_holders 11 := ⟨(tin7 197 rfl rfl), (tin7 198 rfl rfl), TX11, 36, rfl⟩
theorem miL_113 : MI RL 113 yX10_shared cX10_shared 6 (some .int) 2 := ⟨(tin4 100 rfl rfl), w_911, w_89, by decide +kernel⟩
theorem mvX10_shared : MIV yX10_shared 10 := ⟨(tin4 101 rfl rfl), (tin4 102 rfl rfl), TX10, 12, rfl⟩
theorem miL_116 : MI RL 116 yX11_shared cX11_shared 5 (some .int) 2 := ⟨(tin7 207 rfl rfl), w_1738, w_98, by decide +kernel⟩
theorem mvX11_shared : MIV yX11_shared 11 := ⟨(tin7 208 rfl rfl), (tin7 209 rfl rfl), TX11, 36, rfl⟩
theorem miL_117 : MI RL 117 yX10_differ cX10_differ 6 (some .int) 2 := ⟨(tin4 108 rfl rfl), w_919, w_89, by decide +kernel⟩
theorem mvX10_differ : MIV yX10_differ 10 := ⟨(tin4 109 rfl rfl), (tin4 110 rfl rfl), TX10, 12, rfl⟩
theorem miL_120 : MI RL 120 yX11_differ cX11_differ 6 (some .int) 2 := ⟨(tin7 222 rfl rfl), w_1753, w_98, by decide +kernel⟩
theorem mvX11_differ : MIV yX11_differ 11 := ⟨(tin7 223 rfl rfl), (tin7 224 rfl rfl), TX11, 36, rfl⟩
theorem miL_121 : MI RL 121 yX10_common cX10_common 8 (some .int) 2 := ⟨(tin4 112 rfl rfl), w_923, w_89, by decide +kernel⟩
theorem mvX10_common : MIV yX10_common 10 := ⟨(tin4 113 rfl rfl), (tin4 114 rfl rfl), TX10, 12, rfl⟩
theorem miL_124 : MI RL 124 yX11_common cX11_common 6 (some .int) 2 := ⟨(tin7 226 rfl rfl), w_1757, w_98, by decide +kernel⟩
theorem mvX11_common : MIV yX11_common 11 := ⟨(tin7 227 rfl rfl), (tin7 228 rfl rfl), TX11, 36, rfl⟩
theorem miL_125 : MI RL 125 yX10_hidden cX10_hidden 4 (some .int) 0 := ⟨(tin4 116 rfl rfl), w_927, w_89, by decide +kernel⟩
theorem mvX10_hidden : MIV yX10_hidden 10 := ⟨(tin4 117 rfl rfl), (tin4 118 rfl rfl), TX10, 12, rfl⟩
theorem miL_128 : MI RL 128 yX11_hidden cX11_hidden 4 (some .int) 0 := ⟨(tin7 230 rfl rfl), w_1761, w_98, by decide +kernel⟩
theorem mvX11_hidden : MIV yX11_hidden 11 := ⟨(tin7 231 rfl rfl), (tin7 232 rfl rfl), TX11, 36, rfl⟩
theorem miL_129 : MI RL 129 yX10_frames cX10_frames 1 (some .int) 0 := ⟨(tin4 129 rfl rfl), w_940, w_89, by decide +kernel⟩
theorem mvX10_frames : MIV yX10_frames 10 := ⟨(tin4 130 rfl rfl), (tin4 131 rfl rfl), TX10, 12, rfl⟩
theorem miL_132 : MI RL 132 yX11_frames cX11_frames 4 (some .int) 0 := ⟨(tin7 238 rfl rfl), w_1769, w_98, by decide +kernel⟩
theorem mvX11_frames : MIV yX11_frames 11 := ⟨(tin7 239 rfl rfl), (tin8 0 rfl rfl), TX11, 36, rfl⟩
theorem miL_133 : MI RL 133 yX10_deepest cX10_deepest 6 (some .int) 0 := ⟨(tin4 137 rfl rfl), w_948, w_89, by decide +kernel⟩
theorem mvX10_deepest : MIV yX10_deepest 10 := ⟨(tin4 138 rfl rfl), (tin4 139 rfl rfl), TX10, 12, rfl⟩
theorem miL_136 : MI RL 136 yX11_deepest cX11_deepest 5 (some .int) 0 := ⟨(tin8 2 rfl rfl), w_1773, w_98, by decide +kernel⟩
theorem mvX11_deepest : MIV yX11_deepest 11 := ⟨(tin8 3 rfl rfl), (tin8 4 rfl rfl), TX11, 36, rfl⟩
theorem miL_137 : MI RL 137 yX10_would cX10_would 3 (some .int) 1 := ⟨(tin4 141 rfl rfl), w_952, w_89, by decide +kernel⟩
theorem mvX10_would : MIV yX10_would 10 := ⟨(tin4 142 rfl rfl), (tin4 143 rfl rfl), TX10, 12, rfl⟩
theorem miL_140 : MI RL 140 yX11_would cX11_would 2 (some .int) 1 := ⟨(tin8 6 rfl rfl), w_1777, w_98, by decide +kernel⟩
theorem mvX11_would : MIV yX11_would 11 := ⟨(tin8 7 rfl rfl), (tin8 8 rfl rfl), TX11, 36, rfl⟩
theorem miL_141 : MI RL 141 yX10_frees cX10_frees 4 (some .int) 1 := ⟨(tin4 146 rfl rfl), w_957, w_89, by decide +kernel⟩
theorem mvX10_frees : MIV yX10_frees 10 := ⟨(tin4 147 rfl rfl), (tin4 148 rfl rfl), TX10, 12, rfl⟩
theorem miL_144 : MI RL 144 yX11_frees cX11_frees 4 (some .int) 1 := ⟨(tin8 10 rfl rfl), w_1781, w_98, by decide +kernel⟩
theorem mvX11_frees : MIV yX11_frees 11 := ⟨(tin8 11 rfl rfl), (tin8 12 rfl rfl), TX11, 36, rfl⟩
theorem miL_145 : MI RL 145 yX10_storm cX10_storm 5 (some .int) 2 := ⟨(tin4 151 rfl rfl), w_962, w_89, by decide +kernel⟩
theorem mvX10_storm : MIV yX10_storm 10 := ⟨(tin4 152 rfl rfl), (tin4 153 rfl rfl), TX10, 12, rfl⟩
theorem miL_148 : MI RL 148 yX11_storm cX11_storm 5 (some .int) 2 := ⟨(tin8 14 rfl rfl), w_1785, w_98, by decide +kernel⟩
theorem mvX11_storm : MIV yX11_storm 11 := ⟨(tin8 15 rfl rfl), (tin8 16 rfl rfl), TX11, 36, rfl⟩
theorem miL_149 : MI RL 149 yX10_sweep cX10_sweep 5 (some .int) 2 := ⟨(tin4 155 rfl rfl), w_966, w_89, by decide +kernel⟩
theorem mvX10_sweep : MIV yX10_sweep 10 := ⟨(tin4 156 rfl rfl), (tin4 157 rfl rfl), TX10, 12, rfl⟩
theorem miL_152 : MI RL 152 yX11_sweep cX11_sweep 5 (some .int) 2 := ⟨(tin8 25 rfl rfl), w_1796, w_98, by decide +kernel⟩
theorem mvX11_sweep : MIV yX11_sweep 11 := ⟨(tin8 26 rfl rfl), (tin8 27 rfl rfl), TX11, 36, rfl⟩
theorem miL_153 : MI RL 153 yX10_odds cX10_odds 8 (some .int) 3 := ⟨(tin4 160 rfl rfl), w_971, w_89, by decide +kernel⟩
theorem mvX10_odds : MIV yX10_odds 10 := ⟨(tin4 161 rfl rfl), (tin4 162 rfl rfl), TX10, 12, rfl⟩
theorem miL_156 : MI RL 156 yX11_odds cX11_odds 13 (some .int) 3 := ⟨(tin8 29 rfl rfl), w_1800, w_98, by decide +kernel⟩
theorem mvX11_odds : MIV yX11_odds 11 := ⟨(tin8 30 rfl rfl), (tin8 31 rfl rfl), TX11, 36, rfl⟩
theorem miL_157 : MI RL 157 yX10_heard cX10_heard 3 (some .int) 2 := ⟨(tin4 182 rfl rfl), w_993, w_89, by decide +kernel⟩
theorem mvX10_heard : MIV yX10_heard 10 := ⟨(tin4 183 rfl rfl), (tin4 184 rfl rfl), TX10, 12, rfl⟩
theorem miL_160 : MI RL 160 yX11_heard cX11_heard 3 (some .int) 2 := ⟨(tin8 37 rfl rfl), w_1808, w_98, by decide +kernel⟩
theorem mvX11_heard : MIV yX11_heard 11 := ⟨(tin8 38 rfl rfl), (tin8 39 rfl rfl), TX11, 36, rfl⟩
theorem miL_161 : MI RL 161 yX10_forget cX10_forget 1 (some .int) 0 := ⟨(tin4 193 rfl rfl), w_1004, w_89, by decide +kernel⟩
theorem mvX10_forget : MIV yX10_forget 10 := ⟨(tin4 194 rfl rfl), (tin4 195 rfl rfl), TX10, 12, rfl⟩
theorem miL_164 : MI RL 164 yX11_forget cX11_forget 2 (some .int) 0 := ⟨(tin8 44 rfl rfl), w_1815, w_98, by decide +kernel⟩
theorem mvX11_forget : MIV yX11_forget 11 := ⟨(tin8 45 rfl rfl), (tin8 46 rfl rfl), TX11, 36, rfl⟩
theorem miL_165 : MI RL 165 yX10_fits cX10_fits 2 (some .int) 0 := ⟨(tin4 201 rfl rfl), w_1012, w_89, by decide +kernel⟩
theorem mvX10_fits : MIV yX10_fits 10 := ⟨(tin4 202 rfl rfl), (tin4 203 rfl rfl), TX10, 12, rfl⟩
theorem miL_168 : MI RL 168 yX11_fits cX11_fits 3 (some .int) 0 := ⟨(tin8 48 rfl rfl), w_1819, w_98, by decide +kernel⟩
theorem mvX11_fits : MIV yX11_fits 11 := ⟨(tin8 49 rfl rfl), (tin8 50 rfl rfl), TX11, 36, rfl⟩
theorem miL_169 : MI RL 169 yX10_asks cX10_asks 8 (some .int) 0 := ⟨(tin4 227 rfl rfl), w_1038, w_89, by decide +kernel⟩
theorem mvX10_asks : MIV yX10_asks 10 := ⟨(tin4 228 rfl rfl), (tin4 229 rfl rfl), TX10, 12, rfl⟩
theorem miL_172 : MI RL 172 yX11_asks cX11_asks 8 (some .int) 0 := ⟨(tin8 64 rfl rfl), w_1835, w_98, by decide +kernel⟩
theorem mvX11_asks : MIV yX11_asks 11 := ⟨(tin8 65 rfl rfl), (tin8 66 rfl rfl), TX11, 36, rfl⟩
theorem miL_173 : MI RL 173 yX10_saw cX10_saw 4 (some .int) 3 := ⟨(tin4 236 rfl rfl), w_1047, w_89, by decide +kernel⟩
theorem mvX10_saw : MIV yX10_saw 10 := ⟨(tin4 237 rfl rfl), (tin4 238 rfl rfl), TX10, 12, rfl⟩
theorem miL_176 : MI RL 176 yX11_saw cX11_saw 4 (some .int) 3 := ⟨(tin8 69 rfl rfl), w_1840, w_98, by decide +kernel⟩
theorem mvX11_saw : MIV yX11_saw 11 := ⟨(tin8 70 rfl rfl), (tin8 71 rfl rfl), TX11, 36, rfl⟩
theorem miL_177 : MI RL 177 yX10_denies cX10_denies 1 (some .int) 0 := ⟨(tin5 4 rfl rfl), w_1055, w_89, by decide +kernel⟩
theorem mvX10_denies : MIV yX10_denies 10 := ⟨(tin5 5 rfl rfl), (tin5 6 rfl rfl), TX10, 12, rfl⟩
theorem miL_180 : MI RL 180 yX11_denies cX11_denies 2 (some .int) 0 := ⟨(tin8 73 rfl rfl), w_1844, w_98, by decide +kernel⟩
theorem mvX11_denies : MIV yX11_denies 11 := ⟨(tin8 74 rfl rfl), (tin8 75 rfl rfl), TX11, 36, rfl⟩
theorem miL_181 : MI RL 181 yX10_laws cX10_laws 4 (some .int) 0 := ⟨(tin5 12 rfl rfl), w_1063, w_89, by decide +kernel⟩
theorem mvX10_laws : MIV yX10_laws 10 := ⟨(tin5 13 rfl rfl), (tin5 14 rfl rfl), TX10, 12, rfl⟩
theorem miL_184 : MI RL 184 yX11_laws cX11_laws 3 (some .int) 0 := ⟨(tin8 77 rfl rfl), w_1848, w_98, by decide +kernel⟩
theorem mvX11_laws : MIV yX11_laws 11 := ⟨(tin8 78 rfl rfl), (tin8 79 rfl rfl), TX11, 36, rfl⟩
theorem miL_185 : MI RL 185 yX10_looks cX10_looks 8 (some .int) 0 := ⟨(tin5 23 rfl rfl), w_1074, w_89, by decide +kernel⟩
theorem mvX10_looks : MIV yX10_looks 10 := ⟨(tin5 24 rfl rfl), (tin5 25 rfl rfl), TX10, 12, rfl⟩
theorem miL_188 : MI RL 188 yX11_looks cX11_looks 8 (some .int) 0 := ⟨(tin8 88 rfl rfl), w_1859, w_98, by decide +kernel⟩
theorem mvX11_looks : MIV yX11_looks 11 := ⟨(tin8 89 rfl rfl), (tin8 90 rfl rfl), TX11, 36, rfl⟩
theorem miL_189 : MI RL 189 yX10_pages cX10_pages 4 (some .int) 1 := ⟨(tin5 36 rfl rfl), w_1087, w_89, by decide +kernel⟩
theorem mvX10_pages : MIV yX10_pages 10 := ⟨(tin5 37 rfl rfl), (tin5 38 rfl rfl), TX10, 12, rfl⟩
theorem miL_192 : MI RL 192 yX11_pages cX11_pages 4 (some .int) 1 := ⟨(tin8 92 rfl rfl), w_1863, w_98, by decide +kernel⟩
theorem mvX11_pages : MIV yX11_pages 11 := ⟨(tin8 93 rfl rfl), (tin8 94 rfl rfl), TX11, 36, rfl⟩
theorem miL_193 : MI RL 193 yX10_rests cX10_rests 5 (some .int) 1 := ⟨(tin5 61 rfl rfl), w_1112, w_89, by decide +kernel⟩
theorem mvX10_rests : MIV yX10_rests 10 := ⟨(tin5 62 rfl rfl), (tin5 63 rfl rfl), TX10, 12, rfl⟩
theorem miL_196 : MI RL 196 yX11_rests cX11_rests 5 (some .int) 1 := ⟨(tin8 100 rfl rfl), w_1871, w_98, by decide +kernel⟩
theorem mvX11_rests : MIV yX11_rests 11 := ⟨(tin8 101 rfl rfl), (tin8 102 rfl rfl), TX11, 36, rfl⟩
theorem miL_197 : MI RL 197 yX10_law cX10_law 4 (some .int) 0 := ⟨(tin5 71 rfl rfl), w_1122, w_89, by decide +kernel⟩
theorem mvX10_law : MIV yX10_law 10 := ⟨(tin5 72 rfl rfl), (tin5 73 rfl rfl), TX10, 12, rfl⟩
theorem miL_200 : MI RL 200 yX11_law cX11_law 7 (some .int) 0 := ⟨(tin8 110 rfl rfl), w_1881, w_98, by decide +kernel⟩
theorem mvX11_law : MIV yX11_law 11 := ⟨(tin8 111 rfl rfl), (tin8 112 rfl rfl), TX11, 36, rfl⟩
theorem miL_201 : MI RL 201 yX10_years cX10_years 7 (some .int) 2 := ⟨(tin5 79 rfl rfl), w_1130, w_89, by decide +kernel⟩
theorem mvX10_years : MIV yX10_years 10 := ⟨(tin5 80 rfl rfl), (tin5 81 rfl rfl), TX10, 12, rfl⟩
theorem miL_204 : MI RL 204 yX11_years cX11_years 7 (some .int) 2 := ⟨(tin8 118 rfl rfl), w_1889, w_98, by decide +kernel⟩
theorem mvX11_years : MIV yX11_years 11 := ⟨(tin8 119 rfl rfl), (tin8 120 rfl rfl), TX11, 36, rfl⟩
theorem miL_205 : MI RL 205 yX10_keep cX10_keep 2 (some .boolean) 1 := ⟨(tin5 110 rfl rfl), w_1161, w_89, by decide +kernel⟩
theorem mvX10_keep : MIV yX10_keep 10 := ⟨(tin5 111 rfl rfl), (tin5 112 rfl rfl), TX10, 12, rfl⟩
theorem miL_208 : MI RL 208 yX11_keep cX11_keep 2 (some .boolean) 1 := ⟨(tin8 127 rfl rfl), w_1898, w_98, by decide +kernel⟩
theorem mvX11_keep : MIV yX11_keep 11 := ⟨(tin8 128 rfl rfl), (tin8 129 rfl rfl), TX11, 36, rfl⟩
theorem miL_209 : MI RL 209 yX10_again cX10_again 2 (some .boolean) 1 := ⟨(tin5 118 rfl rfl), w_1169, w_89, by decide +kernel⟩
theorem mvX10_again : MIV yX10_again 10 := ⟨(tin5 119 rfl rfl), (tin5 120 rfl rfl), TX10, 12, rfl⟩
theorem miL_212 : MI RL 212 yX11_again cX11_again 3 (some .boolean) 1 := ⟨(tin8 131 rfl rfl), w_1902, w_98, by decide +kernel⟩
theorem mvX11_again : MIV yX11_again 11 := ⟨(tin8 132 rfl rfl), (tin8 133 rfl rfl), TX11, 36, rfl⟩
theorem miL_213 : MI RL 213 yX10_count cX10_count 2 (some .int) 1 := ⟨(tin5 126 rfl rfl), w_1177, w_89, by decide +kernel⟩
theorem mvX10_count : MIV yX10_count 10 := ⟨(tin5 127 rfl rfl), (tin5 128 rfl rfl), TX10, 12, rfl⟩
theorem miL_216 : MI RL 216 yX11_count cX11_count 2 (some .int) 1 := ⟨(tin8 135 rfl rfl), w_1906, w_98, by decide +kernel⟩
theorem mvX11_count : MIV yX11_count 11 := ⟨(tin8 136 rfl rfl), (tin8 137 rfl rfl), TX11, 36, rfl⟩
theorem miL_217 : MIW RL 217 yL_row cL_row 4 (some .int) [(0, 8, 11, 13)] 3 := ⟨w_1290, w_1292, w_88, w_1291, by decide +kernel⟩
theorem miL_220 : MI RL 220 yX11_row cX11_row 2 (some .long) 1 := ⟨(tin8 143 rfl rfl), w_1914, w_98, by decide +kernel⟩
theorem mvX11_row : MIV yX11_row 11 := ⟨(tin8 144 rfl rfl), (tin8 145 rfl rfl), TX11, 36, rfl⟩
theorem clL_8 : CLS RL 8 10 12 [.null, .int 0, .null, .null, .null, .null, .null, .null, .null, .null, .null, .null] := ⟨RX10, TX10, tyX10, rfl, in_X10, tyX10_ok, (tin1 26 rfl rfl), (tin1 27 rfl rfl), (tin1 1 rfl rfl), fun j hj => by rcases (show j = 0 ∨ j = 1 ∨ j = 2 ∨ j = 3 ∨ j = 4 ∨ j = 5 ∨ j = 6 ∨ j = 7 ∨ j = 8 ∨ j = 9 ∨ j = 10 ∨ j = 11 by omega) with rfl | rfl | rfl | rfl | rfl | rfl | rfl | rfl | rfl | rfl | rfl | rfl <;> rfl, rfl⟩
theorem miL_25 : MI RL 25 yX10_init cX10_init 1 none 0 := ⟨(tin1 28 rfl rfl), w_118, w_89, by decide +kernel⟩
theorem clL_26 : CLS RL 26 11 36 [.null, .null, .int 0, .null, .int 0, .int 0, .null, .int 0, .int 0, .int 0, .int 0, .null, .null, .null, .int 0, .int 0, .null, .null, .int 0, .null, .null, .int 0, .int 0, .null, .null, .null, .int 0, .null, .null, .null, .null, .int 0, .null, .int 0, .null, .null] := ⟨RX11, TX11, tyX11, rfl, in_X11, tyX11_ok, (tin6 18 rfl rfl), (tin6 19 rfl rfl), (tin1 10 rfl rfl), fun j hj => by rcases (show j = 0 ∨ j = 1 ∨ j = 2 ∨ j = 3 ∨ j = 4 ∨ j = 5 ∨ j = 6 ∨ j = 7 ∨ j = 8 ∨ j = 9 ∨ j = 10 ∨ j = 11 ∨ j = 12 ∨ j = 13 ∨ j = 14 ∨ j = 15 ∨ j = 16 ∨ j = 17 ∨ j = 18 ∨ j = 19 ∨ j = 20 ∨ j = 21 ∨ j = 22 ∨ j = 23 ∨ j = 24 ∨ j = 25 ∨ j = 26 ∨ j = 27 ∨ j = 28 ∨ j = 29 ∨ j = 30 ∨ j = 31 ∨ j = 32 ∨ j = 33 ∨ j = 34 ∨ j = 35 by omega) with rfl | rfl | rfl | rfl | rfl | rfl | rfl | rfl | rfl | rfl | rfl | rfl | rfl | rfl | rfl | rfl | rfl | rfl | rfl | rfl | rfl | rfl | rfl | rfl | rfl | rfl | rfl | rfl | rfl | rfl | rfl | rfl | rfl | rfl | rfl | rfl <;> rfl, rfl⟩
theorem miL_28 : MI RL 28 yX11_init cX11_init 2 none 0 := ⟨(tin6 20 rfl rfl), w_1310, w_98, by decide +kernel⟩
theorem dL_law_0 : decode cL_law 0 = .ok (.new 8, 3) := by decide +kernel
theorem dL_law_3 : decode cL_law 3 = .ok (.dup, 1) := by decide +kernel
theorem dL_law_4 : decode cL_law 4 = .ok (.invokespecial 25, 3) := by decide +kernel
theorem dL_law_7 : decode cL_law 7 = .ok (.astore_n 1, 1) := by decide +kernel
theorem dL_law_8 : decode cL_law 8 = .ok (.new 26, 3) := by decide +kernel
theorem dL_law_11 : decode cL_law 11 = .ok (.dup, 1) := by decide +kernel
theorem dL_law_12 : decode cL_law 12 = .ok (.invokespecial 28, 3) := by decide +kernel
theorem dL_law_15 : decode cL_law 15 = .ok (.astore_n 2, 1) := by decide +kernel
theorem dL_law_16 : decode cL_law 16 = .ok (.iconst 1, 1) := by decide +kernel
theorem dL_law_17 : decode cL_law 17 = .ok (.newarray .long, 2) := by decide +kernel
theorem dL_law_19 : decode cL_law 19 = .ok (.astore_n 3, 1) := by decide +kernel
theorem dL_law_20 : decode cL_law 20 = .ok (.iconst 0, 1) := by decide +kernel
theorem dL_law_21 : decode cL_law 21 = .ok (.istore 4, 2) := by decide +kernel
theorem dL_law_23 : decode cL_law 23 = .ok (.iload 4, 2) := by decide +kernel
theorem dL_law_25 : decode cL_law 25 = .ok (.aload_n 0, 1) := by decide +kernel
theorem dL_law_26 : decode cL_law 26 = .ok (.arraylength, 1) := by decide +kernel
theorem dL_law_27 : decode cL_law 27 = .ok (.iconst 5, 1) := by decide +kernel
theorem dL_law_28 : decode cL_law 28 = .ok (.isub, 1) := by decide +kernel
theorem dL_law_29 : decode cL_law 29 = .ok (.if_icmp .gt 1594, 3) := by decide +kernel
theorem dL_law_32 : decode cL_law 32 = .ok (.aload_n 0, 1) := by decide +kernel
theorem dL_law_33 : decode cL_law 33 = .ok (.iload 4, 2) := by decide +kernel
theorem dL_law_35 : decode cL_law 35 = .ok (.iaload, 1) := by decide +kernel
theorem dL_law_36 : decode cL_law 36 = .ok (.bipush 63, 2) := by decide +kernel
theorem dL_law_38 : decode cL_law 38 = .ok (.iand, 1) := by decide +kernel
theorem dL_law_39 : decode cL_law 39 = .ok (.tableswitch 1578 0 45 #[197, 222, 247, 260, 273, 341, 409, 477, 538, 575, 624, 649, 674, 723, 748, 761, 774, 799, 836, 861, 898, 935, 972, 985, 998, 1011, 1036, 1061, 1098, 1135, 1184, 1221, 1234, 1247, 1260, 1309, 1322, 1335, 1348, 1373, 1398, 1411, 1448, 1473, 1498, 1523], 197) := by decide +kernel
theorem dL_law_236 : decode cL_law 236 = .ok (.aload_n 1, 1) := by decide +kernel
theorem dL_law_237 : decode cL_law 237 = .ok (.aload_n 0, 1) := by decide +kernel
theorem dL_law_238 : decode cL_law 238 = .ok (.iload 4, 2) := by decide +kernel
theorem dL_law_240 : decode cL_law 240 = .ok (.iconst 1, 1) := by decide +kernel
theorem dL_law_241 : decode cL_law 241 = .ok (.iadd, 1) := by decide +kernel
theorem dL_law_242 : decode cL_law 242 = .ok (.iaload, 1) := by decide +kernel
theorem dL_law_243 : decode cL_law 243 = .ok (.invokevirtual 29, 3) := by decide +kernel
theorem dL_law_246 : decode cL_law 246 = .ok (.aload_n 2, 1) := by decide +kernel
theorem dL_law_247 : decode cL_law 247 = .ok (.aload_n 0, 1) := by decide +kernel
theorem dL_law_248 : decode cL_law 248 = .ok (.iload 4, 2) := by decide +kernel
theorem dL_law_250 : decode cL_law 250 = .ok (.iconst 1, 1) := by decide +kernel
theorem dL_law_251 : decode cL_law 251 = .ok (.iadd, 1) := by decide +kernel
theorem dL_law_252 : decode cL_law 252 = .ok (.iaload, 1) := by decide +kernel
theorem dL_law_253 : decode cL_law 253 = .ok (.invokevirtual 33, 3) := by decide +kernel
theorem dL_law_256 : decode cL_law 256 = .ok (.if_icmp .eq 1361, 3) := by decide +kernel
theorem dL_law_259 : decode cL_law 259 = .ok (.iconst 0, 1) := by decide +kernel
theorem dL_law_260 : decode cL_law 260 = .ok (.ireturn, 1) := by decide +kernel
theorem dL_law_261 : decode cL_law 261 = .ok (.aload_n 1, 1) := by decide +kernel
theorem dL_law_262 : decode cL_law 262 = .ok (.aload_n 0, 1) := by decide +kernel
theorem dL_law_263 : decode cL_law 263 = .ok (.iload 4, 2) := by decide +kernel
theorem dL_law_265 : decode cL_law 265 = .ok (.iconst 1, 1) := by decide +kernel
theorem dL_law_266 : decode cL_law 266 = .ok (.iadd, 1) := by decide +kernel
theorem dL_law_267 : decode cL_law 267 = .ok (.iaload, 1) := by decide +kernel
theorem dL_law_268 : decode cL_law 268 = .ok (.invokevirtual 34, 3) := by decide +kernel
theorem dL_law_271 : decode cL_law 271 = .ok (.aload_n 2, 1) := by decide +kernel
theorem dL_law_272 : decode cL_law 272 = .ok (.aload_n 0, 1) := by decide +kernel
theorem dL_law_273 : decode cL_law 273 = .ok (.iload 4, 2) := by decide +kernel
theorem dL_law_275 : decode cL_law 275 = .ok (.iconst 1, 1) := by decide +kernel
theorem dL_law_276 : decode cL_law 276 = .ok (.iadd, 1) := by decide +kernel
theorem dL_law_277 : decode cL_law 277 = .ok (.iaload, 1) := by decide +kernel
theorem dL_law_278 : decode cL_law 278 = .ok (.invokevirtual 38, 3) := by decide +kernel
theorem dL_law_281 : decode cL_law 281 = .ok (.if_icmp .eq 1336, 3) := by decide +kernel
theorem dL_law_284 : decode cL_law 284 = .ok (.iconst 0, 1) := by decide +kernel
theorem dL_law_285 : decode cL_law 285 = .ok (.ireturn, 1) := by decide +kernel
theorem dL_law_286 : decode cL_law 286 = .ok (.aload_n 1, 1) := by decide +kernel
theorem dL_law_287 : decode cL_law 287 = .ok (.invokevirtual 39, 3) := by decide +kernel
theorem dL_law_290 : decode cL_law 290 = .ok (.aload_n 2, 1) := by decide +kernel
theorem dL_law_291 : decode cL_law 291 = .ok (.invokevirtual 43, 3) := by decide +kernel
theorem dL_law_294 : decode cL_law 294 = .ok (.if_icmp .eq 1323, 3) := by decide +kernel
theorem dL_law_297 : decode cL_law 297 = .ok (.iconst 0, 1) := by decide +kernel
theorem dL_law_298 : decode cL_law 298 = .ok (.ireturn, 1) := by decide +kernel
theorem dL_law_299 : decode cL_law 299 = .ok (.aload_n 1, 1) := by decide +kernel
theorem dL_law_300 : decode cL_law 300 = .ok (.invokevirtual 44, 3) := by decide +kernel
theorem dL_law_303 : decode cL_law 303 = .ok (.aload_n 2, 1) := by decide +kernel
theorem dL_law_304 : decode cL_law 304 = .ok (.invokevirtual 47, 3) := by decide +kernel
theorem dL_law_307 : decode cL_law 307 = .ok (.if_icmp .eq 1310, 3) := by decide +kernel
theorem dL_law_310 : decode cL_law 310 = .ok (.iconst 0, 1) := by decide +kernel
theorem dL_law_311 : decode cL_law 311 = .ok (.ireturn, 1) := by decide +kernel
theorem dL_law_312 : decode cL_law 312 = .ok (.aload_n 1, 1) := by decide +kernel
theorem dL_law_313 : decode cL_law 313 = .ok (.aload_n 0, 1) := by decide +kernel
theorem dL_law_314 : decode cL_law 314 = .ok (.iload 4, 2) := by decide +kernel
theorem dL_law_316 : decode cL_law 316 = .ok (.iconst 1, 1) := by decide +kernel
theorem dL_law_317 : decode cL_law 317 = .ok (.iadd, 1) := by decide +kernel
theorem dL_law_318 : decode cL_law 318 = .ok (.iaload, 1) := by decide +kernel
theorem dL_law_319 : decode cL_law 319 = .ok (.aload_n 0, 1) := by decide +kernel
theorem dL_law_320 : decode cL_law 320 = .ok (.iload 4, 2) := by decide +kernel
theorem dL_law_322 : decode cL_law 322 = .ok (.iconst 2, 1) := by decide +kernel
theorem dL_law_323 : decode cL_law 323 = .ok (.iadd, 1) := by decide +kernel
theorem dL_law_324 : decode cL_law 324 = .ok (.iaload, 1) := by decide +kernel
theorem dL_law_325 : decode cL_law 325 = .ok (.aload_n 3, 1) := by decide +kernel
theorem dL_law_326 : decode cL_law 326 = .ok (.invokestatic 48, 3) := by decide +kernel
theorem dL_law_329 : decode cL_law 329 = .ok (.istore 5, 2) := by decide +kernel
theorem dL_law_331 : decode cL_law 331 = .ok (.aload_n 2, 1) := by decide +kernel
theorem dL_law_332 : decode cL_law 332 = .ok (.aload_n 0, 1) := by decide +kernel
theorem dL_law_333 : decode cL_law 333 = .ok (.iload 4, 2) := by decide +kernel
theorem dL_law_335 : decode cL_law 335 = .ok (.iconst 1, 1) := by decide +kernel
theorem dL_law_336 : decode cL_law 336 = .ok (.iadd, 1) := by decide +kernel
theorem dL_law_337 : decode cL_law 337 = .ok (.iaload, 1) := by decide +kernel
theorem dL_law_338 : decode cL_law 338 = .ok (.aload_n 0, 1) := by decide +kernel
theorem dL_law_339 : decode cL_law 339 = .ok (.iload 4, 2) := by decide +kernel
theorem dL_law_341 : decode cL_law 341 = .ok (.iconst 2, 1) := by decide +kernel
theorem dL_law_342 : decode cL_law 342 = .ok (.iadd, 1) := by decide +kernel
theorem dL_law_343 : decode cL_law 343 = .ok (.iaload, 1) := by decide +kernel
theorem dL_law_344 : decode cL_law 344 = .ok (.invokevirtual 53, 3) := by decide +kernel
theorem dL_law_347 : decode cL_law 347 = .ok (.istore 6, 2) := by decide +kernel
theorem dL_law_349 : decode cL_law 349 = .ok (.aload_n 2, 1) := by decide +kernel
theorem dL_law_350 : decode cL_law 350 = .ok (.invokevirtual 54, 3) := by decide +kernel
theorem dL_law_353 : decode cL_law 353 = .ok (.iload 5, 2) := by decide +kernel
theorem dL_law_355 : decode cL_law 355 = .ok (.if_icmp .eq 5, 3) := by decide +kernel
theorem dL_law_358 : decode cL_law 358 = .ok (.iconst 0, 1) := by decide +kernel
theorem dL_law_359 : decode cL_law 359 = .ok (.ireturn, 1) := by decide +kernel
theorem dL_law_360 : decode cL_law 360 = .ok (.iload 5, 2) := by decide +kernel
theorem dL_law_362 : decode cL_law 362 = .ok (.ifCond .ne 15, 3) := by decide +kernel
theorem dL_law_365 : decode cL_law 365 = .ok (.aload_n 3, 1) := by decide +kernel
theorem dL_law_366 : decode cL_law 366 = .ok (.iconst 0, 1) := by decide +kernel
theorem dL_law_367 : decode cL_law 367 = .ok (.laload, 1) := by decide +kernel
theorem dL_law_368 : decode cL_law 368 = .ok (.iload 6, 2) := by decide +kernel
theorem dL_law_370 : decode cL_law 370 = .ok (.i2l, 1) := by decide +kernel
theorem dL_law_371 : decode cL_law 371 = .ok (.lcmp, 1) := by decide +kernel
theorem dL_law_372 : decode cL_law 372 = .ok (.ifCond .eq 5, 3) := by decide +kernel
theorem dL_law_375 : decode cL_law 375 = .ok (.iconst 0, 1) := by decide +kernel
theorem dL_law_376 : decode cL_law 376 = .ok (.ireturn, 1) := by decide +kernel
theorem dL_law_377 : decode cL_law 377 = .ok (.goto 1240, 3) := by decide +kernel
theorem dL_law_380 : decode cL_law 380 = .ok (.aload_n 1, 1) := by decide +kernel
theorem dL_law_381 : decode cL_law 381 = .ok (.aload_n 0, 1) := by decide +kernel
theorem dL_law_382 : decode cL_law 382 = .ok (.iload 4, 2) := by decide +kernel
theorem dL_law_384 : decode cL_law 384 = .ok (.iconst 1, 1) := by decide +kernel
theorem dL_law_385 : decode cL_law 385 = .ok (.iadd, 1) := by decide +kernel
theorem dL_law_386 : decode cL_law 386 = .ok (.iaload, 1) := by decide +kernel
theorem dL_law_387 : decode cL_law 387 = .ok (.aload_n 0, 1) := by decide +kernel
theorem dL_law_388 : decode cL_law 388 = .ok (.iload 4, 2) := by decide +kernel
theorem dL_law_390 : decode cL_law 390 = .ok (.iconst 2, 1) := by decide +kernel
theorem dL_law_391 : decode cL_law 391 = .ok (.iadd, 1) := by decide +kernel
theorem dL_law_392 : decode cL_law 392 = .ok (.iaload, 1) := by decide +kernel
theorem dL_law_393 : decode cL_law 393 = .ok (.aload_n 3, 1) := by decide +kernel
theorem dL_law_394 : decode cL_law 394 = .ok (.invokestatic 57, 3) := by decide +kernel
theorem dL_law_397 : decode cL_law 397 = .ok (.istore 5, 2) := by decide +kernel
theorem dL_law_399 : decode cL_law 399 = .ok (.aload_n 2, 1) := by decide +kernel
theorem dL_law_400 : decode cL_law 400 = .ok (.aload_n 0, 1) := by decide +kernel
theorem dL_law_401 : decode cL_law 401 = .ok (.iload 4, 2) := by decide +kernel
theorem dL_law_403 : decode cL_law 403 = .ok (.iconst 1, 1) := by decide +kernel
theorem dL_law_404 : decode cL_law 404 = .ok (.iadd, 1) := by decide +kernel
theorem dL_law_405 : decode cL_law 405 = .ok (.iaload, 1) := by decide +kernel
theorem dL_law_406 : decode cL_law 406 = .ok (.aload_n 0, 1) := by decide +kernel
theorem dL_law_407 : decode cL_law 407 = .ok (.iload 4, 2) := by decide +kernel
theorem dL_law_409 : decode cL_law 409 = .ok (.iconst 2, 1) := by decide +kernel
theorem dL_law_410 : decode cL_law 410 = .ok (.iadd, 1) := by decide +kernel
theorem dL_law_411 : decode cL_law 411 = .ok (.iaload, 1) := by decide +kernel
theorem dL_law_412 : decode cL_law 412 = .ok (.invokevirtual 59, 3) := by decide +kernel
theorem dL_law_415 : decode cL_law 415 = .ok (.istore 6, 2) := by decide +kernel
theorem dL_law_417 : decode cL_law 417 = .ok (.aload_n 2, 1) := by decide +kernel
theorem dL_law_418 : decode cL_law 418 = .ok (.invokevirtual 54, 3) := by decide +kernel
theorem dL_law_421 : decode cL_law 421 = .ok (.iload 5, 2) := by decide +kernel
theorem dL_law_423 : decode cL_law 423 = .ok (.if_icmp .eq 5, 3) := by decide +kernel
theorem dL_law_426 : decode cL_law 426 = .ok (.iconst 0, 1) := by decide +kernel
theorem dL_law_427 : decode cL_law 427 = .ok (.ireturn, 1) := by decide +kernel
theorem dL_law_428 : decode cL_law 428 = .ok (.iload 5, 2) := by decide +kernel
theorem dL_law_430 : decode cL_law 430 = .ok (.ifCond .ne 15, 3) := by decide +kernel
theorem dL_law_433 : decode cL_law 433 = .ok (.aload_n 3, 1) := by decide +kernel
theorem dL_law_434 : decode cL_law 434 = .ok (.iconst 0, 1) := by decide +kernel
theorem dL_law_435 : decode cL_law 435 = .ok (.laload, 1) := by decide +kernel
theorem dL_law_436 : decode cL_law 436 = .ok (.iload 6, 2) := by decide +kernel
theorem dL_law_438 : decode cL_law 438 = .ok (.i2l, 1) := by decide +kernel
theorem dL_law_439 : decode cL_law 439 = .ok (.lcmp, 1) := by decide +kernel
theorem dL_law_440 : decode cL_law 440 = .ok (.ifCond .eq 5, 3) := by decide +kernel
theorem dL_law_443 : decode cL_law 443 = .ok (.iconst 0, 1) := by decide +kernel
theorem dL_law_444 : decode cL_law 444 = .ok (.ireturn, 1) := by decide +kernel
theorem dL_law_445 : decode cL_law 445 = .ok (.goto 1172, 3) := by decide +kernel
theorem dL_law_448 : decode cL_law 448 = .ok (.aload_n 1, 1) := by decide +kernel
theorem dL_law_449 : decode cL_law 449 = .ok (.aload_n 0, 1) := by decide +kernel
theorem dL_law_450 : decode cL_law 450 = .ok (.iload 4, 2) := by decide +kernel
theorem dL_law_452 : decode cL_law 452 = .ok (.iconst 1, 1) := by decide +kernel
theorem dL_law_453 : decode cL_law 453 = .ok (.iadd, 1) := by decide +kernel
theorem dL_law_454 : decode cL_law 454 = .ok (.iaload, 1) := by decide +kernel
theorem dL_law_455 : decode cL_law 455 = .ok (.aload_n 0, 1) := by decide +kernel
theorem dL_law_456 : decode cL_law 456 = .ok (.iload 4, 2) := by decide +kernel
theorem dL_law_458 : decode cL_law 458 = .ok (.iconst 2, 1) := by decide +kernel
theorem dL_law_459 : decode cL_law 459 = .ok (.iadd, 1) := by decide +kernel
theorem dL_law_460 : decode cL_law 460 = .ok (.iaload, 1) := by decide +kernel
theorem dL_law_461 : decode cL_law 461 = .ok (.aload_n 3, 1) := by decide +kernel
theorem dL_law_462 : decode cL_law 462 = .ok (.invokestatic 60, 3) := by decide +kernel
theorem dL_law_465 : decode cL_law 465 = .ok (.istore 5, 2) := by decide +kernel
theorem dL_law_467 : decode cL_law 467 = .ok (.aload_n 2, 1) := by decide +kernel
theorem dL_law_468 : decode cL_law 468 = .ok (.aload_n 0, 1) := by decide +kernel
theorem dL_law_469 : decode cL_law 469 = .ok (.iload 4, 2) := by decide +kernel
theorem dL_law_471 : decode cL_law 471 = .ok (.iconst 1, 1) := by decide +kernel
theorem dL_law_472 : decode cL_law 472 = .ok (.iadd, 1) := by decide +kernel
theorem dL_law_473 : decode cL_law 473 = .ok (.iaload, 1) := by decide +kernel
theorem dL_law_474 : decode cL_law 474 = .ok (.aload_n 0, 1) := by decide +kernel
theorem dL_law_475 : decode cL_law 475 = .ok (.iload 4, 2) := by decide +kernel
theorem dL_law_477 : decode cL_law 477 = .ok (.iconst 2, 1) := by decide +kernel
theorem dL_law_478 : decode cL_law 478 = .ok (.iadd, 1) := by decide +kernel
theorem dL_law_479 : decode cL_law 479 = .ok (.iaload, 1) := by decide +kernel
theorem dL_law_480 : decode cL_law 480 = .ok (.invokevirtual 62, 3) := by decide +kernel
theorem dL_law_483 : decode cL_law 483 = .ok (.istore 6, 2) := by decide +kernel
theorem dL_law_485 : decode cL_law 485 = .ok (.aload_n 2, 1) := by decide +kernel
theorem dL_law_486 : decode cL_law 486 = .ok (.invokevirtual 54, 3) := by decide +kernel
theorem dL_law_489 : decode cL_law 489 = .ok (.iload 5, 2) := by decide +kernel
theorem dL_law_491 : decode cL_law 491 = .ok (.if_icmp .eq 5, 3) := by decide +kernel
theorem dL_law_494 : decode cL_law 494 = .ok (.iconst 0, 1) := by decide +kernel
theorem dL_law_495 : decode cL_law 495 = .ok (.ireturn, 1) := by decide +kernel
theorem dL_law_496 : decode cL_law 496 = .ok (.iload 5, 2) := by decide +kernel
theorem dL_law_498 : decode cL_law 498 = .ok (.ifCond .ne 15, 3) := by decide +kernel
theorem dL_law_501 : decode cL_law 501 = .ok (.aload_n 3, 1) := by decide +kernel
theorem dL_law_502 : decode cL_law 502 = .ok (.iconst 0, 1) := by decide +kernel
theorem dL_law_503 : decode cL_law 503 = .ok (.laload, 1) := by decide +kernel
theorem dL_law_504 : decode cL_law 504 = .ok (.iload 6, 2) := by decide +kernel
theorem dL_law_506 : decode cL_law 506 = .ok (.i2l, 1) := by decide +kernel
theorem dL_law_507 : decode cL_law 507 = .ok (.lcmp, 1) := by decide +kernel
theorem dL_law_508 : decode cL_law 508 = .ok (.ifCond .eq 5, 3) := by decide +kernel
theorem dL_law_511 : decode cL_law 511 = .ok (.iconst 0, 1) := by decide +kernel
theorem dL_law_512 : decode cL_law 512 = .ok (.ireturn, 1) := by decide +kernel
theorem dL_law_513 : decode cL_law 513 = .ok (.goto 1104, 3) := by decide +kernel
theorem dL_law_516 : decode cL_law 516 = .ok (.aload_n 1, 1) := by decide +kernel
theorem dL_law_517 : decode cL_law 517 = .ok (.aload_n 0, 1) := by decide +kernel
theorem dL_law_518 : decode cL_law 518 = .ok (.iload 4, 2) := by decide +kernel
theorem dL_law_520 : decode cL_law 520 = .ok (.iconst 1, 1) := by decide +kernel
theorem dL_law_521 : decode cL_law 521 = .ok (.iadd, 1) := by decide +kernel
theorem dL_law_522 : decode cL_law 522 = .ok (.iaload, 1) := by decide +kernel
theorem dL_law_523 : decode cL_law 523 = .ok (.aload_n 0, 1) := by decide +kernel
theorem dL_law_524 : decode cL_law 524 = .ok (.iload 4, 2) := by decide +kernel
theorem dL_law_526 : decode cL_law 526 = .ok (.iconst 2, 1) := by decide +kernel
theorem dL_law_527 : decode cL_law 527 = .ok (.iadd, 1) := by decide +kernel
theorem dL_law_528 : decode cL_law 528 = .ok (.iaload, 1) := by decide +kernel
theorem dL_law_529 : decode cL_law 529 = .ok (.aload_n 0, 1) := by decide +kernel
theorem dL_law_530 : decode cL_law 530 = .ok (.iload 4, 2) := by decide +kernel
theorem dL_law_532 : decode cL_law 532 = .ok (.iconst 3, 1) := by decide +kernel
theorem dL_law_533 : decode cL_law 533 = .ok (.iadd, 1) := by decide +kernel
theorem dL_law_534 : decode cL_law 534 = .ok (.iaload, 1) := by decide +kernel
theorem dL_law_535 : decode cL_law 535 = .ok (.aload_n 0, 1) := by decide +kernel
theorem dL_law_536 : decode cL_law 536 = .ok (.iload 4, 2) := by decide +kernel
theorem dL_law_538 : decode cL_law 538 = .ok (.iconst 4, 1) := by decide +kernel
theorem dL_law_539 : decode cL_law 539 = .ok (.iadd, 1) := by decide +kernel
theorem dL_law_540 : decode cL_law 540 = .ok (.iaload, 1) := by decide +kernel
theorem dL_law_541 : decode cL_law 541 = .ok (.invokevirtual 63, 3) := by decide +kernel
theorem dL_law_544 : decode cL_law 544 = .ok (.aload_n 2, 1) := by decide +kernel
theorem dL_law_545 : decode cL_law 545 = .ok (.aload_n 0, 1) := by decide +kernel
theorem dL_law_546 : decode cL_law 546 = .ok (.iload 4, 2) := by decide +kernel
theorem dL_law_548 : decode cL_law 548 = .ok (.iconst 1, 1) := by decide +kernel
theorem dL_law_549 : decode cL_law 549 = .ok (.iadd, 1) := by decide +kernel
theorem dL_law_550 : decode cL_law 550 = .ok (.iaload, 1) := by decide +kernel
theorem dL_law_551 : decode cL_law 551 = .ok (.aload_n 0, 1) := by decide +kernel
theorem dL_law_552 : decode cL_law 552 = .ok (.iload 4, 2) := by decide +kernel
theorem dL_law_554 : decode cL_law 554 = .ok (.iconst 2, 1) := by decide +kernel
theorem dL_law_555 : decode cL_law 555 = .ok (.iadd, 1) := by decide +kernel
theorem dL_law_556 : decode cL_law 556 = .ok (.iaload, 1) := by decide +kernel
theorem dL_law_557 : decode cL_law 557 = .ok (.aload_n 0, 1) := by decide +kernel
theorem dL_law_558 : decode cL_law 558 = .ok (.iload 4, 2) := by decide +kernel
theorem dL_law_560 : decode cL_law 560 = .ok (.iconst 3, 1) := by decide +kernel
theorem dL_law_561 : decode cL_law 561 = .ok (.iadd, 1) := by decide +kernel
theorem dL_law_562 : decode cL_law 562 = .ok (.iaload, 1) := by decide +kernel
theorem dL_law_563 : decode cL_law 563 = .ok (.aload_n 0, 1) := by decide +kernel
theorem dL_law_564 : decode cL_law 564 = .ok (.iload 4, 2) := by decide +kernel
theorem dL_law_566 : decode cL_law 566 = .ok (.iconst 4, 1) := by decide +kernel
theorem dL_law_567 : decode cL_law 567 = .ok (.iadd, 1) := by decide +kernel
theorem dL_law_568 : decode cL_law 568 = .ok (.iaload, 1) := by decide +kernel
theorem dL_law_569 : decode cL_law 569 = .ok (.invokevirtual 67, 3) := by decide +kernel
theorem dL_law_572 : decode cL_law 572 = .ok (.if_icmp .eq 1045, 3) := by decide +kernel
theorem dL_law_575 : decode cL_law 575 = .ok (.iconst 0, 1) := by decide +kernel
theorem dL_law_576 : decode cL_law 576 = .ok (.ireturn, 1) := by decide +kernel
theorem dL_law_577 : decode cL_law 577 = .ok (.aload_n 1, 1) := by decide +kernel
theorem dL_law_578 : decode cL_law 578 = .ok (.aload_n 0, 1) := by decide +kernel
theorem dL_law_579 : decode cL_law 579 = .ok (.iload 4, 2) := by decide +kernel
theorem dL_law_581 : decode cL_law 581 = .ok (.iconst 1, 1) := by decide +kernel
theorem dL_law_582 : decode cL_law 582 = .ok (.iadd, 1) := by decide +kernel
theorem dL_law_583 : decode cL_law 583 = .ok (.iaload, 1) := by decide +kernel
theorem dL_law_584 : decode cL_law 584 = .ok (.aload_n 0, 1) := by decide +kernel
theorem dL_law_585 : decode cL_law 585 = .ok (.iload 4, 2) := by decide +kernel
theorem dL_law_587 : decode cL_law 587 = .ok (.iconst 2, 1) := by decide +kernel
theorem dL_law_588 : decode cL_law 588 = .ok (.iadd, 1) := by decide +kernel
theorem dL_law_589 : decode cL_law 589 = .ok (.iaload, 1) := by decide +kernel
theorem dL_law_590 : decode cL_law 590 = .ok (.invokevirtual 68, 3) := by decide +kernel
theorem dL_law_593 : decode cL_law 593 = .ok (.aload_n 2, 1) := by decide +kernel
theorem dL_law_594 : decode cL_law 594 = .ok (.aload_n 0, 1) := by decide +kernel
theorem dL_law_595 : decode cL_law 595 = .ok (.iload 4, 2) := by decide +kernel
theorem dL_law_597 : decode cL_law 597 = .ok (.iconst 1, 1) := by decide +kernel
theorem dL_law_598 : decode cL_law 598 = .ok (.iadd, 1) := by decide +kernel
theorem dL_law_599 : decode cL_law 599 = .ok (.iaload, 1) := by decide +kernel
theorem dL_law_600 : decode cL_law 600 = .ok (.aload_n 0, 1) := by decide +kernel
theorem dL_law_601 : decode cL_law 601 = .ok (.iload 4, 2) := by decide +kernel
theorem dL_law_603 : decode cL_law 603 = .ok (.iconst 2, 1) := by decide +kernel
theorem dL_law_604 : decode cL_law 604 = .ok (.iadd, 1) := by decide +kernel
theorem dL_law_605 : decode cL_law 605 = .ok (.iaload, 1) := by decide +kernel
theorem dL_law_606 : decode cL_law 606 = .ok (.invokevirtual 71, 3) := by decide +kernel
theorem dL_law_609 : decode cL_law 609 = .ok (.if_icmp .eq 1008, 3) := by decide +kernel
theorem dL_law_612 : decode cL_law 612 = .ok (.iconst 0, 1) := by decide +kernel
theorem dL_law_613 : decode cL_law 613 = .ok (.ireturn, 1) := by decide +kernel
theorem dL_law_614 : decode cL_law 614 = .ok (.aload_n 1, 1) := by decide +kernel
theorem dL_law_615 : decode cL_law 615 = .ok (.aload_n 0, 1) := by decide +kernel
theorem dL_law_616 : decode cL_law 616 = .ok (.iload 4, 2) := by decide +kernel
theorem dL_law_618 : decode cL_law 618 = .ok (.iconst 1, 1) := by decide +kernel
theorem dL_law_619 : decode cL_law 619 = .ok (.iadd, 1) := by decide +kernel
theorem dL_law_620 : decode cL_law 620 = .ok (.iaload, 1) := by decide +kernel
theorem dL_law_621 : decode cL_law 621 = .ok (.aload_n 0, 1) := by decide +kernel
theorem dL_law_622 : decode cL_law 622 = .ok (.iload 4, 2) := by decide +kernel
theorem dL_law_624 : decode cL_law 624 = .ok (.iconst 2, 1) := by decide +kernel
theorem dL_law_625 : decode cL_law 625 = .ok (.iadd, 1) := by decide +kernel
theorem dL_law_626 : decode cL_law 626 = .ok (.iaload, 1) := by decide +kernel
theorem dL_law_627 : decode cL_law 627 = .ok (.aload_n 0, 1) := by decide +kernel
theorem dL_law_628 : decode cL_law 628 = .ok (.iload 4, 2) := by decide +kernel
theorem dL_law_630 : decode cL_law 630 = .ok (.iconst 3, 1) := by decide +kernel
theorem dL_law_631 : decode cL_law 631 = .ok (.iadd, 1) := by decide +kernel
theorem dL_law_632 : decode cL_law 632 = .ok (.iaload, 1) := by decide +kernel
theorem dL_law_633 : decode cL_law 633 = .ok (.invokevirtual 72, 3) := by decide +kernel
theorem dL_law_636 : decode cL_law 636 = .ok (.aload_n 2, 1) := by decide +kernel
theorem dL_law_637 : decode cL_law 637 = .ok (.aload_n 0, 1) := by decide +kernel
theorem dL_law_638 : decode cL_law 638 = .ok (.iload 4, 2) := by decide +kernel
theorem dL_law_640 : decode cL_law 640 = .ok (.iconst 1, 1) := by decide +kernel
theorem dL_law_641 : decode cL_law 641 = .ok (.iadd, 1) := by decide +kernel
theorem dL_law_642 : decode cL_law 642 = .ok (.iaload, 1) := by decide +kernel
theorem dL_law_643 : decode cL_law 643 = .ok (.aload_n 0, 1) := by decide +kernel
theorem dL_law_644 : decode cL_law 644 = .ok (.iload 4, 2) := by decide +kernel
theorem dL_law_646 : decode cL_law 646 = .ok (.iconst 2, 1) := by decide +kernel
theorem dL_law_647 : decode cL_law 647 = .ok (.iadd, 1) := by decide +kernel
theorem dL_law_648 : decode cL_law 648 = .ok (.iaload, 1) := by decide +kernel
theorem dL_law_649 : decode cL_law 649 = .ok (.aload_n 0, 1) := by decide +kernel
theorem dL_law_650 : decode cL_law 650 = .ok (.iload 4, 2) := by decide +kernel
theorem dL_law_652 : decode cL_law 652 = .ok (.iconst 3, 1) := by decide +kernel
theorem dL_law_653 : decode cL_law 653 = .ok (.iadd, 1) := by decide +kernel
theorem dL_law_654 : decode cL_law 654 = .ok (.iaload, 1) := by decide +kernel
theorem dL_law_655 : decode cL_law 655 = .ok (.invokevirtual 76, 3) := by decide +kernel
theorem dL_law_658 : decode cL_law 658 = .ok (.if_icmp .eq 959, 3) := by decide +kernel
theorem dL_law_661 : decode cL_law 661 = .ok (.iconst 0, 1) := by decide +kernel
theorem dL_law_662 : decode cL_law 662 = .ok (.ireturn, 1) := by decide +kernel
theorem dL_law_663 : decode cL_law 663 = .ok (.aload_n 1, 1) := by decide +kernel
theorem dL_law_664 : decode cL_law 664 = .ok (.aload_n 0, 1) := by decide +kernel
theorem dL_law_665 : decode cL_law 665 = .ok (.iload 4, 2) := by decide +kernel
theorem dL_law_667 : decode cL_law 667 = .ok (.iconst 1, 1) := by decide +kernel
theorem dL_law_668 : decode cL_law 668 = .ok (.iadd, 1) := by decide +kernel
theorem dL_law_669 : decode cL_law 669 = .ok (.iaload, 1) := by decide +kernel
theorem dL_law_670 : decode cL_law 670 = .ok (.invokevirtual 77, 3) := by decide +kernel
theorem dL_law_673 : decode cL_law 673 = .ok (.aload_n 2, 1) := by decide +kernel
theorem dL_law_674 : decode cL_law 674 = .ok (.aload_n 0, 1) := by decide +kernel
theorem dL_law_675 : decode cL_law 675 = .ok (.iload 4, 2) := by decide +kernel
theorem dL_law_677 : decode cL_law 677 = .ok (.iconst 1, 1) := by decide +kernel
theorem dL_law_678 : decode cL_law 678 = .ok (.iadd, 1) := by decide +kernel
theorem dL_law_679 : decode cL_law 679 = .ok (.iaload, 1) := by decide +kernel
theorem dL_law_680 : decode cL_law 680 = .ok (.invokevirtual 80, 3) := by decide +kernel
theorem dL_law_683 : decode cL_law 683 = .ok (.if_icmp .eq 934, 3) := by decide +kernel
theorem dL_law_686 : decode cL_law 686 = .ok (.iconst 0, 1) := by decide +kernel
theorem dL_law_687 : decode cL_law 687 = .ok (.ireturn, 1) := by decide +kernel
theorem dL_law_688 : decode cL_law 688 = .ok (.aload_n 1, 1) := by decide +kernel
theorem dL_law_689 : decode cL_law 689 = .ok (.aload_n 0, 1) := by decide +kernel
theorem dL_law_690 : decode cL_law 690 = .ok (.iload 4, 2) := by decide +kernel
theorem dL_law_692 : decode cL_law 692 = .ok (.iconst 1, 1) := by decide +kernel
theorem dL_law_693 : decode cL_law 693 = .ok (.iadd, 1) := by decide +kernel
theorem dL_law_694 : decode cL_law 694 = .ok (.iaload, 1) := by decide +kernel
theorem dL_law_695 : decode cL_law 695 = .ok (.invokevirtual 81, 3) := by decide +kernel
theorem dL_law_698 : decode cL_law 698 = .ok (.aload_n 2, 1) := by decide +kernel
theorem dL_law_699 : decode cL_law 699 = .ok (.aload_n 0, 1) := by decide +kernel
theorem dL_law_700 : decode cL_law 700 = .ok (.iload 4, 2) := by decide +kernel
theorem dL_law_702 : decode cL_law 702 = .ok (.iconst 1, 1) := by decide +kernel
theorem dL_law_703 : decode cL_law 703 = .ok (.iadd, 1) := by decide +kernel
theorem dL_law_704 : decode cL_law 704 = .ok (.iaload, 1) := by decide +kernel
theorem dL_law_705 : decode cL_law 705 = .ok (.invokevirtual 84, 3) := by decide +kernel
theorem dL_law_708 : decode cL_law 708 = .ok (.if_icmp .eq 909, 3) := by decide +kernel
theorem dL_law_711 : decode cL_law 711 = .ok (.iconst 0, 1) := by decide +kernel
theorem dL_law_712 : decode cL_law 712 = .ok (.ireturn, 1) := by decide +kernel
theorem dL_law_713 : decode cL_law 713 = .ok (.aload_n 1, 1) := by decide +kernel
theorem dL_law_714 : decode cL_law 714 = .ok (.aload_n 0, 1) := by decide +kernel
theorem dL_law_715 : decode cL_law 715 = .ok (.iload 4, 2) := by decide +kernel
theorem dL_law_717 : decode cL_law 717 = .ok (.iconst 1, 1) := by decide +kernel
theorem dL_law_718 : decode cL_law 718 = .ok (.iadd, 1) := by decide +kernel
theorem dL_law_719 : decode cL_law 719 = .ok (.iaload, 1) := by decide +kernel
theorem dL_law_720 : decode cL_law 720 = .ok (.aload_n 0, 1) := by decide +kernel
theorem dL_law_721 : decode cL_law 721 = .ok (.iload 4, 2) := by decide +kernel
theorem dL_law_723 : decode cL_law 723 = .ok (.iconst 2, 1) := by decide +kernel
theorem dL_law_724 : decode cL_law 724 = .ok (.iadd, 1) := by decide +kernel
theorem dL_law_725 : decode cL_law 725 = .ok (.iaload, 1) := by decide +kernel
theorem dL_law_726 : decode cL_law 726 = .ok (.aload_n 0, 1) := by decide +kernel
theorem dL_law_727 : decode cL_law 727 = .ok (.iload 4, 2) := by decide +kernel
theorem dL_law_729 : decode cL_law 729 = .ok (.iconst 3, 1) := by decide +kernel
theorem dL_law_730 : decode cL_law 730 = .ok (.iadd, 1) := by decide +kernel
theorem dL_law_731 : decode cL_law 731 = .ok (.iaload, 1) := by decide +kernel
theorem dL_law_732 : decode cL_law 732 = .ok (.invokevirtual 85, 3) := by decide +kernel
theorem dL_law_735 : decode cL_law 735 = .ok (.aload_n 2, 1) := by decide +kernel
theorem dL_law_736 : decode cL_law 736 = .ok (.aload_n 0, 1) := by decide +kernel
theorem dL_law_737 : decode cL_law 737 = .ok (.iload 4, 2) := by decide +kernel
theorem dL_law_739 : decode cL_law 739 = .ok (.iconst 1, 1) := by decide +kernel
theorem dL_law_740 : decode cL_law 740 = .ok (.iadd, 1) := by decide +kernel
theorem dL_law_741 : decode cL_law 741 = .ok (.iaload, 1) := by decide +kernel
theorem dL_law_742 : decode cL_law 742 = .ok (.aload_n 0, 1) := by decide +kernel
theorem dL_law_743 : decode cL_law 743 = .ok (.iload 4, 2) := by decide +kernel
theorem dL_law_745 : decode cL_law 745 = .ok (.iconst 2, 1) := by decide +kernel
theorem dL_law_746 : decode cL_law 746 = .ok (.iadd, 1) := by decide +kernel
theorem dL_law_747 : decode cL_law 747 = .ok (.iaload, 1) := by decide +kernel
theorem dL_law_748 : decode cL_law 748 = .ok (.aload_n 0, 1) := by decide +kernel
theorem dL_law_749 : decode cL_law 749 = .ok (.iload 4, 2) := by decide +kernel
theorem dL_law_751 : decode cL_law 751 = .ok (.iconst 3, 1) := by decide +kernel
theorem dL_law_752 : decode cL_law 752 = .ok (.iadd, 1) := by decide +kernel
theorem dL_law_753 : decode cL_law 753 = .ok (.iaload, 1) := by decide +kernel
theorem dL_law_754 : decode cL_law 754 = .ok (.invokevirtual 88, 3) := by decide +kernel
theorem dL_law_757 : decode cL_law 757 = .ok (.if_icmp .eq 860, 3) := by decide +kernel
theorem dL_law_760 : decode cL_law 760 = .ok (.iconst 0, 1) := by decide +kernel
theorem dL_law_761 : decode cL_law 761 = .ok (.ireturn, 1) := by decide +kernel
theorem dL_law_762 : decode cL_law 762 = .ok (.aload_n 1, 1) := by decide +kernel
theorem dL_law_763 : decode cL_law 763 = .ok (.aload_n 0, 1) := by decide +kernel
theorem dL_law_764 : decode cL_law 764 = .ok (.iload 4, 2) := by decide +kernel
theorem dL_law_766 : decode cL_law 766 = .ok (.iconst 1, 1) := by decide +kernel
theorem dL_law_767 : decode cL_law 767 = .ok (.iadd, 1) := by decide +kernel
theorem dL_law_768 : decode cL_law 768 = .ok (.iaload, 1) := by decide +kernel
theorem dL_law_769 : decode cL_law 769 = .ok (.invokevirtual 89, 3) := by decide +kernel
theorem dL_law_772 : decode cL_law 772 = .ok (.aload_n 2, 1) := by decide +kernel
theorem dL_law_773 : decode cL_law 773 = .ok (.aload_n 0, 1) := by decide +kernel
theorem dL_law_774 : decode cL_law 774 = .ok (.iload 4, 2) := by decide +kernel
theorem dL_law_776 : decode cL_law 776 = .ok (.iconst 1, 1) := by decide +kernel
theorem dL_law_777 : decode cL_law 777 = .ok (.iadd, 1) := by decide +kernel
theorem dL_law_778 : decode cL_law 778 = .ok (.iaload, 1) := by decide +kernel
theorem dL_law_779 : decode cL_law 779 = .ok (.invokevirtual 92, 3) := by decide +kernel
theorem dL_law_782 : decode cL_law 782 = .ok (.if_icmp .eq 835, 3) := by decide +kernel
theorem dL_law_785 : decode cL_law 785 = .ok (.iconst 0, 1) := by decide +kernel
theorem dL_law_786 : decode cL_law 786 = .ok (.ireturn, 1) := by decide +kernel
theorem dL_law_787 : decode cL_law 787 = .ok (.aload_n 1, 1) := by decide +kernel
theorem dL_law_788 : decode cL_law 788 = .ok (.invokevirtual 93, 3) := by decide +kernel
theorem dL_law_791 : decode cL_law 791 = .ok (.aload_n 2, 1) := by decide +kernel
theorem dL_law_792 : decode cL_law 792 = .ok (.invokevirtual 96, 3) := by decide +kernel
theorem dL_law_795 : decode cL_law 795 = .ok (.if_icmp .eq 822, 3) := by decide +kernel
theorem dL_law_798 : decode cL_law 798 = .ok (.iconst 0, 1) := by decide +kernel
theorem dL_law_799 : decode cL_law 799 = .ok (.ireturn, 1) := by decide +kernel
theorem dL_law_800 : decode cL_law 800 = .ok (.aload_n 1, 1) := by decide +kernel
theorem dL_law_801 : decode cL_law 801 = .ok (.invokevirtual 97, 3) := by decide +kernel
theorem dL_law_804 : decode cL_law 804 = .ok (.aload_n 2, 1) := by decide +kernel
theorem dL_law_805 : decode cL_law 805 = .ok (.invokevirtual 100, 3) := by decide +kernel
theorem dL_law_808 : decode cL_law 808 = .ok (.if_icmp .eq 809, 3) := by decide +kernel
theorem dL_law_811 : decode cL_law 811 = .ok (.iconst 0, 1) := by decide +kernel
theorem dL_law_812 : decode cL_law 812 = .ok (.ireturn, 1) := by decide +kernel
theorem dL_law_813 : decode cL_law 813 = .ok (.aload_n 1, 1) := by decide +kernel
theorem dL_law_814 : decode cL_law 814 = .ok (.aload_n 0, 1) := by decide +kernel
theorem dL_law_815 : decode cL_law 815 = .ok (.iload 4, 2) := by decide +kernel
theorem dL_law_817 : decode cL_law 817 = .ok (.iconst 1, 1) := by decide +kernel
theorem dL_law_818 : decode cL_law 818 = .ok (.iadd, 1) := by decide +kernel
theorem dL_law_819 : decode cL_law 819 = .ok (.iaload, 1) := by decide +kernel
theorem dL_law_820 : decode cL_law 820 = .ok (.invokevirtual 101, 3) := by decide +kernel
theorem dL_law_823 : decode cL_law 823 = .ok (.aload_n 2, 1) := by decide +kernel
theorem dL_law_824 : decode cL_law 824 = .ok (.aload_n 0, 1) := by decide +kernel
theorem dL_law_825 : decode cL_law 825 = .ok (.iload 4, 2) := by decide +kernel
theorem dL_law_827 : decode cL_law 827 = .ok (.iconst 1, 1) := by decide +kernel
theorem dL_law_828 : decode cL_law 828 = .ok (.iadd, 1) := by decide +kernel
theorem dL_law_829 : decode cL_law 829 = .ok (.iaload, 1) := by decide +kernel
theorem dL_law_830 : decode cL_law 830 = .ok (.invokevirtual 104, 3) := by decide +kernel
theorem dL_law_833 : decode cL_law 833 = .ok (.if_icmp .eq 784, 3) := by decide +kernel
theorem dL_law_836 : decode cL_law 836 = .ok (.iconst 0, 1) := by decide +kernel
theorem dL_law_837 : decode cL_law 837 = .ok (.ireturn, 1) := by decide +kernel
theorem dL_law_838 : decode cL_law 838 = .ok (.aload_n 1, 1) := by decide +kernel
theorem dL_law_839 : decode cL_law 839 = .ok (.aload_n 0, 1) := by decide +kernel
theorem dL_law_840 : decode cL_law 840 = .ok (.iload 4, 2) := by decide +kernel
theorem dL_law_842 : decode cL_law 842 = .ok (.iconst 1, 1) := by decide +kernel
theorem dL_law_843 : decode cL_law 843 = .ok (.iadd, 1) := by decide +kernel
theorem dL_law_844 : decode cL_law 844 = .ok (.iaload, 1) := by decide +kernel
theorem dL_law_845 : decode cL_law 845 = .ok (.aload_n 0, 1) := by decide +kernel
theorem dL_law_846 : decode cL_law 846 = .ok (.iload 4, 2) := by decide +kernel
theorem dL_law_848 : decode cL_law 848 = .ok (.iconst 2, 1) := by decide +kernel
theorem dL_law_849 : decode cL_law 849 = .ok (.iadd, 1) := by decide +kernel
theorem dL_law_850 : decode cL_law 850 = .ok (.iaload, 1) := by decide +kernel
theorem dL_law_851 : decode cL_law 851 = .ok (.invokevirtual 105, 3) := by decide +kernel
theorem dL_law_854 : decode cL_law 854 = .ok (.aload_n 2, 1) := by decide +kernel
theorem dL_law_855 : decode cL_law 855 = .ok (.aload_n 0, 1) := by decide +kernel
theorem dL_law_856 : decode cL_law 856 = .ok (.iload 4, 2) := by decide +kernel
theorem dL_law_858 : decode cL_law 858 = .ok (.iconst 1, 1) := by decide +kernel
theorem dL_law_859 : decode cL_law 859 = .ok (.iadd, 1) := by decide +kernel
theorem dL_law_860 : decode cL_law 860 = .ok (.iaload, 1) := by decide +kernel
theorem dL_law_861 : decode cL_law 861 = .ok (.aload_n 0, 1) := by decide +kernel
theorem dL_law_862 : decode cL_law 862 = .ok (.iload 4, 2) := by decide +kernel
theorem dL_law_864 : decode cL_law 864 = .ok (.iconst 2, 1) := by decide +kernel
theorem dL_law_865 : decode cL_law 865 = .ok (.iadd, 1) := by decide +kernel
theorem dL_law_866 : decode cL_law 866 = .ok (.iaload, 1) := by decide +kernel
theorem dL_law_867 : decode cL_law 867 = .ok (.invokevirtual 108, 3) := by decide +kernel
theorem dL_law_870 : decode cL_law 870 = .ok (.if_icmp .eq 747, 3) := by decide +kernel
theorem dL_law_873 : decode cL_law 873 = .ok (.iconst 0, 1) := by decide +kernel
theorem dL_law_874 : decode cL_law 874 = .ok (.ireturn, 1) := by decide +kernel
theorem dL_law_875 : decode cL_law 875 = .ok (.aload_n 1, 1) := by decide +kernel
theorem dL_law_876 : decode cL_law 876 = .ok (.aload_n 0, 1) := by decide +kernel
theorem dL_law_877 : decode cL_law 877 = .ok (.iload 4, 2) := by decide +kernel
theorem dL_law_879 : decode cL_law 879 = .ok (.iconst 1, 1) := by decide +kernel
theorem dL_law_880 : decode cL_law 880 = .ok (.iadd, 1) := by decide +kernel
theorem dL_law_881 : decode cL_law 881 = .ok (.iaload, 1) := by decide +kernel
theorem dL_law_882 : decode cL_law 882 = .ok (.invokevirtual 109, 3) := by decide +kernel
theorem dL_law_885 : decode cL_law 885 = .ok (.aload_n 2, 1) := by decide +kernel
theorem dL_law_886 : decode cL_law 886 = .ok (.aload_n 0, 1) := by decide +kernel
theorem dL_law_887 : decode cL_law 887 = .ok (.iload 4, 2) := by decide +kernel
theorem dL_law_889 : decode cL_law 889 = .ok (.iconst 1, 1) := by decide +kernel
theorem dL_law_890 : decode cL_law 890 = .ok (.iadd, 1) := by decide +kernel
theorem dL_law_891 : decode cL_law 891 = .ok (.iaload, 1) := by decide +kernel
theorem dL_law_892 : decode cL_law 892 = .ok (.invokevirtual 112, 3) := by decide +kernel
theorem dL_law_895 : decode cL_law 895 = .ok (.if_icmp .eq 722, 3) := by decide +kernel
theorem dL_law_898 : decode cL_law 898 = .ok (.iconst 0, 1) := by decide +kernel
theorem dL_law_899 : decode cL_law 899 = .ok (.ireturn, 1) := by decide +kernel
theorem dL_law_900 : decode cL_law 900 = .ok (.aload_n 1, 1) := by decide +kernel
theorem dL_law_901 : decode cL_law 901 = .ok (.aload_n 0, 1) := by decide +kernel
theorem dL_law_902 : decode cL_law 902 = .ok (.iload 4, 2) := by decide +kernel
theorem dL_law_904 : decode cL_law 904 = .ok (.iconst 1, 1) := by decide +kernel
theorem dL_law_905 : decode cL_law 905 = .ok (.iadd, 1) := by decide +kernel
theorem dL_law_906 : decode cL_law 906 = .ok (.iaload, 1) := by decide +kernel
theorem dL_law_907 : decode cL_law 907 = .ok (.aload_n 0, 1) := by decide +kernel
theorem dL_law_908 : decode cL_law 908 = .ok (.iload 4, 2) := by decide +kernel
theorem dL_law_910 : decode cL_law 910 = .ok (.iconst 2, 1) := by decide +kernel
theorem dL_law_911 : decode cL_law 911 = .ok (.iadd, 1) := by decide +kernel
theorem dL_law_912 : decode cL_law 912 = .ok (.iaload, 1) := by decide +kernel
theorem dL_law_913 : decode cL_law 913 = .ok (.invokevirtual 113, 3) := by decide +kernel
theorem dL_law_916 : decode cL_law 916 = .ok (.aload_n 2, 1) := by decide +kernel
theorem dL_law_917 : decode cL_law 917 = .ok (.aload_n 0, 1) := by decide +kernel
theorem dL_law_918 : decode cL_law 918 = .ok (.iload 4, 2) := by decide +kernel
theorem dL_law_920 : decode cL_law 920 = .ok (.iconst 1, 1) := by decide +kernel
theorem dL_law_921 : decode cL_law 921 = .ok (.iadd, 1) := by decide +kernel
theorem dL_law_922 : decode cL_law 922 = .ok (.iaload, 1) := by decide +kernel
theorem dL_law_923 : decode cL_law 923 = .ok (.aload_n 0, 1) := by decide +kernel
theorem dL_law_924 : decode cL_law 924 = .ok (.iload 4, 2) := by decide +kernel
theorem dL_law_926 : decode cL_law 926 = .ok (.iconst 2, 1) := by decide +kernel
theorem dL_law_927 : decode cL_law 927 = .ok (.iadd, 1) := by decide +kernel
theorem dL_law_928 : decode cL_law 928 = .ok (.iaload, 1) := by decide +kernel
theorem dL_law_929 : decode cL_law 929 = .ok (.invokevirtual 116, 3) := by decide +kernel
theorem dL_law_932 : decode cL_law 932 = .ok (.if_icmp .eq 685, 3) := by decide +kernel
theorem dL_law_935 : decode cL_law 935 = .ok (.iconst 0, 1) := by decide +kernel
theorem dL_law_936 : decode cL_law 936 = .ok (.ireturn, 1) := by decide +kernel
theorem dL_law_937 : decode cL_law 937 = .ok (.aload_n 1, 1) := by decide +kernel
theorem dL_law_938 : decode cL_law 938 = .ok (.aload_n 0, 1) := by decide +kernel
theorem dL_law_939 : decode cL_law 939 = .ok (.iload 4, 2) := by decide +kernel
theorem dL_law_941 : decode cL_law 941 = .ok (.iconst 1, 1) := by decide +kernel
theorem dL_law_942 : decode cL_law 942 = .ok (.iadd, 1) := by decide +kernel
theorem dL_law_943 : decode cL_law 943 = .ok (.iaload, 1) := by decide +kernel
theorem dL_law_944 : decode cL_law 944 = .ok (.aload_n 0, 1) := by decide +kernel
theorem dL_law_945 : decode cL_law 945 = .ok (.iload 4, 2) := by decide +kernel
theorem dL_law_947 : decode cL_law 947 = .ok (.iconst 2, 1) := by decide +kernel
theorem dL_law_948 : decode cL_law 948 = .ok (.iadd, 1) := by decide +kernel
theorem dL_law_949 : decode cL_law 949 = .ok (.iaload, 1) := by decide +kernel
theorem dL_law_950 : decode cL_law 950 = .ok (.invokevirtual 117, 3) := by decide +kernel
theorem dL_law_953 : decode cL_law 953 = .ok (.aload_n 2, 1) := by decide +kernel
theorem dL_law_954 : decode cL_law 954 = .ok (.aload_n 0, 1) := by decide +kernel
theorem dL_law_955 : decode cL_law 955 = .ok (.iload 4, 2) := by decide +kernel
theorem dL_law_957 : decode cL_law 957 = .ok (.iconst 1, 1) := by decide +kernel
theorem dL_law_958 : decode cL_law 958 = .ok (.iadd, 1) := by decide +kernel
theorem dL_law_959 : decode cL_law 959 = .ok (.iaload, 1) := by decide +kernel
theorem dL_law_960 : decode cL_law 960 = .ok (.aload_n 0, 1) := by decide +kernel
theorem dL_law_961 : decode cL_law 961 = .ok (.iload 4, 2) := by decide +kernel
theorem dL_law_963 : decode cL_law 963 = .ok (.iconst 2, 1) := by decide +kernel
theorem dL_law_964 : decode cL_law 964 = .ok (.iadd, 1) := by decide +kernel
theorem dL_law_965 : decode cL_law 965 = .ok (.iaload, 1) := by decide +kernel
theorem dL_law_966 : decode cL_law 966 = .ok (.invokevirtual 120, 3) := by decide +kernel
theorem dL_law_969 : decode cL_law 969 = .ok (.if_icmp .eq 648, 3) := by decide +kernel
theorem dL_law_972 : decode cL_law 972 = .ok (.iconst 0, 1) := by decide +kernel
theorem dL_law_973 : decode cL_law 973 = .ok (.ireturn, 1) := by decide +kernel
theorem dL_law_974 : decode cL_law 974 = .ok (.aload_n 1, 1) := by decide +kernel
theorem dL_law_975 : decode cL_law 975 = .ok (.aload_n 0, 1) := by decide +kernel
theorem dL_law_976 : decode cL_law 976 = .ok (.iload 4, 2) := by decide +kernel
theorem dL_law_978 : decode cL_law 978 = .ok (.iconst 1, 1) := by decide +kernel
theorem dL_law_979 : decode cL_law 979 = .ok (.iadd, 1) := by decide +kernel
theorem dL_law_980 : decode cL_law 980 = .ok (.iaload, 1) := by decide +kernel
theorem dL_law_981 : decode cL_law 981 = .ok (.aload_n 0, 1) := by decide +kernel
theorem dL_law_982 : decode cL_law 982 = .ok (.iload 4, 2) := by decide +kernel
theorem dL_law_984 : decode cL_law 984 = .ok (.iconst 2, 1) := by decide +kernel
theorem dL_law_985 : decode cL_law 985 = .ok (.iadd, 1) := by decide +kernel
theorem dL_law_986 : decode cL_law 986 = .ok (.iaload, 1) := by decide +kernel
theorem dL_law_987 : decode cL_law 987 = .ok (.invokevirtual 121, 3) := by decide +kernel
theorem dL_law_990 : decode cL_law 990 = .ok (.aload_n 2, 1) := by decide +kernel
theorem dL_law_991 : decode cL_law 991 = .ok (.aload_n 0, 1) := by decide +kernel
theorem dL_law_992 : decode cL_law 992 = .ok (.iload 4, 2) := by decide +kernel
theorem dL_law_994 : decode cL_law 994 = .ok (.iconst 1, 1) := by decide +kernel
theorem dL_law_995 : decode cL_law 995 = .ok (.iadd, 1) := by decide +kernel
theorem dL_law_996 : decode cL_law 996 = .ok (.iaload, 1) := by decide +kernel
theorem dL_law_997 : decode cL_law 997 = .ok (.aload_n 0, 1) := by decide +kernel
theorem dL_law_998 : decode cL_law 998 = .ok (.iload 4, 2) := by decide +kernel
theorem dL_law_1000 : decode cL_law 1000 = .ok (.iconst 2, 1) := by decide +kernel
theorem dL_law_1001 : decode cL_law 1001 = .ok (.iadd, 1) := by decide +kernel
theorem dL_law_1002 : decode cL_law 1002 = .ok (.iaload, 1) := by decide +kernel
theorem dL_law_1003 : decode cL_law 1003 = .ok (.invokevirtual 124, 3) := by decide +kernel
theorem dL_law_1006 : decode cL_law 1006 = .ok (.if_icmp .eq 611, 3) := by decide +kernel
theorem dL_law_1009 : decode cL_law 1009 = .ok (.iconst 0, 1) := by decide +kernel
theorem dL_law_1010 : decode cL_law 1010 = .ok (.ireturn, 1) := by decide +kernel
theorem dL_law_1011 : decode cL_law 1011 = .ok (.aload_n 1, 1) := by decide +kernel
theorem dL_law_1012 : decode cL_law 1012 = .ok (.invokevirtual 125, 3) := by decide +kernel
theorem dL_law_1015 : decode cL_law 1015 = .ok (.aload_n 2, 1) := by decide +kernel
theorem dL_law_1016 : decode cL_law 1016 = .ok (.invokevirtual 128, 3) := by decide +kernel
theorem dL_law_1019 : decode cL_law 1019 = .ok (.if_icmp .eq 598, 3) := by decide +kernel
theorem dL_law_1022 : decode cL_law 1022 = .ok (.iconst 0, 1) := by decide +kernel
theorem dL_law_1023 : decode cL_law 1023 = .ok (.ireturn, 1) := by decide +kernel
theorem dL_law_1024 : decode cL_law 1024 = .ok (.aload_n 1, 1) := by decide +kernel
theorem dL_law_1025 : decode cL_law 1025 = .ok (.invokevirtual 129, 3) := by decide +kernel
theorem dL_law_1028 : decode cL_law 1028 = .ok (.aload_n 2, 1) := by decide +kernel
theorem dL_law_1029 : decode cL_law 1029 = .ok (.invokevirtual 132, 3) := by decide +kernel
theorem dL_law_1032 : decode cL_law 1032 = .ok (.if_icmp .eq 585, 3) := by decide +kernel
theorem dL_law_1035 : decode cL_law 1035 = .ok (.iconst 0, 1) := by decide +kernel
theorem dL_law_1036 : decode cL_law 1036 = .ok (.ireturn, 1) := by decide +kernel
theorem dL_law_1037 : decode cL_law 1037 = .ok (.aload_n 1, 1) := by decide +kernel
theorem dL_law_1038 : decode cL_law 1038 = .ok (.invokevirtual 133, 3) := by decide +kernel
theorem dL_law_1041 : decode cL_law 1041 = .ok (.aload_n 2, 1) := by decide +kernel
theorem dL_law_1042 : decode cL_law 1042 = .ok (.invokevirtual 136, 3) := by decide +kernel
theorem dL_law_1045 : decode cL_law 1045 = .ok (.if_icmp .eq 572, 3) := by decide +kernel
theorem dL_law_1048 : decode cL_law 1048 = .ok (.iconst 0, 1) := by decide +kernel
theorem dL_law_1049 : decode cL_law 1049 = .ok (.ireturn, 1) := by decide +kernel
theorem dL_law_1050 : decode cL_law 1050 = .ok (.aload_n 1, 1) := by decide +kernel
theorem dL_law_1051 : decode cL_law 1051 = .ok (.aload_n 0, 1) := by decide +kernel
theorem dL_law_1052 : decode cL_law 1052 = .ok (.iload 4, 2) := by decide +kernel
theorem dL_law_1054 : decode cL_law 1054 = .ok (.iconst 1, 1) := by decide +kernel
theorem dL_law_1055 : decode cL_law 1055 = .ok (.iadd, 1) := by decide +kernel
theorem dL_law_1056 : decode cL_law 1056 = .ok (.iaload, 1) := by decide +kernel
theorem dL_law_1057 : decode cL_law 1057 = .ok (.invokevirtual 137, 3) := by decide +kernel
theorem dL_law_1060 : decode cL_law 1060 = .ok (.aload_n 2, 1) := by decide +kernel
theorem dL_law_1061 : decode cL_law 1061 = .ok (.aload_n 0, 1) := by decide +kernel
theorem dL_law_1062 : decode cL_law 1062 = .ok (.iload 4, 2) := by decide +kernel
theorem dL_law_1064 : decode cL_law 1064 = .ok (.iconst 1, 1) := by decide +kernel
theorem dL_law_1065 : decode cL_law 1065 = .ok (.iadd, 1) := by decide +kernel
theorem dL_law_1066 : decode cL_law 1066 = .ok (.iaload, 1) := by decide +kernel
theorem dL_law_1067 : decode cL_law 1067 = .ok (.invokevirtual 140, 3) := by decide +kernel
theorem dL_law_1070 : decode cL_law 1070 = .ok (.if_icmp .eq 547, 3) := by decide +kernel
theorem dL_law_1073 : decode cL_law 1073 = .ok (.iconst 0, 1) := by decide +kernel
theorem dL_law_1074 : decode cL_law 1074 = .ok (.ireturn, 1) := by decide +kernel
theorem dL_law_1075 : decode cL_law 1075 = .ok (.aload_n 1, 1) := by decide +kernel
theorem dL_law_1076 : decode cL_law 1076 = .ok (.aload_n 0, 1) := by decide +kernel
theorem dL_law_1077 : decode cL_law 1077 = .ok (.iload 4, 2) := by decide +kernel
theorem dL_law_1079 : decode cL_law 1079 = .ok (.iconst 1, 1) := by decide +kernel
theorem dL_law_1080 : decode cL_law 1080 = .ok (.iadd, 1) := by decide +kernel
theorem dL_law_1081 : decode cL_law 1081 = .ok (.iaload, 1) := by decide +kernel
theorem dL_law_1082 : decode cL_law 1082 = .ok (.invokevirtual 141, 3) := by decide +kernel
theorem dL_law_1085 : decode cL_law 1085 = .ok (.aload_n 2, 1) := by decide +kernel
theorem dL_law_1086 : decode cL_law 1086 = .ok (.aload_n 0, 1) := by decide +kernel
theorem dL_law_1087 : decode cL_law 1087 = .ok (.iload 4, 2) := by decide +kernel
theorem dL_law_1089 : decode cL_law 1089 = .ok (.iconst 1, 1) := by decide +kernel
theorem dL_law_1090 : decode cL_law 1090 = .ok (.iadd, 1) := by decide +kernel
theorem dL_law_1091 : decode cL_law 1091 = .ok (.iaload, 1) := by decide +kernel
theorem dL_law_1092 : decode cL_law 1092 = .ok (.invokevirtual 144, 3) := by decide +kernel
theorem dL_law_1095 : decode cL_law 1095 = .ok (.if_icmp .eq 522, 3) := by decide +kernel
theorem dL_law_1098 : decode cL_law 1098 = .ok (.iconst 0, 1) := by decide +kernel
theorem dL_law_1099 : decode cL_law 1099 = .ok (.ireturn, 1) := by decide +kernel
theorem dL_law_1100 : decode cL_law 1100 = .ok (.aload_n 1, 1) := by decide +kernel
theorem dL_law_1101 : decode cL_law 1101 = .ok (.aload_n 0, 1) := by decide +kernel
theorem dL_law_1102 : decode cL_law 1102 = .ok (.iload 4, 2) := by decide +kernel
theorem dL_law_1104 : decode cL_law 1104 = .ok (.iconst 1, 1) := by decide +kernel
theorem dL_law_1105 : decode cL_law 1105 = .ok (.iadd, 1) := by decide +kernel
theorem dL_law_1106 : decode cL_law 1106 = .ok (.iaload, 1) := by decide +kernel
theorem dL_law_1107 : decode cL_law 1107 = .ok (.aload_n 0, 1) := by decide +kernel
theorem dL_law_1108 : decode cL_law 1108 = .ok (.iload 4, 2) := by decide +kernel
theorem dL_law_1110 : decode cL_law 1110 = .ok (.iconst 2, 1) := by decide +kernel
theorem dL_law_1111 : decode cL_law 1111 = .ok (.iadd, 1) := by decide +kernel
theorem dL_law_1112 : decode cL_law 1112 = .ok (.iaload, 1) := by decide +kernel
theorem dL_law_1113 : decode cL_law 1113 = .ok (.invokevirtual 145, 3) := by decide +kernel
theorem dL_law_1116 : decode cL_law 1116 = .ok (.aload_n 2, 1) := by decide +kernel
theorem dL_law_1117 : decode cL_law 1117 = .ok (.aload_n 0, 1) := by decide +kernel
theorem dL_law_1118 : decode cL_law 1118 = .ok (.iload 4, 2) := by decide +kernel
theorem dL_law_1120 : decode cL_law 1120 = .ok (.iconst 1, 1) := by decide +kernel
theorem dL_law_1121 : decode cL_law 1121 = .ok (.iadd, 1) := by decide +kernel
theorem dL_law_1122 : decode cL_law 1122 = .ok (.iaload, 1) := by decide +kernel
theorem dL_law_1123 : decode cL_law 1123 = .ok (.aload_n 0, 1) := by decide +kernel
theorem dL_law_1124 : decode cL_law 1124 = .ok (.iload 4, 2) := by decide +kernel
theorem dL_law_1126 : decode cL_law 1126 = .ok (.iconst 2, 1) := by decide +kernel
theorem dL_law_1127 : decode cL_law 1127 = .ok (.iadd, 1) := by decide +kernel
theorem dL_law_1128 : decode cL_law 1128 = .ok (.iaload, 1) := by decide +kernel
theorem dL_law_1129 : decode cL_law 1129 = .ok (.invokevirtual 148, 3) := by decide +kernel
theorem dL_law_1132 : decode cL_law 1132 = .ok (.if_icmp .eq 485, 3) := by decide +kernel
theorem dL_law_1135 : decode cL_law 1135 = .ok (.iconst 0, 1) := by decide +kernel
theorem dL_law_1136 : decode cL_law 1136 = .ok (.ireturn, 1) := by decide +kernel
theorem dL_law_1137 : decode cL_law 1137 = .ok (.aload_n 1, 1) := by decide +kernel
theorem dL_law_1138 : decode cL_law 1138 = .ok (.aload_n 0, 1) := by decide +kernel
theorem dL_law_1139 : decode cL_law 1139 = .ok (.iload 4, 2) := by decide +kernel
theorem dL_law_1141 : decode cL_law 1141 = .ok (.iconst 1, 1) := by decide +kernel
theorem dL_law_1142 : decode cL_law 1142 = .ok (.iadd, 1) := by decide +kernel
theorem dL_law_1143 : decode cL_law 1143 = .ok (.iaload, 1) := by decide +kernel
theorem dL_law_1144 : decode cL_law 1144 = .ok (.aload_n 0, 1) := by decide +kernel
theorem dL_law_1145 : decode cL_law 1145 = .ok (.iload 4, 2) := by decide +kernel
theorem dL_law_1147 : decode cL_law 1147 = .ok (.iconst 2, 1) := by decide +kernel
theorem dL_law_1148 : decode cL_law 1148 = .ok (.iadd, 1) := by decide +kernel
theorem dL_law_1149 : decode cL_law 1149 = .ok (.iaload, 1) := by decide +kernel
theorem dL_law_1150 : decode cL_law 1150 = .ok (.invokevirtual 149, 3) := by decide +kernel
theorem dL_law_1153 : decode cL_law 1153 = .ok (.aload_n 2, 1) := by decide +kernel
theorem dL_law_1154 : decode cL_law 1154 = .ok (.aload_n 0, 1) := by decide +kernel
theorem dL_law_1155 : decode cL_law 1155 = .ok (.iload 4, 2) := by decide +kernel
theorem dL_law_1157 : decode cL_law 1157 = .ok (.iconst 1, 1) := by decide +kernel
theorem dL_law_1158 : decode cL_law 1158 = .ok (.iadd, 1) := by decide +kernel
theorem dL_law_1159 : decode cL_law 1159 = .ok (.iaload, 1) := by decide +kernel
theorem dL_law_1160 : decode cL_law 1160 = .ok (.aload_n 0, 1) := by decide +kernel
theorem dL_law_1161 : decode cL_law 1161 = .ok (.iload 4, 2) := by decide +kernel
theorem dL_law_1163 : decode cL_law 1163 = .ok (.iconst 2, 1) := by decide +kernel
theorem dL_law_1164 : decode cL_law 1164 = .ok (.iadd, 1) := by decide +kernel
theorem dL_law_1165 : decode cL_law 1165 = .ok (.iaload, 1) := by decide +kernel
theorem dL_law_1166 : decode cL_law 1166 = .ok (.invokevirtual 152, 3) := by decide +kernel
theorem dL_law_1169 : decode cL_law 1169 = .ok (.if_icmp .eq 448, 3) := by decide +kernel
theorem dL_law_1172 : decode cL_law 1172 = .ok (.iconst 0, 1) := by decide +kernel
theorem dL_law_1173 : decode cL_law 1173 = .ok (.ireturn, 1) := by decide +kernel
theorem dL_law_1174 : decode cL_law 1174 = .ok (.aload_n 1, 1) := by decide +kernel
theorem dL_law_1175 : decode cL_law 1175 = .ok (.aload_n 0, 1) := by decide +kernel
theorem dL_law_1176 : decode cL_law 1176 = .ok (.iload 4, 2) := by decide +kernel
theorem dL_law_1178 : decode cL_law 1178 = .ok (.iconst 1, 1) := by decide +kernel
theorem dL_law_1179 : decode cL_law 1179 = .ok (.iadd, 1) := by decide +kernel
theorem dL_law_1180 : decode cL_law 1180 = .ok (.iaload, 1) := by decide +kernel
theorem dL_law_1181 : decode cL_law 1181 = .ok (.aload_n 0, 1) := by decide +kernel
theorem dL_law_1182 : decode cL_law 1182 = .ok (.iload 4, 2) := by decide +kernel
theorem dL_law_1184 : decode cL_law 1184 = .ok (.iconst 2, 1) := by decide +kernel
theorem dL_law_1185 : decode cL_law 1185 = .ok (.iadd, 1) := by decide +kernel
theorem dL_law_1186 : decode cL_law 1186 = .ok (.iaload, 1) := by decide +kernel
theorem dL_law_1187 : decode cL_law 1187 = .ok (.aload_n 0, 1) := by decide +kernel
theorem dL_law_1188 : decode cL_law 1188 = .ok (.iload 4, 2) := by decide +kernel
theorem dL_law_1190 : decode cL_law 1190 = .ok (.iconst 3, 1) := by decide +kernel
theorem dL_law_1191 : decode cL_law 1191 = .ok (.iadd, 1) := by decide +kernel
theorem dL_law_1192 : decode cL_law 1192 = .ok (.iaload, 1) := by decide +kernel
theorem dL_law_1193 : decode cL_law 1193 = .ok (.invokevirtual 153, 3) := by decide +kernel
theorem dL_law_1196 : decode cL_law 1196 = .ok (.aload_n 2, 1) := by decide +kernel
theorem dL_law_1197 : decode cL_law 1197 = .ok (.aload_n 0, 1) := by decide +kernel
theorem dL_law_1198 : decode cL_law 1198 = .ok (.iload 4, 2) := by decide +kernel
theorem dL_law_1200 : decode cL_law 1200 = .ok (.iconst 1, 1) := by decide +kernel
theorem dL_law_1201 : decode cL_law 1201 = .ok (.iadd, 1) := by decide +kernel
theorem dL_law_1202 : decode cL_law 1202 = .ok (.iaload, 1) := by decide +kernel
theorem dL_law_1203 : decode cL_law 1203 = .ok (.aload_n 0, 1) := by decide +kernel
theorem dL_law_1204 : decode cL_law 1204 = .ok (.iload 4, 2) := by decide +kernel
theorem dL_law_1206 : decode cL_law 1206 = .ok (.iconst 2, 1) := by decide +kernel
theorem dL_law_1207 : decode cL_law 1207 = .ok (.iadd, 1) := by decide +kernel
theorem dL_law_1208 : decode cL_law 1208 = .ok (.iaload, 1) := by decide +kernel
theorem dL_law_1209 : decode cL_law 1209 = .ok (.aload_n 0, 1) := by decide +kernel
theorem dL_law_1210 : decode cL_law 1210 = .ok (.iload 4, 2) := by decide +kernel
theorem dL_law_1212 : decode cL_law 1212 = .ok (.iconst 3, 1) := by decide +kernel
theorem dL_law_1213 : decode cL_law 1213 = .ok (.iadd, 1) := by decide +kernel
theorem dL_law_1214 : decode cL_law 1214 = .ok (.iaload, 1) := by decide +kernel
theorem dL_law_1215 : decode cL_law 1215 = .ok (.invokevirtual 156, 3) := by decide +kernel
theorem dL_law_1218 : decode cL_law 1218 = .ok (.if_icmp .eq 399, 3) := by decide +kernel
theorem dL_law_1221 : decode cL_law 1221 = .ok (.iconst 0, 1) := by decide +kernel
theorem dL_law_1222 : decode cL_law 1222 = .ok (.ireturn, 1) := by decide +kernel
theorem dL_law_1223 : decode cL_law 1223 = .ok (.aload_n 1, 1) := by decide +kernel
theorem dL_law_1224 : decode cL_law 1224 = .ok (.aload_n 0, 1) := by decide +kernel
theorem dL_law_1225 : decode cL_law 1225 = .ok (.iload 4, 2) := by decide +kernel
theorem dL_law_1227 : decode cL_law 1227 = .ok (.iconst 1, 1) := by decide +kernel
theorem dL_law_1228 : decode cL_law 1228 = .ok (.iadd, 1) := by decide +kernel
theorem dL_law_1229 : decode cL_law 1229 = .ok (.iaload, 1) := by decide +kernel
theorem dL_law_1230 : decode cL_law 1230 = .ok (.aload_n 0, 1) := by decide +kernel
theorem dL_law_1231 : decode cL_law 1231 = .ok (.iload 4, 2) := by decide +kernel
theorem dL_law_1233 : decode cL_law 1233 = .ok (.iconst 2, 1) := by decide +kernel
theorem dL_law_1234 : decode cL_law 1234 = .ok (.iadd, 1) := by decide +kernel
theorem dL_law_1235 : decode cL_law 1235 = .ok (.iaload, 1) := by decide +kernel
theorem dL_law_1236 : decode cL_law 1236 = .ok (.invokevirtual 157, 3) := by decide +kernel
theorem dL_law_1239 : decode cL_law 1239 = .ok (.aload_n 2, 1) := by decide +kernel
theorem dL_law_1240 : decode cL_law 1240 = .ok (.aload_n 0, 1) := by decide +kernel
theorem dL_law_1241 : decode cL_law 1241 = .ok (.iload 4, 2) := by decide +kernel
theorem dL_law_1243 : decode cL_law 1243 = .ok (.iconst 1, 1) := by decide +kernel
theorem dL_law_1244 : decode cL_law 1244 = .ok (.iadd, 1) := by decide +kernel
theorem dL_law_1245 : decode cL_law 1245 = .ok (.iaload, 1) := by decide +kernel
theorem dL_law_1246 : decode cL_law 1246 = .ok (.aload_n 0, 1) := by decide +kernel
theorem dL_law_1247 : decode cL_law 1247 = .ok (.iload 4, 2) := by decide +kernel
theorem dL_law_1249 : decode cL_law 1249 = .ok (.iconst 2, 1) := by decide +kernel
theorem dL_law_1250 : decode cL_law 1250 = .ok (.iadd, 1) := by decide +kernel
theorem dL_law_1251 : decode cL_law 1251 = .ok (.iaload, 1) := by decide +kernel
theorem dL_law_1252 : decode cL_law 1252 = .ok (.invokevirtual 160, 3) := by decide +kernel
theorem dL_law_1255 : decode cL_law 1255 = .ok (.if_icmp .eq 362, 3) := by decide +kernel
theorem dL_law_1258 : decode cL_law 1258 = .ok (.iconst 0, 1) := by decide +kernel
theorem dL_law_1259 : decode cL_law 1259 = .ok (.ireturn, 1) := by decide +kernel
theorem dL_law_1260 : decode cL_law 1260 = .ok (.aload_n 1, 1) := by decide +kernel
theorem dL_law_1261 : decode cL_law 1261 = .ok (.invokevirtual 161, 3) := by decide +kernel
theorem dL_law_1264 : decode cL_law 1264 = .ok (.aload_n 2, 1) := by decide +kernel
theorem dL_law_1265 : decode cL_law 1265 = .ok (.invokevirtual 164, 3) := by decide +kernel
theorem dL_law_1268 : decode cL_law 1268 = .ok (.if_icmp .eq 349, 3) := by decide +kernel
theorem dL_law_1271 : decode cL_law 1271 = .ok (.iconst 0, 1) := by decide +kernel
theorem dL_law_1272 : decode cL_law 1272 = .ok (.ireturn, 1) := by decide +kernel
theorem dL_law_1273 : decode cL_law 1273 = .ok (.aload_n 1, 1) := by decide +kernel
theorem dL_law_1274 : decode cL_law 1274 = .ok (.invokevirtual 165, 3) := by decide +kernel
theorem dL_law_1277 : decode cL_law 1277 = .ok (.aload_n 2, 1) := by decide +kernel
theorem dL_law_1278 : decode cL_law 1278 = .ok (.invokevirtual 168, 3) := by decide +kernel
theorem dL_law_1281 : decode cL_law 1281 = .ok (.if_icmp .eq 336, 3) := by decide +kernel
theorem dL_law_1284 : decode cL_law 1284 = .ok (.iconst 0, 1) := by decide +kernel
theorem dL_law_1285 : decode cL_law 1285 = .ok (.ireturn, 1) := by decide +kernel
theorem dL_law_1286 : decode cL_law 1286 = .ok (.aload_n 1, 1) := by decide +kernel
theorem dL_law_1287 : decode cL_law 1287 = .ok (.invokevirtual 169, 3) := by decide +kernel
theorem dL_law_1290 : decode cL_law 1290 = .ok (.aload_n 2, 1) := by decide +kernel
theorem dL_law_1291 : decode cL_law 1291 = .ok (.invokevirtual 172, 3) := by decide +kernel
theorem dL_law_1294 : decode cL_law 1294 = .ok (.if_icmp .eq 323, 3) := by decide +kernel
theorem dL_law_1297 : decode cL_law 1297 = .ok (.iconst 0, 1) := by decide +kernel
theorem dL_law_1298 : decode cL_law 1298 = .ok (.ireturn, 1) := by decide +kernel
theorem dL_law_1299 : decode cL_law 1299 = .ok (.aload_n 1, 1) := by decide +kernel
theorem dL_law_1300 : decode cL_law 1300 = .ok (.aload_n 0, 1) := by decide +kernel
theorem dL_law_1301 : decode cL_law 1301 = .ok (.iload 4, 2) := by decide +kernel
theorem dL_law_1303 : decode cL_law 1303 = .ok (.iconst 1, 1) := by decide +kernel
theorem dL_law_1304 : decode cL_law 1304 = .ok (.iadd, 1) := by decide +kernel
theorem dL_law_1305 : decode cL_law 1305 = .ok (.iaload, 1) := by decide +kernel
theorem dL_law_1306 : decode cL_law 1306 = .ok (.aload_n 0, 1) := by decide +kernel
theorem dL_law_1307 : decode cL_law 1307 = .ok (.iload 4, 2) := by decide +kernel
theorem dL_law_1309 : decode cL_law 1309 = .ok (.iconst 2, 1) := by decide +kernel
theorem dL_law_1310 : decode cL_law 1310 = .ok (.iadd, 1) := by decide +kernel
theorem dL_law_1311 : decode cL_law 1311 = .ok (.iaload, 1) := by decide +kernel
theorem dL_law_1312 : decode cL_law 1312 = .ok (.aload_n 0, 1) := by decide +kernel
theorem dL_law_1313 : decode cL_law 1313 = .ok (.iload 4, 2) := by decide +kernel
theorem dL_law_1315 : decode cL_law 1315 = .ok (.iconst 3, 1) := by decide +kernel
theorem dL_law_1316 : decode cL_law 1316 = .ok (.iadd, 1) := by decide +kernel
theorem dL_law_1317 : decode cL_law 1317 = .ok (.iaload, 1) := by decide +kernel
theorem dL_law_1318 : decode cL_law 1318 = .ok (.invokevirtual 173, 3) := by decide +kernel
theorem dL_law_1321 : decode cL_law 1321 = .ok (.aload_n 2, 1) := by decide +kernel
theorem dL_law_1322 : decode cL_law 1322 = .ok (.aload_n 0, 1) := by decide +kernel
theorem dL_law_1323 : decode cL_law 1323 = .ok (.iload 4, 2) := by decide +kernel
theorem dL_law_1325 : decode cL_law 1325 = .ok (.iconst 1, 1) := by decide +kernel
theorem dL_law_1326 : decode cL_law 1326 = .ok (.iadd, 1) := by decide +kernel
theorem dL_law_1327 : decode cL_law 1327 = .ok (.iaload, 1) := by decide +kernel
theorem dL_law_1328 : decode cL_law 1328 = .ok (.aload_n 0, 1) := by decide +kernel
theorem dL_law_1329 : decode cL_law 1329 = .ok (.iload 4, 2) := by decide +kernel
theorem dL_law_1331 : decode cL_law 1331 = .ok (.iconst 2, 1) := by decide +kernel
theorem dL_law_1332 : decode cL_law 1332 = .ok (.iadd, 1) := by decide +kernel
theorem dL_law_1333 : decode cL_law 1333 = .ok (.iaload, 1) := by decide +kernel
theorem dL_law_1334 : decode cL_law 1334 = .ok (.aload_n 0, 1) := by decide +kernel
theorem dL_law_1335 : decode cL_law 1335 = .ok (.iload 4, 2) := by decide +kernel
theorem dL_law_1337 : decode cL_law 1337 = .ok (.iconst 3, 1) := by decide +kernel
theorem dL_law_1338 : decode cL_law 1338 = .ok (.iadd, 1) := by decide +kernel
theorem dL_law_1339 : decode cL_law 1339 = .ok (.iaload, 1) := by decide +kernel
theorem dL_law_1340 : decode cL_law 1340 = .ok (.invokevirtual 176, 3) := by decide +kernel
theorem dL_law_1343 : decode cL_law 1343 = .ok (.if_icmp .eq 274, 3) := by decide +kernel
theorem dL_law_1346 : decode cL_law 1346 = .ok (.iconst 0, 1) := by decide +kernel
theorem dL_law_1347 : decode cL_law 1347 = .ok (.ireturn, 1) := by decide +kernel
theorem dL_law_1348 : decode cL_law 1348 = .ok (.aload_n 1, 1) := by decide +kernel
theorem dL_law_1349 : decode cL_law 1349 = .ok (.invokevirtual 177, 3) := by decide +kernel
theorem dL_law_1352 : decode cL_law 1352 = .ok (.aload_n 2, 1) := by decide +kernel
theorem dL_law_1353 : decode cL_law 1353 = .ok (.invokevirtual 180, 3) := by decide +kernel
theorem dL_law_1356 : decode cL_law 1356 = .ok (.if_icmp .eq 261, 3) := by decide +kernel
theorem dL_law_1359 : decode cL_law 1359 = .ok (.iconst 0, 1) := by decide +kernel
theorem dL_law_1360 : decode cL_law 1360 = .ok (.ireturn, 1) := by decide +kernel
theorem dL_law_1361 : decode cL_law 1361 = .ok (.aload_n 1, 1) := by decide +kernel
theorem dL_law_1362 : decode cL_law 1362 = .ok (.invokevirtual 181, 3) := by decide +kernel
theorem dL_law_1365 : decode cL_law 1365 = .ok (.aload_n 2, 1) := by decide +kernel
theorem dL_law_1366 : decode cL_law 1366 = .ok (.invokevirtual 184, 3) := by decide +kernel
theorem dL_law_1369 : decode cL_law 1369 = .ok (.if_icmp .eq 248, 3) := by decide +kernel
theorem dL_law_1372 : decode cL_law 1372 = .ok (.iconst 0, 1) := by decide +kernel
theorem dL_law_1373 : decode cL_law 1373 = .ok (.ireturn, 1) := by decide +kernel
theorem dL_law_1374 : decode cL_law 1374 = .ok (.aload_n 1, 1) := by decide +kernel
theorem dL_law_1375 : decode cL_law 1375 = .ok (.invokevirtual 185, 3) := by decide +kernel
theorem dL_law_1378 : decode cL_law 1378 = .ok (.aload_n 2, 1) := by decide +kernel
theorem dL_law_1379 : decode cL_law 1379 = .ok (.invokevirtual 188, 3) := by decide +kernel
theorem dL_law_1382 : decode cL_law 1382 = .ok (.if_icmp .eq 235, 3) := by decide +kernel
theorem dL_law_1385 : decode cL_law 1385 = .ok (.iconst 0, 1) := by decide +kernel
theorem dL_law_1386 : decode cL_law 1386 = .ok (.ireturn, 1) := by decide +kernel
theorem dL_law_1387 : decode cL_law 1387 = .ok (.aload_n 1, 1) := by decide +kernel
theorem dL_law_1388 : decode cL_law 1388 = .ok (.aload_n 0, 1) := by decide +kernel
theorem dL_law_1389 : decode cL_law 1389 = .ok (.iload 4, 2) := by decide +kernel
theorem dL_law_1391 : decode cL_law 1391 = .ok (.iconst 1, 1) := by decide +kernel
theorem dL_law_1392 : decode cL_law 1392 = .ok (.iadd, 1) := by decide +kernel
theorem dL_law_1393 : decode cL_law 1393 = .ok (.iaload, 1) := by decide +kernel
theorem dL_law_1394 : decode cL_law 1394 = .ok (.invokevirtual 189, 3) := by decide +kernel
theorem dL_law_1397 : decode cL_law 1397 = .ok (.aload_n 2, 1) := by decide +kernel
theorem dL_law_1398 : decode cL_law 1398 = .ok (.aload_n 0, 1) := by decide +kernel
theorem dL_law_1399 : decode cL_law 1399 = .ok (.iload 4, 2) := by decide +kernel
theorem dL_law_1401 : decode cL_law 1401 = .ok (.iconst 1, 1) := by decide +kernel
theorem dL_law_1402 : decode cL_law 1402 = .ok (.iadd, 1) := by decide +kernel
theorem dL_law_1403 : decode cL_law 1403 = .ok (.iaload, 1) := by decide +kernel
theorem dL_law_1404 : decode cL_law 1404 = .ok (.invokevirtual 192, 3) := by decide +kernel
theorem dL_law_1407 : decode cL_law 1407 = .ok (.if_icmp .eq 210, 3) := by decide +kernel
theorem dL_law_1410 : decode cL_law 1410 = .ok (.iconst 0, 1) := by decide +kernel
theorem dL_law_1411 : decode cL_law 1411 = .ok (.ireturn, 1) := by decide +kernel
theorem dL_law_1412 : decode cL_law 1412 = .ok (.aload_n 1, 1) := by decide +kernel
theorem dL_law_1413 : decode cL_law 1413 = .ok (.aload_n 0, 1) := by decide +kernel
theorem dL_law_1414 : decode cL_law 1414 = .ok (.iload 4, 2) := by decide +kernel
theorem dL_law_1416 : decode cL_law 1416 = .ok (.iconst 1, 1) := by decide +kernel
theorem dL_law_1417 : decode cL_law 1417 = .ok (.iadd, 1) := by decide +kernel
theorem dL_law_1418 : decode cL_law 1418 = .ok (.iaload, 1) := by decide +kernel
theorem dL_law_1419 : decode cL_law 1419 = .ok (.invokevirtual 193, 3) := by decide +kernel
theorem dL_law_1422 : decode cL_law 1422 = .ok (.aload_n 2, 1) := by decide +kernel
theorem dL_law_1423 : decode cL_law 1423 = .ok (.aload_n 0, 1) := by decide +kernel
theorem dL_law_1424 : decode cL_law 1424 = .ok (.iload 4, 2) := by decide +kernel
theorem dL_law_1426 : decode cL_law 1426 = .ok (.iconst 1, 1) := by decide +kernel
theorem dL_law_1427 : decode cL_law 1427 = .ok (.iadd, 1) := by decide +kernel
theorem dL_law_1428 : decode cL_law 1428 = .ok (.iaload, 1) := by decide +kernel
theorem dL_law_1429 : decode cL_law 1429 = .ok (.invokevirtual 196, 3) := by decide +kernel
theorem dL_law_1432 : decode cL_law 1432 = .ok (.if_icmp .eq 185, 3) := by decide +kernel
theorem dL_law_1435 : decode cL_law 1435 = .ok (.iconst 0, 1) := by decide +kernel
theorem dL_law_1436 : decode cL_law 1436 = .ok (.ireturn, 1) := by decide +kernel
theorem dL_law_1437 : decode cL_law 1437 = .ok (.aload_n 1, 1) := by decide +kernel
theorem dL_law_1438 : decode cL_law 1438 = .ok (.invokevirtual 197, 3) := by decide +kernel
theorem dL_law_1441 : decode cL_law 1441 = .ok (.aload_n 2, 1) := by decide +kernel
theorem dL_law_1442 : decode cL_law 1442 = .ok (.invokevirtual 200, 3) := by decide +kernel
theorem dL_law_1445 : decode cL_law 1445 = .ok (.if_icmp .eq 172, 3) := by decide +kernel
theorem dL_law_1448 : decode cL_law 1448 = .ok (.iconst 0, 1) := by decide +kernel
theorem dL_law_1449 : decode cL_law 1449 = .ok (.ireturn, 1) := by decide +kernel
theorem dL_law_1450 : decode cL_law 1450 = .ok (.aload_n 1, 1) := by decide +kernel
theorem dL_law_1451 : decode cL_law 1451 = .ok (.aload_n 0, 1) := by decide +kernel
theorem dL_law_1452 : decode cL_law 1452 = .ok (.iload 4, 2) := by decide +kernel
theorem dL_law_1454 : decode cL_law 1454 = .ok (.iconst 1, 1) := by decide +kernel
theorem dL_law_1455 : decode cL_law 1455 = .ok (.iadd, 1) := by decide +kernel
theorem dL_law_1456 : decode cL_law 1456 = .ok (.iaload, 1) := by decide +kernel
theorem dL_law_1457 : decode cL_law 1457 = .ok (.aload_n 0, 1) := by decide +kernel
theorem dL_law_1458 : decode cL_law 1458 = .ok (.iload 4, 2) := by decide +kernel
theorem dL_law_1460 : decode cL_law 1460 = .ok (.iconst 2, 1) := by decide +kernel
theorem dL_law_1461 : decode cL_law 1461 = .ok (.iadd, 1) := by decide +kernel
theorem dL_law_1462 : decode cL_law 1462 = .ok (.iaload, 1) := by decide +kernel
theorem dL_law_1463 : decode cL_law 1463 = .ok (.invokevirtual 201, 3) := by decide +kernel
theorem dL_law_1466 : decode cL_law 1466 = .ok (.aload_n 2, 1) := by decide +kernel
theorem dL_law_1467 : decode cL_law 1467 = .ok (.aload_n 0, 1) := by decide +kernel
theorem dL_law_1468 : decode cL_law 1468 = .ok (.iload 4, 2) := by decide +kernel
theorem dL_law_1470 : decode cL_law 1470 = .ok (.iconst 1, 1) := by decide +kernel
theorem dL_law_1471 : decode cL_law 1471 = .ok (.iadd, 1) := by decide +kernel
theorem dL_law_1472 : decode cL_law 1472 = .ok (.iaload, 1) := by decide +kernel
theorem dL_law_1473 : decode cL_law 1473 = .ok (.aload_n 0, 1) := by decide +kernel
theorem dL_law_1474 : decode cL_law 1474 = .ok (.iload 4, 2) := by decide +kernel
theorem dL_law_1476 : decode cL_law 1476 = .ok (.iconst 2, 1) := by decide +kernel
theorem dL_law_1477 : decode cL_law 1477 = .ok (.iadd, 1) := by decide +kernel
theorem dL_law_1478 : decode cL_law 1478 = .ok (.iaload, 1) := by decide +kernel
theorem dL_law_1479 : decode cL_law 1479 = .ok (.invokevirtual 204, 3) := by decide +kernel
theorem dL_law_1482 : decode cL_law 1482 = .ok (.if_icmp .eq 135, 3) := by decide +kernel
theorem dL_law_1485 : decode cL_law 1485 = .ok (.iconst 0, 1) := by decide +kernel
theorem dL_law_1486 : decode cL_law 1486 = .ok (.ireturn, 1) := by decide +kernel
theorem dL_law_1487 : decode cL_law 1487 = .ok (.aload_n 1, 1) := by decide +kernel
theorem dL_law_1488 : decode cL_law 1488 = .ok (.aload_n 0, 1) := by decide +kernel
theorem dL_law_1489 : decode cL_law 1489 = .ok (.iload 4, 2) := by decide +kernel
theorem dL_law_1491 : decode cL_law 1491 = .ok (.iconst 1, 1) := by decide +kernel
theorem dL_law_1492 : decode cL_law 1492 = .ok (.iadd, 1) := by decide +kernel
theorem dL_law_1493 : decode cL_law 1493 = .ok (.iaload, 1) := by decide +kernel
theorem dL_law_1494 : decode cL_law 1494 = .ok (.invokevirtual 205, 3) := by decide +kernel
theorem dL_law_1497 : decode cL_law 1497 = .ok (.aload_n 2, 1) := by decide +kernel
theorem dL_law_1498 : decode cL_law 1498 = .ok (.aload_n 0, 1) := by decide +kernel
theorem dL_law_1499 : decode cL_law 1499 = .ok (.iload 4, 2) := by decide +kernel
theorem dL_law_1501 : decode cL_law 1501 = .ok (.iconst 1, 1) := by decide +kernel
theorem dL_law_1502 : decode cL_law 1502 = .ok (.iadd, 1) := by decide +kernel
theorem dL_law_1503 : decode cL_law 1503 = .ok (.iaload, 1) := by decide +kernel
theorem dL_law_1504 : decode cL_law 1504 = .ok (.invokevirtual 208, 3) := by decide +kernel
theorem dL_law_1507 : decode cL_law 1507 = .ok (.if_icmp .eq 110, 3) := by decide +kernel
theorem dL_law_1510 : decode cL_law 1510 = .ok (.iconst 0, 1) := by decide +kernel
theorem dL_law_1511 : decode cL_law 1511 = .ok (.ireturn, 1) := by decide +kernel
theorem dL_law_1512 : decode cL_law 1512 = .ok (.aload_n 1, 1) := by decide +kernel
theorem dL_law_1513 : decode cL_law 1513 = .ok (.aload_n 0, 1) := by decide +kernel
theorem dL_law_1514 : decode cL_law 1514 = .ok (.iload 4, 2) := by decide +kernel
theorem dL_law_1516 : decode cL_law 1516 = .ok (.iconst 1, 1) := by decide +kernel
theorem dL_law_1517 : decode cL_law 1517 = .ok (.iadd, 1) := by decide +kernel
theorem dL_law_1518 : decode cL_law 1518 = .ok (.iaload, 1) := by decide +kernel
theorem dL_law_1519 : decode cL_law 1519 = .ok (.invokevirtual 209, 3) := by decide +kernel
theorem dL_law_1522 : decode cL_law 1522 = .ok (.aload_n 2, 1) := by decide +kernel
theorem dL_law_1523 : decode cL_law 1523 = .ok (.aload_n 0, 1) := by decide +kernel
theorem dL_law_1524 : decode cL_law 1524 = .ok (.iload 4, 2) := by decide +kernel
theorem dL_law_1526 : decode cL_law 1526 = .ok (.iconst 1, 1) := by decide +kernel
theorem dL_law_1527 : decode cL_law 1527 = .ok (.iadd, 1) := by decide +kernel
theorem dL_law_1528 : decode cL_law 1528 = .ok (.iaload, 1) := by decide +kernel
theorem dL_law_1529 : decode cL_law 1529 = .ok (.invokevirtual 212, 3) := by decide +kernel
theorem dL_law_1532 : decode cL_law 1532 = .ok (.if_icmp .eq 85, 3) := by decide +kernel
theorem dL_law_1535 : decode cL_law 1535 = .ok (.iconst 0, 1) := by decide +kernel
theorem dL_law_1536 : decode cL_law 1536 = .ok (.ireturn, 1) := by decide +kernel
theorem dL_law_1537 : decode cL_law 1537 = .ok (.aload_n 1, 1) := by decide +kernel
theorem dL_law_1538 : decode cL_law 1538 = .ok (.aload_n 0, 1) := by decide +kernel
theorem dL_law_1539 : decode cL_law 1539 = .ok (.iload 4, 2) := by decide +kernel
theorem dL_law_1541 : decode cL_law 1541 = .ok (.iconst 1, 1) := by decide +kernel
theorem dL_law_1542 : decode cL_law 1542 = .ok (.iadd, 1) := by decide +kernel
theorem dL_law_1543 : decode cL_law 1543 = .ok (.iaload, 1) := by decide +kernel
theorem dL_law_1544 : decode cL_law 1544 = .ok (.invokevirtual 213, 3) := by decide +kernel
theorem dL_law_1547 : decode cL_law 1547 = .ok (.aload_n 2, 1) := by decide +kernel
theorem dL_law_1548 : decode cL_law 1548 = .ok (.aload_n 0, 1) := by decide +kernel
theorem dL_law_1549 : decode cL_law 1549 = .ok (.iload 4, 2) := by decide +kernel
theorem dL_law_1551 : decode cL_law 1551 = .ok (.iconst 1, 1) := by decide +kernel
theorem dL_law_1552 : decode cL_law 1552 = .ok (.iadd, 1) := by decide +kernel
theorem dL_law_1553 : decode cL_law 1553 = .ok (.iaload, 1) := by decide +kernel
theorem dL_law_1554 : decode cL_law 1554 = .ok (.invokevirtual 216, 3) := by decide +kernel
theorem dL_law_1557 : decode cL_law 1557 = .ok (.if_icmp .eq 60, 3) := by decide +kernel
theorem dL_law_1560 : decode cL_law 1560 = .ok (.iconst 0, 1) := by decide +kernel
theorem dL_law_1561 : decode cL_law 1561 = .ok (.ireturn, 1) := by decide +kernel
theorem dL_law_1562 : decode cL_law 1562 = .ok (.aload_n 1, 1) := by decide +kernel
theorem dL_law_1563 : decode cL_law 1563 = .ok (.aload_n 0, 1) := by decide +kernel
theorem dL_law_1564 : decode cL_law 1564 = .ok (.iload 4, 2) := by decide +kernel
theorem dL_law_1566 : decode cL_law 1566 = .ok (.iconst 1, 1) := by decide +kernel
theorem dL_law_1567 : decode cL_law 1567 = .ok (.iadd, 1) := by decide +kernel
theorem dL_law_1568 : decode cL_law 1568 = .ok (.iaload, 1) := by decide +kernel
theorem dL_law_1569 : decode cL_law 1569 = .ok (.aload_n 3, 1) := by decide +kernel
theorem dL_law_1570 : decode cL_law 1570 = .ok (.invokestatic 217, 3) := by decide +kernel
theorem dL_law_1573 : decode cL_law 1573 = .ok (.istore 5, 2) := by decide +kernel
theorem dL_law_1575 : decode cL_law 1575 = .ok (.aload_n 2, 1) := by decide +kernel
theorem dL_law_1576 : decode cL_law 1576 = .ok (.aload_n 0, 1) := by decide +kernel
theorem dL_law_1577 : decode cL_law 1577 = .ok (.iload 4, 2) := by decide +kernel
theorem dL_law_1579 : decode cL_law 1579 = .ok (.iconst 1, 1) := by decide +kernel
theorem dL_law_1580 : decode cL_law 1580 = .ok (.iadd, 1) := by decide +kernel
theorem dL_law_1581 : decode cL_law 1581 = .ok (.iaload, 1) := by decide +kernel
theorem dL_law_1582 : decode cL_law 1582 = .ok (.invokevirtual 220, 3) := by decide +kernel
theorem dL_law_1585 : decode cL_law 1585 = .ok (.lstore 6, 2) := by decide +kernel
theorem dL_law_1587 : decode cL_law 1587 = .ok (.aload_n 2, 1) := by decide +kernel
theorem dL_law_1588 : decode cL_law 1588 = .ok (.invokevirtual 54, 3) := by decide +kernel
theorem dL_law_1591 : decode cL_law 1591 = .ok (.iload 5, 2) := by decide +kernel
theorem dL_law_1593 : decode cL_law 1593 = .ok (.if_icmp .eq 5, 3) := by decide +kernel
theorem dL_law_1596 : decode cL_law 1596 = .ok (.iconst 0, 1) := by decide +kernel
theorem dL_law_1597 : decode cL_law 1597 = .ok (.ireturn, 1) := by decide +kernel
theorem dL_law_1598 : decode cL_law 1598 = .ok (.iload 5, 2) := by decide +kernel
theorem dL_law_1600 : decode cL_law 1600 = .ok (.ifCond .ne 14, 3) := by decide +kernel
theorem dL_law_1603 : decode cL_law 1603 = .ok (.aload_n 3, 1) := by decide +kernel
theorem dL_law_1604 : decode cL_law 1604 = .ok (.iconst 0, 1) := by decide +kernel
theorem dL_law_1605 : decode cL_law 1605 = .ok (.laload, 1) := by decide +kernel
theorem dL_law_1606 : decode cL_law 1606 = .ok (.lload 6, 2) := by decide +kernel
theorem dL_law_1608 : decode cL_law 1608 = .ok (.lcmp, 1) := by decide +kernel
theorem dL_law_1609 : decode cL_law 1609 = .ok (.ifCond .eq 5, 3) := by decide +kernel
theorem dL_law_1612 : decode cL_law 1612 = .ok (.iconst 0, 1) := by decide +kernel
theorem dL_law_1613 : decode cL_law 1613 = .ok (.ireturn, 1) := by decide +kernel
theorem dL_law_1614 : decode cL_law 1614 = .ok (.goto 3, 3) := by decide +kernel
theorem dL_law_1617 : decode cL_law 1617 = .ok (.iinc 4 5, 3) := by decide +kernel
theorem dL_law_1620 : decode cL_law 1620 = .ok (.goto (-1597), 3) := by decide +kernel
theorem dL_law_1623 : decode cL_law 1623 = .ok (.iconst 1, 1) := by decide +kernel
theorem dL_law_1624 : decode cL_law 1624 = .ok (.ireturn, 1) := by decide +kernel
def fL_law_J236 (xs : Nat → Int32) (L : Nat) (k1617 : AH → Nat → Nat → Nat → Int32 → Option (Unit)) (h : AH) (v1 : Nat) (v2 : Nat) (v3 : Nat) (v4 : Int32) : Option (Unit) :=
    (scI xs L (v4 + 1)).bind fun x1 =>
    (fX10_sign h v1 x1).bind fun q2 =>
    (scI xs L (v4 + 1)).bind fun x3 =>
    (fX11_sign q2.2 v2 x3).bind fun q4 =>
    if q2.1 = q4.1 then (
      k1617 q4.2 v1 v2 v3 v4
    ) else (
      none
    )
def fL_law_J261 (xs : Nat → Int32) (L : Nat) (k1617 : AH → Nat → Nat → Nat → Int32 → Option (Unit)) (h : AH) (v1 : Nat) (v2 : Nat) (v3 : Nat) (v4 : Int32) : Option (Unit) :=
    (scI xs L (v4 + 1)).bind fun x5 =>
    (fX10_end h v1 x5).bind fun q6 =>
    (scI xs L (v4 + 1)).bind fun x7 =>
    (fX11_end q6.2 v2 x7).bind fun q8 =>
    if (b2i q6.1) = (b2i q8.1) then (
      k1617 q8.2 v1 v2 v3 v4
    ) else (
      none
    )
def fL_law_J286 (xs : Nat → Int32) (L : Nat) (k1617 : AH → Nat → Nat → Nat → Int32 → Option (Unit)) (h : AH) (v1 : Nat) (v2 : Nat) (v3 : Nat) (v4 : Int32) : Option (Unit) :=
    (fX10_spaces h v1).bind fun q9 =>
    (fX11_spaces q9.2 v2).bind fun q10 =>
    if q9.1 = q10.1 then (
      k1617 q10.2 v1 v2 v3 v4
    ) else (
      none
    )
def fL_law_J299 (xs : Nat → Int32) (L : Nat) (k1617 : AH → Nat → Nat → Nat → Int32 → Option (Unit)) (h : AH) (v1 : Nat) (v2 : Nat) (v3 : Nat) (v4 : Int32) : Option (Unit) :=
    (fX10_rule h v1).bind fun q11 =>
    (fX11_rule q11.2 v2).bind fun q12 =>
    if q11.1 = q12.1 then (
      k1617 q12.2 v1 v2 v3 v4
    ) else (
      none
    )
def fL_law_J312 (xs : Nat → Int32) (L : Nat) (k1617 : AH → Nat → Nat → Nat → Int32 → Option (Unit)) (h : AH) (v1 : Nat) (v2 : Nat) (v3 : Nat) (v4 : Int32) : Option (Unit) :=
    (scI xs L (v4 + 1)).bind fun x13 =>
    (scI xs L (v4 + 2)).bind fun x14 =>
    (fL_space h v1 x13 x14 v3).bind fun q15 =>
    (scI xs L (v4 + 1)).bind fun x16 =>
    (scI xs L (v4 + 2)).bind fun x17 =>
    (fX11_space q15.2 v2 x16 x17).bind fun q18 =>
    (fX11_thrown q18.2 v2).bind fun q19 =>
    if q19 = q15.1 then (
      if q15.1 = 0 then (
        (aJ q18.2 v3 0).bind fun x20 =>
        if (lg_cmp x20 (Int32.toInt64 q18.1)) = 0 then (
          k1617 q18.2 v1 v2 v3 v4
        ) else (
          none
        )
      ) else (
        k1617 q18.2 v1 v2 v3 v4
      )
    ) else (
      none
    )
def fL_law_J380 (xs : Nat → Int32) (L : Nat) (k1617 : AH → Nat → Nat → Nat → Int32 → Option (Unit)) (h : AH) (v1 : Nat) (v2 : Nat) (v3 : Nat) (v4 : Int32) : Option (Unit) :=
    (scI xs L (v4 + 1)).bind fun x21 =>
    (scI xs L (v4 + 2)).bind fun x22 =>
    (fL_object h v1 x21 x22 v3).bind fun q23 =>
    (scI xs L (v4 + 1)).bind fun x24 =>
    (scI xs L (v4 + 2)).bind fun x25 =>
    (fX11_object q23.2 v2 x24 x25).bind fun q26 =>
    (fX11_thrown q26.2 v2).bind fun q27 =>
    if q27 = q23.1 then (
      if q23.1 = 0 then (
        (aJ q26.2 v3 0).bind fun x28 =>
        if (lg_cmp x28 (Int32.toInt64 q26.1)) = 0 then (
          k1617 q26.2 v1 v2 v3 v4
        ) else (
          none
        )
      ) else (
        k1617 q26.2 v1 v2 v3 v4
      )
    ) else (
      none
    )
def fL_law_J448 (xs : Nat → Int32) (L : Nat) (k1617 : AH → Nat → Nat → Nat → Int32 → Option (Unit)) (h : AH) (v1 : Nat) (v2 : Nat) (v3 : Nat) (v4 : Int32) : Option (Unit) :=
    (scI xs L (v4 + 1)).bind fun x29 =>
    (scI xs L (v4 + 2)).bind fun x30 =>
    (fL_page h v1 x29 x30 v3).bind fun q31 =>
    (scI xs L (v4 + 1)).bind fun x32 =>
    (scI xs L (v4 + 2)).bind fun x33 =>
    (fX11_page q31.2 v2 x32 x33).bind fun q34 =>
    (fX11_thrown q34.2 v2).bind fun q35 =>
    if q35 = q31.1 then (
      if q31.1 = 0 then (
        (aJ q34.2 v3 0).bind fun x36 =>
        if (lg_cmp x36 (Int32.toInt64 q34.1)) = 0 then (
          k1617 q34.2 v1 v2 v3 v4
        ) else (
          none
        )
      ) else (
        k1617 q34.2 v1 v2 v3 v4
      )
    ) else (
      none
    )
def fL_law_J516 (xs : Nat → Int32) (L : Nat) (k1617 : AH → Nat → Nat → Nat → Int32 → Option (Unit)) (h : AH) (v1 : Nat) (v2 : Nat) (v3 : Nat) (v4 : Int32) : Option (Unit) :=
    (scI xs L (v4 + 1)).bind fun x37 =>
    (scI xs L (v4 + 2)).bind fun x38 =>
    (scI xs L (v4 + 3)).bind fun x39 =>
    (scI xs L (v4 + 4)).bind fun x40 =>
    (fX10_sheet h v1 x37 x38 x39 x40).bind fun q41 =>
    (scI xs L (v4 + 1)).bind fun x42 =>
    (scI xs L (v4 + 2)).bind fun x43 =>
    (scI xs L (v4 + 3)).bind fun x44 =>
    (scI xs L (v4 + 4)).bind fun x45 =>
    (fX11_sheet q41.2 v2 x42 x43 x44 x45).bind fun q46 =>
    if q41.1 = q46.1 then (
      k1617 q46.2 v1 v2 v3 v4
    ) else (
      none
    )
def fL_law_J577 (xs : Nat → Int32) (L : Nat) (k1617 : AH → Nat → Nat → Nat → Int32 → Option (Unit)) (h : AH) (v1 : Nat) (v2 : Nat) (v3 : Nat) (v4 : Int32) : Option (Unit) :=
    (scI xs L (v4 + 1)).bind fun x47 =>
    (scI xs L (v4 + 2)).bind fun x48 =>
    (fX10_reads h v1 x47 x48).bind fun q49 =>
    (scI xs L (v4 + 1)).bind fun x50 =>
    (scI xs L (v4 + 2)).bind fun x51 =>
    (fX11_reads q49.2 v2 x50 x51).bind fun q52 =>
    if q49.1 = q52.1 then (
      k1617 q52.2 v1 v2 v3 v4
    ) else (
      none
    )
def fL_law_J614 (xs : Nat → Int32) (L : Nat) (k1617 : AH → Nat → Nat → Nat → Int32 → Option (Unit)) (h : AH) (v1 : Nat) (v2 : Nat) (v3 : Nat) (v4 : Int32) : Option (Unit) :=
    (scI xs L (v4 + 1)).bind fun x53 =>
    (scI xs L (v4 + 2)).bind fun x54 =>
    (scI xs L (v4 + 3)).bind fun x55 =>
    (fX10_writes h v1 x53 x54 x55).bind fun q56 =>
    (scI xs L (v4 + 1)).bind fun x57 =>
    (scI xs L (v4 + 2)).bind fun x58 =>
    (scI xs L (v4 + 3)).bind fun x59 =>
    (fX11_writes q56.2 v2 x57 x58 x59).bind fun q60 =>
    if q56.1 = q60.1 then (
      k1617 q60.2 v1 v2 v3 v4
    ) else (
      none
    )
def fL_law_J663 (xs : Nat → Int32) (L : Nat) (k1617 : AH → Nat → Nat → Nat → Int32 → Option (Unit)) (h : AH) (v1 : Nat) (v2 : Nat) (v3 : Nat) (v4 : Int32) : Option (Unit) :=
    (scI xs L (v4 + 1)).bind fun x61 =>
    (fX10_forks h v1 x61).bind fun q62 =>
    (scI xs L (v4 + 1)).bind fun x63 =>
    (fX11_forks q62.2 v2 x63).bind fun q64 =>
    if q62.1 = q64.1 then (
      k1617 q64.2 v1 v2 v3 v4
    ) else (
      none
    )
def fL_law_J688 (xs : Nat → Int32) (L : Nat) (k1617 : AH → Nat → Nat → Nat → Int32 → Option (Unit)) (h : AH) (v1 : Nat) (v2 : Nat) (v3 : Nat) (v4 : Int32) : Option (Unit) :=
    (scI xs L (v4 + 1)).bind fun x65 =>
    (fX10_ends h v1 x65).bind fun q66 =>
    (scI xs L (v4 + 1)).bind fun x67 =>
    (fX11_ends q66.2 v2 x67).bind fun q68 =>
    if q66.1 = q68.1 then (
      k1617 q68.2 v1 v2 v3 v4
    ) else (
      none
    )
def fL_law_J713 (xs : Nat → Int32) (L : Nat) (k1617 : AH → Nat → Nat → Nat → Int32 → Option (Unit)) (h : AH) (v1 : Nat) (v2 : Nat) (v3 : Nat) (v4 : Int32) : Option (Unit) :=
    (scI xs L (v4 + 1)).bind fun x69 =>
    (scI xs L (v4 + 2)).bind fun x70 =>
    (scI xs L (v4 + 3)).bind fun x71 =>
    (fX10_arrives h v1 x69 x70 x71).bind fun q72 =>
    (scI xs L (v4 + 1)).bind fun x73 =>
    (scI xs L (v4 + 2)).bind fun x74 =>
    (scI xs L (v4 + 3)).bind fun x75 =>
    (fX11_arrives q72.2 v2 x73 x74 x75).bind fun q76 =>
    if q72.1 = q76.1 then (
      k1617 q76.2 v1 v2 v3 v4
    ) else (
      none
    )
def fL_law_J762 (xs : Nat → Int32) (L : Nat) (k1617 : AH → Nat → Nat → Nat → Int32 → Option (Unit)) (h : AH) (v1 : Nat) (v2 : Nat) (v3 : Nat) (v4 : Int32) : Option (Unit) :=
    (scI xs L (v4 + 1)).bind fun x77 =>
    (fX10_tidies h v1 x77).bind fun q78 =>
    (scI xs L (v4 + 1)).bind fun x79 =>
    (fX11_tidies q78.2 v2 x79).bind fun q80 =>
    if q78.1 = q80.1 then (
      k1617 q80.2 v1 v2 v3 v4
    ) else (
      none
    )
def fL_law_J787 (xs : Nat → Int32) (L : Nat) (k1617 : AH → Nat → Nat → Nat → Int32 → Option (Unit)) (h : AH) (v1 : Nat) (v2 : Nat) (v3 : Nat) (v4 : Int32) : Option (Unit) :=
    (fX10_day h v1).bind fun q81 =>
    (fX11_day q81.2 v2).bind fun q82 =>
    if q81.1 = q82.1 then (
      k1617 q82.2 v1 v2 v3 v4
    ) else (
      none
    )
def fL_law_J800 (xs : Nat → Int32) (L : Nat) (k1617 : AH → Nat → Nat → Nat → Int32 → Option (Unit)) (h : AH) (v1 : Nat) (v2 : Nat) (v3 : Nat) (v4 : Int32) : Option (Unit) :=
    (fX10_undo h v1).bind fun q83 =>
    (fX11_undo q83.2 v2).bind fun q84 =>
    if q83.1 = q84.1 then (
      k1617 q84.2 v1 v2 v3 v4
    ) else (
      none
    )
def fL_law_J813 (xs : Nat → Int32) (L : Nat) (k1617 : AH → Nat → Nat → Nat → Int32 → Option (Unit)) (h : AH) (v1 : Nat) (v2 : Nat) (v3 : Nat) (v4 : Int32) : Option (Unit) :=
    (scI xs L (v4 + 1)).bind fun x85 =>
    (fX10_chain h v1 x85).bind fun q86 =>
    (scI xs L (v4 + 1)).bind fun x87 =>
    (fX11_chain q86.2 v2 x87).bind fun q88 =>
    if q86.1 = q88.1 then (
      k1617 q88.2 v1 v2 v3 v4
    ) else (
      none
    )
def fL_law_J838 (xs : Nat → Int32) (L : Nat) (k1617 : AH → Nat → Nat → Nat → Int32 → Option (Unit)) (h : AH) (v1 : Nat) (v2 : Nat) (v3 : Nat) (v4 : Int32) : Option (Unit) :=
    (scI xs L (v4 + 1)).bind fun x89 =>
    (scI xs L (v4 + 2)).bind fun x90 =>
    (fX10_peeks h v1 x89 x90).bind fun q91 =>
    (scI xs L (v4 + 1)).bind fun x92 =>
    (scI xs L (v4 + 2)).bind fun x93 =>
    (fX11_peeks q91.2 v2 x92 x93).bind fun q94 =>
    if q91.1 = q94.1 then (
      k1617 q94.2 v1 v2 v3 v4
    ) else (
      none
    )
def fL_law_J875 (xs : Nat → Int32) (L : Nat) (k1617 : AH → Nat → Nat → Nat → Int32 → Option (Unit)) (h : AH) (v1 : Nat) (v2 : Nat) (v3 : Nat) (v4 : Int32) : Option (Unit) :=
    (scI xs L (v4 + 1)).bind fun x95 =>
    (fX10_holders h v1 x95).bind fun q96 =>
    (scI xs L (v4 + 1)).bind fun x97 =>
    (fX11_holders q96.2 v2 x97).bind fun q98 =>
    if q96.1 = q98.1 then (
      k1617 q98.2 v1 v2 v3 v4
    ) else (
      none
    )
def fL_law_J900 (xs : Nat → Int32) (L : Nat) (k1617 : AH → Nat → Nat → Nat → Int32 → Option (Unit)) (h : AH) (v1 : Nat) (v2 : Nat) (v3 : Nat) (v4 : Int32) : Option (Unit) :=
    (scI xs L (v4 + 1)).bind fun x99 =>
    (scI xs L (v4 + 2)).bind fun x100 =>
    (fX10_shared h v1 x99 x100).bind fun q101 =>
    (scI xs L (v4 + 1)).bind fun x102 =>
    (scI xs L (v4 + 2)).bind fun x103 =>
    (fX11_shared q101.2 v2 x102 x103).bind fun q104 =>
    if q101.1 = q104.1 then (
      k1617 q104.2 v1 v2 v3 v4
    ) else (
      none
    )
def fL_law_J937 (xs : Nat → Int32) (L : Nat) (k1617 : AH → Nat → Nat → Nat → Int32 → Option (Unit)) (h : AH) (v1 : Nat) (v2 : Nat) (v3 : Nat) (v4 : Int32) : Option (Unit) :=
    (scI xs L (v4 + 1)).bind fun x105 =>
    (scI xs L (v4 + 2)).bind fun x106 =>
    (fX10_differ h v1 x105 x106).bind fun q107 =>
    (scI xs L (v4 + 1)).bind fun x108 =>
    (scI xs L (v4 + 2)).bind fun x109 =>
    (fX11_differ q107.2 v2 x108 x109).bind fun q110 =>
    if q107.1 = q110.1 then (
      k1617 q110.2 v1 v2 v3 v4
    ) else (
      none
    )
def fL_law_J974 (xs : Nat → Int32) (L : Nat) (k1617 : AH → Nat → Nat → Nat → Int32 → Option (Unit)) (h : AH) (v1 : Nat) (v2 : Nat) (v3 : Nat) (v4 : Int32) : Option (Unit) :=
    (scI xs L (v4 + 1)).bind fun x111 =>
    (scI xs L (v4 + 2)).bind fun x112 =>
    (fX10_common h v1 x111 x112).bind fun q113 =>
    (scI xs L (v4 + 1)).bind fun x114 =>
    (scI xs L (v4 + 2)).bind fun x115 =>
    (fX11_common q113.2 v2 x114 x115).bind fun q116 =>
    if q113.1 = q116.1 then (
      k1617 q116.2 v1 v2 v3 v4
    ) else (
      none
    )
def fL_law_J1011 (xs : Nat → Int32) (L : Nat) (k1617 : AH → Nat → Nat → Nat → Int32 → Option (Unit)) (h : AH) (v1 : Nat) (v2 : Nat) (v3 : Nat) (v4 : Int32) : Option (Unit) :=
    (fX10_hidden h v1).bind fun q117 =>
    (fX11_hidden q117.2 v2).bind fun q118 =>
    if q117.1 = q118.1 then (
      k1617 q118.2 v1 v2 v3 v4
    ) else (
      none
    )
def fL_law_J1024 (xs : Nat → Int32) (L : Nat) (k1617 : AH → Nat → Nat → Nat → Int32 → Option (Unit)) (h : AH) (v1 : Nat) (v2 : Nat) (v3 : Nat) (v4 : Int32) : Option (Unit) :=
    (fX10_frames h v1).bind fun q119 =>
    (fX11_frames q119.2 v2).bind fun q120 =>
    if q119.1 = q120.1 then (
      k1617 q120.2 v1 v2 v3 v4
    ) else (
      none
    )
def fL_law_J1037 (xs : Nat → Int32) (L : Nat) (k1617 : AH → Nat → Nat → Nat → Int32 → Option (Unit)) (h : AH) (v1 : Nat) (v2 : Nat) (v3 : Nat) (v4 : Int32) : Option (Unit) :=
    (fX10_deepest h v1).bind fun q121 =>
    (fX11_deepest q121.2 v2).bind fun q122 =>
    if q121.1 = q122.1 then (
      k1617 q122.2 v1 v2 v3 v4
    ) else (
      none
    )
def fL_law_J1050 (xs : Nat → Int32) (L : Nat) (k1617 : AH → Nat → Nat → Nat → Int32 → Option (Unit)) (h : AH) (v1 : Nat) (v2 : Nat) (v3 : Nat) (v4 : Int32) : Option (Unit) :=
    (scI xs L (v4 + 1)).bind fun x123 =>
    (fX10_would h v1 x123).bind fun q124 =>
    (scI xs L (v4 + 1)).bind fun x125 =>
    (fX11_would q124.2 v2 x125).bind fun q126 =>
    if q124.1 = q126.1 then (
      k1617 q126.2 v1 v2 v3 v4
    ) else (
      none
    )
def fL_law_J1075 (xs : Nat → Int32) (L : Nat) (k1617 : AH → Nat → Nat → Nat → Int32 → Option (Unit)) (h : AH) (v1 : Nat) (v2 : Nat) (v3 : Nat) (v4 : Int32) : Option (Unit) :=
    (scI xs L (v4 + 1)).bind fun x127 =>
    (fX10_frees h v1 x127).bind fun q128 =>
    (scI xs L (v4 + 1)).bind fun x129 =>
    (fX11_frees q128.2 v2 x129).bind fun q130 =>
    if q128.1 = q130.1 then (
      k1617 q130.2 v1 v2 v3 v4
    ) else (
      none
    )
def fL_law_J1100 (xs : Nat → Int32) (L : Nat) (k1617 : AH → Nat → Nat → Nat → Int32 → Option (Unit)) (h : AH) (v1 : Nat) (v2 : Nat) (v3 : Nat) (v4 : Int32) : Option (Unit) :=
    (scI xs L (v4 + 1)).bind fun x131 =>
    (scI xs L (v4 + 2)).bind fun x132 =>
    (fX10_storm h v1 x131 x132).bind fun q133 =>
    (scI xs L (v4 + 1)).bind fun x134 =>
    (scI xs L (v4 + 2)).bind fun x135 =>
    (fX11_storm q133.2 v2 x134 x135).bind fun q136 =>
    if q133.1 = q136.1 then (
      k1617 q136.2 v1 v2 v3 v4
    ) else (
      none
    )
def fL_law_J1137 (xs : Nat → Int32) (L : Nat) (k1617 : AH → Nat → Nat → Nat → Int32 → Option (Unit)) (h : AH) (v1 : Nat) (v2 : Nat) (v3 : Nat) (v4 : Int32) : Option (Unit) :=
    (scI xs L (v4 + 1)).bind fun x137 =>
    (scI xs L (v4 + 2)).bind fun x138 =>
    (fX10_sweep h v1 x137 x138).bind fun q139 =>
    (scI xs L (v4 + 1)).bind fun x140 =>
    (scI xs L (v4 + 2)).bind fun x141 =>
    (fX11_sweep q139.2 v2 x140 x141).bind fun q142 =>
    if q139.1 = q142.1 then (
      k1617 q142.2 v1 v2 v3 v4
    ) else (
      none
    )
def fL_law_J1174 (xs : Nat → Int32) (L : Nat) (k1617 : AH → Nat → Nat → Nat → Int32 → Option (Unit)) (h : AH) (v1 : Nat) (v2 : Nat) (v3 : Nat) (v4 : Int32) : Option (Unit) :=
    (scI xs L (v4 + 1)).bind fun x143 =>
    (scI xs L (v4 + 2)).bind fun x144 =>
    (scI xs L (v4 + 3)).bind fun x145 =>
    (fX10_odds h v1 x143 x144 x145).bind fun q146 =>
    (scI xs L (v4 + 1)).bind fun x147 =>
    (scI xs L (v4 + 2)).bind fun x148 =>
    (scI xs L (v4 + 3)).bind fun x149 =>
    (fX11_odds q146.2 v2 x147 x148 x149).bind fun q150 =>
    if q146.1 = q150.1 then (
      k1617 q150.2 v1 v2 v3 v4
    ) else (
      none
    )
def fL_law_J1223 (xs : Nat → Int32) (L : Nat) (k1617 : AH → Nat → Nat → Nat → Int32 → Option (Unit)) (h : AH) (v1 : Nat) (v2 : Nat) (v3 : Nat) (v4 : Int32) : Option (Unit) :=
    (scI xs L (v4 + 1)).bind fun x151 =>
    (scI xs L (v4 + 2)).bind fun x152 =>
    (fX10_heard h v1 x151 x152).bind fun q153 =>
    (scI xs L (v4 + 1)).bind fun x154 =>
    (scI xs L (v4 + 2)).bind fun x155 =>
    (fX11_heard q153.2 v2 x154 x155).bind fun q156 =>
    if q153.1 = q156.1 then (
      k1617 q156.2 v1 v2 v3 v4
    ) else (
      none
    )
def fL_law_J1260 (xs : Nat → Int32) (L : Nat) (k1617 : AH → Nat → Nat → Nat → Int32 → Option (Unit)) (h : AH) (v1 : Nat) (v2 : Nat) (v3 : Nat) (v4 : Int32) : Option (Unit) :=
    (fX10_forget h v1).bind fun q157 =>
    (fX11_forget q157.2 v2).bind fun q158 =>
    if q157.1 = q158.1 then (
      k1617 q158.2 v1 v2 v3 v4
    ) else (
      none
    )
def fL_law_J1273 (xs : Nat → Int32) (L : Nat) (k1617 : AH → Nat → Nat → Nat → Int32 → Option (Unit)) (h : AH) (v1 : Nat) (v2 : Nat) (v3 : Nat) (v4 : Int32) : Option (Unit) :=
    (fX10_fits h v1).bind fun q159 =>
    (fX11_fits q159.2 v2).bind fun q160 =>
    if q159.1 = q160.1 then (
      k1617 q160.2 v1 v2 v3 v4
    ) else (
      none
    )
def fL_law_J1286 (xs : Nat → Int32) (L : Nat) (k1617 : AH → Nat → Nat → Nat → Int32 → Option (Unit)) (h : AH) (v1 : Nat) (v2 : Nat) (v3 : Nat) (v4 : Int32) : Option (Unit) :=
    (fX10_asks h v1).bind fun q161 =>
    (fX11_asks q161.2 v2).bind fun q162 =>
    if q161.1 = q162.1 then (
      k1617 q162.2 v1 v2 v3 v4
    ) else (
      none
    )
def fL_law_J1299 (xs : Nat → Int32) (L : Nat) (k1617 : AH → Nat → Nat → Nat → Int32 → Option (Unit)) (h : AH) (v1 : Nat) (v2 : Nat) (v3 : Nat) (v4 : Int32) : Option (Unit) :=
    (scI xs L (v4 + 1)).bind fun x163 =>
    (scI xs L (v4 + 2)).bind fun x164 =>
    (scI xs L (v4 + 3)).bind fun x165 =>
    (fX10_saw h v1 x163 x164 x165).bind fun q166 =>
    (scI xs L (v4 + 1)).bind fun x167 =>
    (scI xs L (v4 + 2)).bind fun x168 =>
    (scI xs L (v4 + 3)).bind fun x169 =>
    (fX11_saw q166.2 v2 x167 x168 x169).bind fun q170 =>
    if q166.1 = q170.1 then (
      k1617 q170.2 v1 v2 v3 v4
    ) else (
      none
    )
def fL_law_J1348 (xs : Nat → Int32) (L : Nat) (k1617 : AH → Nat → Nat → Nat → Int32 → Option (Unit)) (h : AH) (v1 : Nat) (v2 : Nat) (v3 : Nat) (v4 : Int32) : Option (Unit) :=
    (fX10_denies h v1).bind fun q171 =>
    (fX11_denies q171.2 v2).bind fun q172 =>
    if q171.1 = q172.1 then (
      k1617 q172.2 v1 v2 v3 v4
    ) else (
      none
    )
def fL_law_J1361 (xs : Nat → Int32) (L : Nat) (k1617 : AH → Nat → Nat → Nat → Int32 → Option (Unit)) (h : AH) (v1 : Nat) (v2 : Nat) (v3 : Nat) (v4 : Int32) : Option (Unit) :=
    (fX10_laws h v1).bind fun q173 =>
    (fX11_laws q173.2 v2).bind fun q174 =>
    if q173.1 = q174.1 then (
      k1617 q174.2 v1 v2 v3 v4
    ) else (
      none
    )
def fL_law_J1374 (xs : Nat → Int32) (L : Nat) (k1617 : AH → Nat → Nat → Nat → Int32 → Option (Unit)) (h : AH) (v1 : Nat) (v2 : Nat) (v3 : Nat) (v4 : Int32) : Option (Unit) :=
    (fX10_looks h v1).bind fun q175 =>
    (fX11_looks q175.2 v2).bind fun q176 =>
    if q175.1 = q176.1 then (
      k1617 q176.2 v1 v2 v3 v4
    ) else (
      none
    )
def fL_law_J1387 (xs : Nat → Int32) (L : Nat) (k1617 : AH → Nat → Nat → Nat → Int32 → Option (Unit)) (h : AH) (v1 : Nat) (v2 : Nat) (v3 : Nat) (v4 : Int32) : Option (Unit) :=
    (scI xs L (v4 + 1)).bind fun x177 =>
    (fX10_pages h v1 x177).bind fun q178 =>
    (scI xs L (v4 + 1)).bind fun x179 =>
    (fX11_pages q178.2 v2 x179).bind fun q180 =>
    if q178.1 = q180.1 then (
      k1617 q180.2 v1 v2 v3 v4
    ) else (
      none
    )
def fL_law_J1412 (xs : Nat → Int32) (L : Nat) (k1617 : AH → Nat → Nat → Nat → Int32 → Option (Unit)) (h : AH) (v1 : Nat) (v2 : Nat) (v3 : Nat) (v4 : Int32) : Option (Unit) :=
    (scI xs L (v4 + 1)).bind fun x181 =>
    (fX10_rests h v1 x181).bind fun q182 =>
    (scI xs L (v4 + 1)).bind fun x183 =>
    (fX11_rests q182.2 v2 x183).bind fun q184 =>
    if q182.1 = q184.1 then (
      k1617 q184.2 v1 v2 v3 v4
    ) else (
      none
    )
def fL_law_J1437 (xs : Nat → Int32) (L : Nat) (k1617 : AH → Nat → Nat → Nat → Int32 → Option (Unit)) (h : AH) (v1 : Nat) (v2 : Nat) (v3 : Nat) (v4 : Int32) : Option (Unit) :=
    (fX10_law h v1).bind fun q185 =>
    (fX11_law q185.2 v2).bind fun q186 =>
    if q185.1 = q186.1 then (
      k1617 q186.2 v1 v2 v3 v4
    ) else (
      none
    )
def fL_law_J1450 (xs : Nat → Int32) (L : Nat) (k1617 : AH → Nat → Nat → Nat → Int32 → Option (Unit)) (h : AH) (v1 : Nat) (v2 : Nat) (v3 : Nat) (v4 : Int32) : Option (Unit) :=
    (scI xs L (v4 + 1)).bind fun x187 =>
    (scI xs L (v4 + 2)).bind fun x188 =>
    (fX10_years h v1 x187 x188).bind fun q189 =>
    (scI xs L (v4 + 1)).bind fun x190 =>
    (scI xs L (v4 + 2)).bind fun x191 =>
    (fX11_years q189.2 v2 x190 x191).bind fun q192 =>
    if q189.1 = q192.1 then (
      k1617 q192.2 v1 v2 v3 v4
    ) else (
      none
    )
def fL_law_J1487 (xs : Nat → Int32) (L : Nat) (k1617 : AH → Nat → Nat → Nat → Int32 → Option (Unit)) (h : AH) (v1 : Nat) (v2 : Nat) (v3 : Nat) (v4 : Int32) : Option (Unit) :=
    (scI xs L (v4 + 1)).bind fun x193 =>
    (fX10_keep h v1 x193).bind fun q194 =>
    (scI xs L (v4 + 1)).bind fun x195 =>
    (fX11_keep q194.2 v2 x195).bind fun q196 =>
    if (b2i q194.1) = (b2i q196.1) then (
      k1617 q196.2 v1 v2 v3 v4
    ) else (
      none
    )
def fL_law_J1512 (xs : Nat → Int32) (L : Nat) (k1617 : AH → Nat → Nat → Nat → Int32 → Option (Unit)) (h : AH) (v1 : Nat) (v2 : Nat) (v3 : Nat) (v4 : Int32) : Option (Unit) :=
    (scI xs L (v4 + 1)).bind fun x197 =>
    (fX10_again h v1 x197).bind fun q198 =>
    (scI xs L (v4 + 1)).bind fun x199 =>
    (fX11_again q198.2 v2 x199).bind fun q200 =>
    if (b2i q198.1) = (b2i q200.1) then (
      k1617 q200.2 v1 v2 v3 v4
    ) else (
      none
    )
def fL_law_J1537 (xs : Nat → Int32) (L : Nat) (k1617 : AH → Nat → Nat → Nat → Int32 → Option (Unit)) (h : AH) (v1 : Nat) (v2 : Nat) (v3 : Nat) (v4 : Int32) : Option (Unit) :=
    (scI xs L (v4 + 1)).bind fun x201 =>
    (fX10_count h v1 x201).bind fun q202 =>
    (scI xs L (v4 + 1)).bind fun x203 =>
    (fX11_count h v2 x203).bind fun q204 =>
    if q202 = q204.1 then (
      k1617 q204.2 v1 v2 v3 v4
    ) else (
      none
    )
def fL_law_J1562 (xs : Nat → Int32) (L : Nat) (k1617 : AH → Nat → Nat → Nat → Int32 → Option (Unit)) (h : AH) (v1 : Nat) (v2 : Nat) (v3 : Nat) (v4 : Int32) : Option (Unit) :=
    (scI xs L (v4 + 1)).bind fun x205 =>
    (fL_row h v1 x205 v3).bind fun q206 =>
    (scI xs L (v4 + 1)).bind fun x207 =>
    (fX11_row q206.2 v2 x207).bind fun q208 =>
    (fX11_thrown q208.2 v2).bind fun q209 =>
    if q209 = q206.1 then (
      if q206.1 = 0 then (
        (aJ q208.2 v3 0).bind fun x210 =>
        if (lg_cmp x210 q208.1) = 0 then (
          k1617 q208.2 v1 v2 v3 v4
        ) else (
          none
        )
      ) else (
        k1617 q208.2 v1 v2 v3 v4
      )
    ) else (
      none
    )
def fL_law_L23 (xs : Nat → Int32) (L : Nat) : Nat → AH → Nat → Nat → Nat → Int32 → Option (Unit)
  | 0, _, _, _, _, _ => none
  | n + 1, h, v1, v2, v3, v4 =>
    if ((Int32.ofNat L) - 5) < v4 then (
      some ()
    ) else (
      (scI xs L v4).bind fun x211 =>
      if (x211 &&& 63) = 0 then (
        fL_law_J236 xs L
          (fun h217 x213 x214 x215 x216 =>
            letF (x216 + 5 : Int32) fun x218 =>
            fL_law_L23 xs L n h217 x213 x214 x215 x218)
          h v1 v2 v3 v4
      ) else (
        if (x211 &&& 63) = 1 then (
          fL_law_J261 xs L
            (fun h224 x220 x221 x222 x223 =>
              letF (x223 + 5 : Int32) fun x225 =>
              fL_law_L23 xs L n h224 x220 x221 x222 x225)
            h v1 v2 v3 v4
        ) else (
          if (x211 &&& 63) = 2 then (
            fL_law_J286 xs L
              (fun h231 x227 x228 x229 x230 =>
                letF (x230 + 5 : Int32) fun x232 =>
                fL_law_L23 xs L n h231 x227 x228 x229 x232)
              h v1 v2 v3 v4
          ) else (
            if (x211 &&& 63) = 3 then (
              fL_law_J299 xs L
                (fun h238 x234 x235 x236 x237 =>
                  letF (x237 + 5 : Int32) fun x239 =>
                  fL_law_L23 xs L n h238 x234 x235 x236 x239)
                h v1 v2 v3 v4
            ) else (
              if (x211 &&& 63) = 4 then (
                fL_law_J312 xs L
                  (fun h245 x241 x242 x243 x244 =>
                    letF (x244 + 5 : Int32) fun x246 =>
                    fL_law_L23 xs L n h245 x241 x242 x243 x246)
                  h v1 v2 v3 v4
              ) else (
                if (x211 &&& 63) = 5 then (
                  fL_law_J380 xs L
                    (fun h252 x248 x249 x250 x251 =>
                      letF (x251 + 5 : Int32) fun x253 =>
                      fL_law_L23 xs L n h252 x248 x249 x250 x253)
                    h v1 v2 v3 v4
                ) else (
                  if (x211 &&& 63) = 6 then (
                    fL_law_J448 xs L
                      (fun h259 x255 x256 x257 x258 =>
                        letF (x258 + 5 : Int32) fun x260 =>
                        fL_law_L23 xs L n h259 x255 x256 x257 x260)
                      h v1 v2 v3 v4
                  ) else (
                    if (x211 &&& 63) = 7 then (
                      fL_law_J516 xs L
                        (fun h266 x262 x263 x264 x265 =>
                          letF (x265 + 5 : Int32) fun x267 =>
                          fL_law_L23 xs L n h266 x262 x263 x264 x267)
                        h v1 v2 v3 v4
                    ) else (
                      if (x211 &&& 63) = 8 then (
                        fL_law_J577 xs L
                          (fun h273 x269 x270 x271 x272 =>
                            letF (x272 + 5 : Int32) fun x274 =>
                            fL_law_L23 xs L n h273 x269 x270 x271 x274)
                          h v1 v2 v3 v4
                      ) else (
                        if (x211 &&& 63) = 9 then (
                          fL_law_J614 xs L
                            (fun h280 x276 x277 x278 x279 =>
                              letF (x279 + 5 : Int32) fun x281 =>
                              fL_law_L23 xs L n h280 x276 x277 x278 x281)
                            h v1 v2 v3 v4
                        ) else (
                          if (x211 &&& 63) = 10 then (
                            fL_law_J663 xs L
                              (fun h287 x283 x284 x285 x286 =>
                                letF (x286 + 5 : Int32) fun x288 =>
                                fL_law_L23 xs L n h287 x283 x284 x285 x288)
                              h v1 v2 v3 v4
                          ) else (
                            if (x211 &&& 63) = 11 then (
                              fL_law_J688 xs L
                                (fun h294 x290 x291 x292 x293 =>
                                  letF (x293 + 5 : Int32) fun x295 =>
                                  fL_law_L23 xs L n h294 x290 x291 x292 x295)
                                h v1 v2 v3 v4
                            ) else (
                              if (x211 &&& 63) = 12 then (
                                fL_law_J713 xs L
                                  (fun h301 x297 x298 x299 x300 =>
                                    letF (x300 + 5 : Int32) fun x302 =>
                                    fL_law_L23 xs L n h301 x297 x298 x299 x302)
                                  h v1 v2 v3 v4
                              ) else (
                                if (x211 &&& 63) = 13 then (
                                  fL_law_J762 xs L
                                    (fun h308 x304 x305 x306 x307 =>
                                      letF (x307 + 5 : Int32) fun x309 =>
                                      fL_law_L23 xs L n h308 x304 x305 x306 x309)
                                    h v1 v2 v3 v4
                                ) else (
                                  if (x211 &&& 63) = 14 then (
                                    fL_law_J787 xs L
                                      (fun h315 x311 x312 x313 x314 =>
                                        letF (x314 + 5 : Int32) fun x316 =>
                                        fL_law_L23 xs L n h315 x311 x312 x313 x316)
                                      h v1 v2 v3 v4
                                  ) else (
                                    if (x211 &&& 63) = 15 then (
                                      fL_law_J800 xs L
                                        (fun h322 x318 x319 x320 x321 =>
                                          letF (x321 + 5 : Int32) fun x323 =>
                                          fL_law_L23 xs L n h322 x318 x319 x320 x323)
                                        h v1 v2 v3 v4
                                    ) else (
                                      if (x211 &&& 63) = 16 then (
                                        fL_law_J813 xs L
                                          (fun h329 x325 x326 x327 x328 =>
                                            letF (x328 + 5 : Int32) fun x330 =>
                                            fL_law_L23 xs L n h329 x325 x326 x327 x330)
                                          h v1 v2 v3 v4
                                      ) else (
                                        if (x211 &&& 63) = 17 then (
                                          fL_law_J838 xs L
                                            (fun h336 x332 x333 x334 x335 =>
                                              letF (x335 + 5 : Int32) fun x337 =>
                                              fL_law_L23 xs L n h336 x332 x333 x334 x337)
                                            h v1 v2 v3 v4
                                        ) else (
                                          if (x211 &&& 63) = 18 then (
                                            fL_law_J875 xs L
                                              (fun h343 x339 x340 x341 x342 =>
                                                letF (x342 + 5 : Int32) fun x344 =>
                                                fL_law_L23 xs L n h343 x339 x340 x341 x344)
                                              h v1 v2 v3 v4
                                          ) else (
                                            if (x211 &&& 63) = 19 then (
                                              fL_law_J900 xs L
                                                (fun h350 x346 x347 x348 x349 =>
                                                  letF (x349 + 5 : Int32) fun x351 =>
                                                  fL_law_L23 xs L n h350 x346 x347 x348 x351)
                                                h v1 v2 v3 v4
                                            ) else (
                                              if (x211 &&& 63) = 20 then (
                                                fL_law_J937 xs L
                                                  (fun h357 x353 x354 x355 x356 =>
                                                    letF (x356 + 5 : Int32) fun x358 =>
                                                    fL_law_L23 xs L n h357 x353 x354 x355 x358)
                                                  h v1 v2 v3 v4
                                              ) else (
                                                if (x211 &&& 63) = 21 then (
                                                  fL_law_J974 xs L
                                                    (fun h364 x360 x361 x362 x363 =>
                                                      letF (x363 + 5 : Int32) fun x365 =>
                                                      fL_law_L23 xs L n h364 x360 x361 x362 x365)
                                                    h v1 v2 v3 v4
                                                ) else (
                                                  if (x211 &&& 63) = 22 then (
                                                    fL_law_J1011 xs L
                                                      (fun h371 x367 x368 x369 x370 =>
                                                        letF (x370 + 5 : Int32) fun x372 =>
                                                        fL_law_L23 xs L n h371 x367 x368 x369 x372)
                                                      h v1 v2 v3 v4
                                                  ) else (
                                                    if (x211 &&& 63) = 23 then (
                                                      fL_law_J1024 xs L
                                                        (fun h378 x374 x375 x376 x377 =>
                                                          letF (x377 + 5 : Int32) fun x379 =>
                                                          fL_law_L23 xs L n h378 x374 x375 x376 x379)
                                                        h v1 v2 v3 v4
                                                    ) else (
                                                      if (x211 &&& 63) = 24 then (
                                                        fL_law_J1037 xs L
                                                          (fun h385 x381 x382 x383 x384 =>
                                                            letF (x384 + 5 : Int32) fun x386 =>
                                                            fL_law_L23 xs L n h385 x381 x382 x383 x386)
                                                          h v1 v2 v3 v4
                                                      ) else (
                                                        if (x211 &&& 63) = 25 then (
                                                          fL_law_J1050 xs L
                                                            (fun h392 x388 x389 x390 x391 =>
                                                              letF (x391 + 5 : Int32) fun x393 =>
                                                              fL_law_L23 xs L n h392 x388 x389 x390 x393)
                                                            h v1 v2 v3 v4
                                                        ) else (
                                                          if (x211 &&& 63) = 26 then (
                                                            fL_law_J1075 xs L
                                                              (fun h399 x395 x396 x397 x398 =>
                                                                letF (x398 + 5 : Int32) fun x400 =>
                                                                fL_law_L23 xs L n h399 x395 x396 x397 x400)
                                                              h v1 v2 v3 v4
                                                          ) else (
                                                            if (x211 &&& 63) = 27 then (
                                                              fL_law_J1100 xs L
                                                                (fun h406 x402 x403 x404 x405 =>
                                                                  letF (x405 + 5 : Int32) fun x407 =>
                                                                  fL_law_L23 xs L n h406 x402 x403 x404 x407)
                                                                h v1 v2 v3 v4
                                                            ) else (
                                                              if (x211 &&& 63) = 28 then (
                                                                fL_law_J1137 xs L
                                                                  (fun h413 x409 x410 x411 x412 =>
                                                                    letF (x412 + 5 : Int32) fun x414 =>
                                                                    fL_law_L23 xs L n h413 x409 x410 x411 x414)
                                                                  h v1 v2 v3 v4
                                                              ) else (
                                                                if (x211 &&& 63) = 29 then (
                                                                  fL_law_J1174 xs L
                                                                    (fun h420 x416 x417 x418 x419 =>
                                                                      letF (x419 + 5 : Int32) fun x421 =>
                                                                      fL_law_L23 xs L n h420 x416 x417 x418 x421)
                                                                    h v1 v2 v3 v4
                                                                ) else (
                                                                  if (x211 &&& 63) = 30 then (
                                                                    fL_law_J1223 xs L
                                                                      (fun h427 x423 x424 x425 x426 =>
                                                                        letF (x426 + 5 : Int32) fun x428 =>
                                                                        fL_law_L23 xs L n h427 x423 x424 x425 x428)
                                                                      h v1 v2 v3 v4
                                                                  ) else (
                                                                    if (x211 &&& 63) = 31 then (
                                                                      fL_law_J1260 xs L
                                                                        (fun h434 x430 x431 x432 x433 =>
                                                                          letF (x433 + 5 : Int32) fun x435 =>
                                                                          fL_law_L23 xs L n h434 x430 x431 x432 x435)
                                                                        h v1 v2 v3 v4
                                                                    ) else (
                                                                      if (x211 &&& 63) = 32 then (
                                                                        fL_law_J1273 xs L
                                                                          (fun h441 x437 x438 x439 x440 =>
                                                                            letF (x440 + 5 : Int32) fun x442 =>
                                                                            fL_law_L23 xs L n h441 x437 x438 x439 x442)
                                                                          h v1 v2 v3 v4
                                                                      ) else (
                                                                        if (x211 &&& 63) = 33 then (
                                                                          fL_law_J1286 xs L
                                                                            (fun h448 x444 x445 x446 x447 =>
                                                                              letF (x447 + 5 : Int32) fun x449 =>
                                                                              fL_law_L23 xs L n h448 x444 x445 x446 x449)
                                                                            h v1 v2 v3 v4
                                                                        ) else (
                                                                          if (x211 &&& 63) = 34 then (
                                                                            fL_law_J1299 xs L
                                                                              (fun h455 x451 x452 x453 x454 =>
                                                                                letF (x454 + 5 : Int32) fun x456 =>
                                                                                fL_law_L23 xs L n h455 x451 x452 x453 x456)
                                                                              h v1 v2 v3 v4
                                                                          ) else (
                                                                            if (x211 &&& 63) = 35 then (
                                                                              fL_law_J1348 xs L
                                                                                (fun h462 x458 x459 x460 x461 =>
                                                                                  letF (x461 + 5 : Int32) fun x463 =>
                                                                                  fL_law_L23 xs L n h462 x458 x459 x460 x463)
                                                                                h v1 v2 v3 v4
                                                                            ) else (
                                                                              if (x211 &&& 63) = 36 then (
                                                                                fL_law_J1361 xs L
                                                                                  (fun h469 x465 x466 x467 x468 =>
                                                                                    letF (x468 + 5 : Int32) fun x470 =>
                                                                                    fL_law_L23 xs L n h469 x465 x466 x467 x470)
                                                                                  h v1 v2 v3 v4
                                                                              ) else (
                                                                                if (x211 &&& 63) = 37 then (
                                                                                  fL_law_J1374 xs L
                                                                                    (fun h476 x472 x473 x474 x475 =>
                                                                                      letF (x475 + 5 : Int32) fun x477 =>
                                                                                      fL_law_L23 xs L n h476 x472 x473 x474 x477)
                                                                                    h v1 v2 v3 v4
                                                                                ) else (
                                                                                  if (x211 &&& 63) = 38 then (
                                                                                    fL_law_J1387 xs L
                                                                                      (fun h483 x479 x480 x481 x482 =>
                                                                                        letF (x482 + 5 : Int32) fun x484 =>
                                                                                        fL_law_L23 xs L n h483 x479 x480 x481 x484)
                                                                                      h v1 v2 v3 v4
                                                                                  ) else (
                                                                                    if (x211 &&& 63) = 39 then (
                                                                                      fL_law_J1412 xs L
                                                                                        (fun h490 x486 x487 x488 x489 =>
                                                                                          letF (x489 + 5 : Int32) fun x491 =>
                                                                                          fL_law_L23 xs L n h490 x486 x487 x488 x491)
                                                                                        h v1 v2 v3 v4
                                                                                    ) else (
                                                                                      if (x211 &&& 63) = 40 then (
                                                                                        fL_law_J1437 xs L
                                                                                          (fun h497 x493 x494 x495 x496 =>
                                                                                            letF (x496 + 5 : Int32) fun x498 =>
                                                                                            fL_law_L23 xs L n h497 x493 x494 x495 x498)
                                                                                          h v1 v2 v3 v4
                                                                                      ) else (
                                                                                        if (x211 &&& 63) = 41 then (
                                                                                          fL_law_J1450 xs L
                                                                                            (fun h504 x500 x501 x502 x503 =>
                                                                                              letF (x503 + 5 : Int32) fun x505 =>
                                                                                              fL_law_L23 xs L n h504 x500 x501 x502 x505)
                                                                                            h v1 v2 v3 v4
                                                                                        ) else (
                                                                                          if (x211 &&& 63) = 42 then (
                                                                                            fL_law_J1487 xs L
                                                                                              (fun h511 x507 x508 x509 x510 =>
                                                                                                letF (x510 + 5 : Int32) fun x512 =>
                                                                                                fL_law_L23 xs L n h511 x507 x508 x509 x512)
                                                                                              h v1 v2 v3 v4
                                                                                          ) else (
                                                                                            if (x211 &&& 63) = 43 then (
                                                                                              fL_law_J1512 xs L
                                                                                                (fun h518 x514 x515 x516 x517 =>
                                                                                                  letF (x517 + 5 : Int32) fun x519 =>
                                                                                                  fL_law_L23 xs L n h518 x514 x515 x516 x519)
                                                                                                h v1 v2 v3 v4
                                                                                            ) else (
                                                                                              if (x211 &&& 63) = 44 then (
                                                                                                fL_law_J1537 xs L
                                                                                                  (fun h525 x521 x522 x523 x524 =>
                                                                                                    letF (x524 + 5 : Int32) fun x526 =>
                                                                                                    fL_law_L23 xs L n h525 x521 x522 x523 x526)
                                                                                                  h v1 v2 v3 v4
                                                                                              ) else (
                                                                                                if (x211 &&& 63) = 45 then (
                                                                                                  fL_law_J1562 xs L
                                                                                                    (fun h532 x528 x529 x530 x531 =>
                                                                                                      letF (x531 + 5 : Int32) fun x533 =>
                                                                                                      fL_law_L23 xs L n h532 x528 x529 x530 x533)
                                                                                                    h v1 v2 v3 v4
                                                                                                ) else (
                                                                                                  letF (v4 + 5 : Int32) fun x534 =>
                                                                                                  fL_law_L23 xs L n h v1 v2 v3 x534))))))))))))))))))))))))))))))))))))))))))))))
    )
def fL_law (xs : Nat → Int32) (L : Nat) (h : AH) : Option Unit :=
  letF (hnew h (.inr (10, [.null, .int 0, .null, .null, .null, .null, .null, .null, .null, .null, .null, .null]))) fun h535 =>
  (fX10_init h535 h.2).bind fun q536 =>
  letF (hnew q536 (.inr (11, [.null, .null, .int 0, .null, .int 0, .int 0, .null, .int 0, .int 0, .int 0, .int 0, .null, .null, .null, .int 0, .int 0, .null, .null, .int 0, .null, .null, .int 0, .int 0, .null, .null, .null, .int 0, .null, .null, .null, .null, .int 0, .null, .int 0, .null, .null]))) fun h537 =>
  (fX11_init h537 q536.2).bind fun q538 =>
  letF (hnew q538 (.inl (1, newD 1 1))) fun h539 =>
  fL_law_L23 xs L 600 h539 h.2 q536.2 q538.2 0
set_option maxHeartbeats 4000000 in
theorem gL_law_J236 {Y : YT} {X : XT} {j : Nat} (hj : j ≤ 600) (C : CT Y X RL cL_law 8) (O : RO X 1000 601024 7293034) {r : Unit} {b L : Nat} {xs : Nat → Int32} (E : LX Y X b L xs) {k1617 : AH → Nat → Nat → Nat → Int32 → Option (Unit)} (hk1617 : ∀ (h : AH) (v1 : Nat) (v2 : Nat) (v3 : Nat) (v4 : Int32), GO Y X 8 r h (167 + 2 * j + 1) (10310 + 8 * j + 6) 1617 [(0, .retAddr 11), (1, .ref v1), (2, .ref v2), (3, .ref v3), (4, .int v4)] [] (k1617 h v1 v2 v3 v4)) : ∀ (h : AH) (v1 : Nat) (v2 : Nat) (v3 : Nat) (v4 : Int32), GO Y X 8 r h (167 + 2 * j + 0) (10310 + 8 * j + 0) 236 [(0, .retAddr 11), (1, .ref v1), (2, .ref v2), (3, .ref v3), (4, .int v4)] [] (fL_law_J236 xs L k1617 h v1 v2 v3 v4) := by
  intro h v1 v2 v3 v4
  unfold fL_law_J236
  refine go_aload_n (pc := 236) C 1 dL_law_236 rfl ?_
  refine go_sload_n (pc := 237) C 0 dL_law_237 rfl ?_
  refine go_iload (pc := 238) C 4 dL_law_238 rfl ?_
  refine go_iconst (pc := 240) C dL_law_240 ki_1 ?_
  refine go_iadd (pc := 241) C dL_law_241 ?_
  refine go_sld (pc := 242) C E dL_law_242 (fun x1 => ?_)
  refine go_bind (fun q2 hq2 => ?_)
  refine go_callV (rest := []) (st' := [.int q2.1]) (c' := (167 + 2 * j + 0)) (s' := (10310 + 8 * j + 0)) (pc := 243) C O miL_29 mvX10_sign [.int x1] rfl (mX10_sign hq2).1 (mX10_sign hq2).2 dL_law_243 ⟨by decide, by decide, by omega, by omega⟩ rfl (Nat.le_of_ble_eq_true rfl) rfl ⟨by omega, by omega⟩ ?_
  refine go_aload_n (pc := 246) C 2 dL_law_246 rfl ?_
  refine go_sload_n (pc := 247) C 0 dL_law_247 rfl ?_
  refine go_iload (pc := 248) C 4 dL_law_248 rfl ?_
  refine go_iconst (pc := 250) C dL_law_250 ki_1 ?_
  refine go_iadd (pc := 251) C dL_law_251 ?_
  refine go_sld (pc := 252) C E dL_law_252 (fun x3 => ?_)
  refine go_bind (fun q4 hq4 => ?_)
  refine go_callV (rest := [.int q2.1]) (st' := [.int q4.1, .int q2.1]) (c' := (167 + 2 * j + 0)) (s' := (10310 + 8 * j + 0)) (pc := 253) C O miL_33 mvX11_sign [.int x3] rfl (mX11_sign hq4).1 (mX11_sign hq4).2 dL_law_253 ⟨by decide, by decide, by omega, by omega⟩ rfl (Nat.le_of_ble_eq_true rfl) rfl ⟨by omega, by omega⟩ ?_
  refine go_icmp_eq (pc := 256) C 1617 dL_law_256 (by decide) (fun _ => ?_) (fun _ => ?_)
  · refine go_widen (c2 := (167 + 2 * j + 1)) (s2 := (10310 + 8 * j + 6)) (by omega) (by omega) ?_
    refine go_sub (ls' := [(0, .retAddr 11), (1, .ref v1), (2, .ref v2), (3, .ref v3), (4, .int v4)]) [0, 1, 2, 3, 4] rfl ?_
    exact hk1617 q4.2 v1 v2 v3 v4
  · refine go_iconst (pc := 259) C dL_law_259 ki_0 ?_
    exact go_none _ _ _
set_option maxHeartbeats 4000000 in
theorem gL_law_J261 {Y : YT} {X : XT} {j : Nat} (hj : j ≤ 600) (C : CT Y X RL cL_law 8) (O : RO X 1000 601024 7293034) {r : Unit} {b L : Nat} {xs : Nat → Int32} (E : LX Y X b L xs) {k1617 : AH → Nat → Nat → Nat → Int32 → Option (Unit)} (hk1617 : ∀ (h : AH) (v1 : Nat) (v2 : Nat) (v3 : Nat) (v4 : Int32), GO Y X 8 r h (167 + 2 * j + 1) (10310 + 8 * j + 6) 1617 [(0, .retAddr 11), (1, .ref v1), (2, .ref v2), (3, .ref v3), (4, .int v4)] [] (k1617 h v1 v2 v3 v4)) : ∀ (h : AH) (v1 : Nat) (v2 : Nat) (v3 : Nat) (v4 : Int32), GO Y X 8 r h (167 + 2 * j + 0) (10310 + 8 * j + 0) 261 [(0, .retAddr 11), (1, .ref v1), (2, .ref v2), (3, .ref v3), (4, .int v4)] [] (fL_law_J261 xs L k1617 h v1 v2 v3 v4) := by
  intro h v1 v2 v3 v4
  unfold fL_law_J261
  refine go_aload_n (pc := 261) C 1 dL_law_261 rfl ?_
  refine go_sload_n (pc := 262) C 0 dL_law_262 rfl ?_
  refine go_iload (pc := 263) C 4 dL_law_263 rfl ?_
  refine go_iconst (pc := 265) C dL_law_265 ki_1 ?_
  refine go_iadd (pc := 266) C dL_law_266 ?_
  refine go_sld (pc := 267) C E dL_law_267 (fun x5 => ?_)
  refine go_bind (fun q6 hq6 => ?_)
  refine go_callV (rest := []) (st' := [.int (b2i q6.1)]) (c' := (167 + 2 * j + 0)) (s' := (10310 + 8 * j + 0)) (pc := 268) C O miL_34 mvX10_end [.int x5] rfl (mX10_end hq6).1 (mX10_end hq6).2 dL_law_268 ⟨by decide, by decide, by omega, by omega⟩ rfl (Nat.le_of_ble_eq_true rfl) rfl ⟨by omega, by omega⟩ ?_
  refine go_aload_n (pc := 271) C 2 dL_law_271 rfl ?_
  refine go_sload_n (pc := 272) C 0 dL_law_272 rfl ?_
  refine go_iload (pc := 273) C 4 dL_law_273 rfl ?_
  refine go_iconst (pc := 275) C dL_law_275 ki_1 ?_
  refine go_iadd (pc := 276) C dL_law_276 ?_
  refine go_sld (pc := 277) C E dL_law_277 (fun x7 => ?_)
  refine go_bind (fun q8 hq8 => ?_)
  refine go_callV (rest := [.int (b2i q6.1)]) (st' := [.int (b2i q8.1), .int (b2i q6.1)]) (c' := (167 + 2 * j + 0)) (s' := (10310 + 8 * j + 0)) (pc := 278) C O miL_38 mvX11_end [.int x7] rfl (mX11_end hq8).1 (mX11_end hq8).2 dL_law_278 ⟨by decide, by decide, by omega, by omega⟩ rfl (Nat.le_of_ble_eq_true rfl) rfl ⟨by omega, by omega⟩ ?_
  refine go_icmp_eq (pc := 281) C 1617 dL_law_281 (by decide) (fun _ => ?_) (fun _ => ?_)
  · refine go_widen (c2 := (167 + 2 * j + 1)) (s2 := (10310 + 8 * j + 6)) (by omega) (by omega) ?_
    refine go_sub (ls' := [(0, .retAddr 11), (1, .ref v1), (2, .ref v2), (3, .ref v3), (4, .int v4)]) [0, 1, 2, 3, 4] rfl ?_
    exact hk1617 q8.2 v1 v2 v3 v4
  · refine go_iconst (pc := 284) C dL_law_284 ki_0 ?_
    exact go_none _ _ _
set_option maxHeartbeats 4000000 in
theorem gL_law_J286 {Y : YT} {X : XT} {j : Nat} (hj : j ≤ 600) (C : CT Y X RL cL_law 8) (O : RO X 1000 601024 7293034) {r : Unit} {b L : Nat} {xs : Nat → Int32} (E : LX Y X b L xs) {k1617 : AH → Nat → Nat → Nat → Int32 → Option (Unit)} (hk1617 : ∀ (h : AH) (v1 : Nat) (v2 : Nat) (v3 : Nat) (v4 : Int32), GO Y X 8 r h (167 + 2 * j + 1) (10310 + 8 * j + 6) 1617 [(0, .retAddr 11), (1, .ref v1), (2, .ref v2), (3, .ref v3), (4, .int v4)] [] (k1617 h v1 v2 v3 v4)) : ∀ (h : AH) (v1 : Nat) (v2 : Nat) (v3 : Nat) (v4 : Int32), GO Y X 8 r h (167 + 2 * j + 0) (10310 + 8 * j + 0) 286 [(0, .retAddr 11), (1, .ref v1), (2, .ref v2), (3, .ref v3), (4, .int v4)] [] (fL_law_J286 xs L k1617 h v1 v2 v3 v4) := by
  intro h v1 v2 v3 v4
  unfold fL_law_J286
  refine go_aload_n (pc := 286) C 1 dL_law_286 rfl ?_
  refine go_bind (fun q9 hq9 => ?_)
  refine go_callV (rest := []) (st' := [.int q9.1]) (c' := (167 + 2 * j + 0)) (s' := (10310 + 8 * j + 0)) (pc := 287) C O miL_39 mvX10_spaces [] rfl (mX10_spaces hq9).1 (mX10_spaces hq9).2 dL_law_287 ⟨by decide, by decide, by omega, by omega⟩ rfl (Nat.le_of_ble_eq_true rfl) rfl ⟨by omega, by omega⟩ ?_
  refine go_aload_n (pc := 290) C 2 dL_law_290 rfl ?_
  refine go_bind (fun q10 hq10 => ?_)
  refine go_callV (rest := [.int q9.1]) (st' := [.int q10.1, .int q9.1]) (c' := (167 + 2 * j + 0)) (s' := (10310 + 8 * j + 0)) (pc := 291) C O miL_43 mvX11_spaces [] rfl (mX11_spaces hq10).1 (mX11_spaces hq10).2 dL_law_291 ⟨by decide, by decide, by omega, by omega⟩ rfl (Nat.le_of_ble_eq_true rfl) rfl ⟨by omega, by omega⟩ ?_
  refine go_icmp_eq (pc := 294) C 1617 dL_law_294 (by decide) (fun _ => ?_) (fun _ => ?_)
  · refine go_widen (c2 := (167 + 2 * j + 1)) (s2 := (10310 + 8 * j + 6)) (by omega) (by omega) ?_
    refine go_sub (ls' := [(0, .retAddr 11), (1, .ref v1), (2, .ref v2), (3, .ref v3), (4, .int v4)]) [0, 1, 2, 3, 4] rfl ?_
    exact hk1617 q10.2 v1 v2 v3 v4
  · refine go_iconst (pc := 297) C dL_law_297 ki_0 ?_
    exact go_none _ _ _
set_option maxHeartbeats 4000000 in
theorem gL_law_J299 {Y : YT} {X : XT} {j : Nat} (hj : j ≤ 600) (C : CT Y X RL cL_law 8) (O : RO X 1000 601024 7293034) {r : Unit} {b L : Nat} {xs : Nat → Int32} (E : LX Y X b L xs) {k1617 : AH → Nat → Nat → Nat → Int32 → Option (Unit)} (hk1617 : ∀ (h : AH) (v1 : Nat) (v2 : Nat) (v3 : Nat) (v4 : Int32), GO Y X 8 r h (167 + 2 * j + 1) (10310 + 8 * j + 6) 1617 [(0, .retAddr 11), (1, .ref v1), (2, .ref v2), (3, .ref v3), (4, .int v4)] [] (k1617 h v1 v2 v3 v4)) : ∀ (h : AH) (v1 : Nat) (v2 : Nat) (v3 : Nat) (v4 : Int32), GO Y X 8 r h (167 + 2 * j + 0) (10310 + 8 * j + 0) 299 [(0, .retAddr 11), (1, .ref v1), (2, .ref v2), (3, .ref v3), (4, .int v4)] [] (fL_law_J299 xs L k1617 h v1 v2 v3 v4) := by
  intro h v1 v2 v3 v4
  unfold fL_law_J299
  refine go_aload_n (pc := 299) C 1 dL_law_299 rfl ?_
  refine go_bind (fun q11 hq11 => ?_)
  refine go_callV (rest := []) (st' := [.int q11.1]) (c' := (167 + 2 * j + 0)) (s' := (10310 + 8 * j + 0)) (pc := 300) C O miL_44 mvX10_rule [] rfl (mX10_rule hq11).1 (mX10_rule hq11).2 dL_law_300 ⟨by decide, by decide, by omega, by omega⟩ rfl (Nat.le_of_ble_eq_true rfl) rfl ⟨by omega, by omega⟩ ?_
  refine go_aload_n (pc := 303) C 2 dL_law_303 rfl ?_
  refine go_bind (fun q12 hq12 => ?_)
  refine go_callV (rest := [.int q11.1]) (st' := [.int q12.1, .int q11.1]) (c' := (167 + 2 * j + 0)) (s' := (10310 + 8 * j + 0)) (pc := 304) C O miL_47 mvX11_rule [] rfl (mX11_rule hq12).1 (mX11_rule hq12).2 dL_law_304 ⟨by decide, by decide, by omega, by omega⟩ rfl (Nat.le_of_ble_eq_true rfl) rfl ⟨by omega, by omega⟩ ?_
  refine go_icmp_eq (pc := 307) C 1617 dL_law_307 (by decide) (fun _ => ?_) (fun _ => ?_)
  · refine go_widen (c2 := (167 + 2 * j + 1)) (s2 := (10310 + 8 * j + 6)) (by omega) (by omega) ?_
    refine go_sub (ls' := [(0, .retAddr 11), (1, .ref v1), (2, .ref v2), (3, .ref v3), (4, .int v4)]) [0, 1, 2, 3, 4] rfl ?_
    exact hk1617 q12.2 v1 v2 v3 v4
  · refine go_iconst (pc := 310) C dL_law_310 ki_0 ?_
    exact go_none _ _ _
set_option maxHeartbeats 4000000 in
theorem gL_law_J312 {Y : YT} {X : XT} {j : Nat} (hj : j ≤ 600) (C : CT Y X RL cL_law 8) (O : RO X 1000 601024 7293034) {r : Unit} {b L : Nat} {xs : Nat → Int32} (E : LX Y X b L xs) {k1617 : AH → Nat → Nat → Nat → Int32 → Option (Unit)} (hk1617 : ∀ (h : AH) (v1 : Nat) (v2 : Nat) (v3 : Nat) (v4 : Int32), GO Y X 8 r h (167 + 2 * j + 1) (10310 + 8 * j + 6) 1617 [(0, .retAddr 11), (1, .ref v1), (2, .ref v2), (3, .ref v3), (4, .int v4)] [] (k1617 h v1 v2 v3 v4)) : ∀ (h : AH) (v1 : Nat) (v2 : Nat) (v3 : Nat) (v4 : Int32), GO Y X 8 r h (167 + 2 * j + 0) (10310 + 8 * j + 0) 312 [(0, .retAddr 11), (1, .ref v1), (2, .ref v2), (3, .ref v3), (4, .int v4)] [] (fL_law_J312 xs L k1617 h v1 v2 v3 v4) := by
  intro h v1 v2 v3 v4
  unfold fL_law_J312
  refine go_aload_n (pc := 312) C 1 dL_law_312 rfl ?_
  refine go_sload_n (pc := 313) C 0 dL_law_313 rfl ?_
  refine go_iload (pc := 314) C 4 dL_law_314 rfl ?_
  refine go_iconst (pc := 316) C dL_law_316 ki_1 ?_
  refine go_iadd (pc := 317) C dL_law_317 ?_
  refine go_sld (pc := 318) C E dL_law_318 (fun x13 => ?_)
  refine go_sload_n (pc := 319) C 0 dL_law_319 rfl ?_
  refine go_iload (pc := 320) C 4 dL_law_320 rfl ?_
  refine go_iconst (pc := 322) C dL_law_322 ki_2 ?_
  refine go_iadd (pc := 323) C dL_law_323 ?_
  refine go_sld (pc := 324) C E dL_law_324 (fun x14 => ?_)
  refine go_aload_n (pc := 325) C 3 dL_law_325 rfl ?_
  refine go_bind (fun q15 hq15 => ?_)
  refine go_callW (rest := []) (st' := [.int q15.1]) (c' := (167 + 2 * j + 1)) (s' := (10310 + 8 * j + 6)) (pc := 326) C E.2.2.2.2.2.2 O miL_48 [.ref v1, .int x13, .int x14, .ref v3] rfl (mL_space hq15) dL_law_326 ⟨by decide, by decide, by omega, by omega⟩ rfl (Nat.le_of_ble_eq_true rfl) rfl ⟨by omega, by omega⟩ ?_
  refine go_istore (ls' := [(5, .int q15.1), (0, .retAddr 11), (1, .ref v1), (2, .ref v2), (3, .ref v3), (4, .int v4)]) (pc := 329) C dL_law_329 (by decide) rfl ?_
  refine go_aload_n (pc := 331) C 3 dL_law_331 rfl ?_
  refine go_sload_n (pc := 332) C 1 dL_law_332 rfl ?_
  refine go_iload (pc := 333) C 5 dL_law_333 rfl ?_
  refine go_iconst (pc := 335) C dL_law_335 ki_1 ?_
  refine go_iadd (pc := 336) C dL_law_336 ?_
  refine go_sld (pc := 337) C E dL_law_337 (fun x16 => ?_)
  refine go_sload_n (pc := 338) C 1 dL_law_338 rfl ?_
  refine go_iload (pc := 339) C 5 dL_law_339 rfl ?_
  refine go_iconst (pc := 341) C dL_law_341 ki_2 ?_
  refine go_iadd (pc := 342) C dL_law_342 ?_
  refine go_sld (pc := 343) C E dL_law_343 (fun x17 => ?_)
  refine go_bind (fun q18 hq18 => ?_)
  refine go_callV (rest := []) (st' := [.int q18.1]) (c' := (167 + 2 * j + 1)) (s' := (10310 + 8 * j + 6)) (pc := 344) C O miL_53 mvX11_space [.int x16, .int x17] rfl (mX11_space hq18).1 (mX11_space hq18).2 dL_law_344 ⟨by decide, by decide, by omega, by omega⟩ rfl (Nat.le_of_ble_eq_true rfl) rfl ⟨by omega, by omega⟩ ?_
  refine go_istore (ls' := [(6, .int q18.1), (5, .int q15.1), (0, .retAddr 11), (1, .ref v1), (2, .ref v2), (3, .ref v3), (4, .int v4)]) (pc := 347) C dL_law_347 (by decide) rfl ?_
  refine go_aload_n (pc := 349) C 4 dL_law_349 rfl ?_
  refine go_bind (fun q19 hq19 => ?_)
  refine go_callV (rest := []) (st' := [.int q19]) (c' := (167 + 2 * j + 1)) (s' := (10310 + 8 * j + 6)) (pc := 350) C O miL_54 mvX11_thrown [] rfl (mX11_thrown hq19).1 (mX11_thrown hq19).2 dL_law_350 ⟨by decide, by decide, by omega, by omega⟩ rfl (Nat.le_of_ble_eq_true rfl) rfl ⟨by omega, by omega⟩ ?_
  refine go_iload (pc := 353) C 1 dL_law_353 rfl ?_
  refine go_icmp_eq (pc := 355) C 360 dL_law_355 (by decide) (fun _ => ?_) (fun _ => ?_)
  · refine go_iload (pc := 360) C 1 dL_law_360 rfl ?_
    refine go_if_ne (pc := 362) C 377 dL_law_362 (by decide) (fun _ => ?_) (fun _ => ?_)
    · refine go_aload_n (pc := 365) C 5 dL_law_365 rfl ?_
      refine go_iconst (pc := 366) C dL_law_366 ki_0 ?_
      refine go_lald (pc := 367) C dL_law_367 (fun x20 => ?_)
      refine go_iload (pc := 368) C 0 dL_law_368 rfl ?_
      refine go_i2l (pc := 370) C dL_law_370 ?_
      refine go_lcmp (pc := 371) C dL_law_371 ?_
      refine go_if_eq (pc := 372) C 377 dL_law_372 (by decide) (fun _ => ?_) (fun _ => ?_)
      · refine go_goto (pc := 377) C 1617 dL_law_377 (by decide) ?_
        refine go_sub (ls' := [(0, .retAddr 11), (1, .ref v1), (2, .ref v2), (3, .ref v3), (4, .int v4)]) [2, 3, 4, 5, 6] rfl ?_
        exact hk1617 q18.2 v1 v2 v3 v4
      · refine go_iconst (pc := 375) C dL_law_375 ki_0 ?_
        exact go_none _ _ _
    · refine go_goto (pc := 377) C 1617 dL_law_377 (by decide) ?_
      refine go_sub (ls' := [(0, .retAddr 11), (1, .ref v1), (2, .ref v2), (3, .ref v3), (4, .int v4)]) [2, 3, 4, 5, 6] rfl ?_
      exact hk1617 q18.2 v1 v2 v3 v4
  · refine go_iconst (pc := 358) C dL_law_358 ki_0 ?_
    exact go_none _ _ _
set_option maxHeartbeats 4000000 in
theorem gL_law_J380 {Y : YT} {X : XT} {j : Nat} (hj : j ≤ 600) (C : CT Y X RL cL_law 8) (O : RO X 1000 601024 7293034) {r : Unit} {b L : Nat} {xs : Nat → Int32} (E : LX Y X b L xs) {k1617 : AH → Nat → Nat → Nat → Int32 → Option (Unit)} (hk1617 : ∀ (h : AH) (v1 : Nat) (v2 : Nat) (v3 : Nat) (v4 : Int32), GO Y X 8 r h (167 + 2 * j + 1) (10310 + 8 * j + 6) 1617 [(0, .retAddr 11), (1, .ref v1), (2, .ref v2), (3, .ref v3), (4, .int v4)] [] (k1617 h v1 v2 v3 v4)) : ∀ (h : AH) (v1 : Nat) (v2 : Nat) (v3 : Nat) (v4 : Int32), GO Y X 8 r h (167 + 2 * j + 0) (10310 + 8 * j + 0) 380 [(0, .retAddr 11), (1, .ref v1), (2, .ref v2), (3, .ref v3), (4, .int v4)] [] (fL_law_J380 xs L k1617 h v1 v2 v3 v4) := by
  intro h v1 v2 v3 v4
  unfold fL_law_J380
  refine go_aload_n (pc := 380) C 1 dL_law_380 rfl ?_
  refine go_sload_n (pc := 381) C 0 dL_law_381 rfl ?_
  refine go_iload (pc := 382) C 4 dL_law_382 rfl ?_
  refine go_iconst (pc := 384) C dL_law_384 ki_1 ?_
  refine go_iadd (pc := 385) C dL_law_385 ?_
  refine go_sld (pc := 386) C E dL_law_386 (fun x21 => ?_)
  refine go_sload_n (pc := 387) C 0 dL_law_387 rfl ?_
  refine go_iload (pc := 388) C 4 dL_law_388 rfl ?_
  refine go_iconst (pc := 390) C dL_law_390 ki_2 ?_
  refine go_iadd (pc := 391) C dL_law_391 ?_
  refine go_sld (pc := 392) C E dL_law_392 (fun x22 => ?_)
  refine go_aload_n (pc := 393) C 3 dL_law_393 rfl ?_
  refine go_bind (fun q23 hq23 => ?_)
  refine go_callW (rest := []) (st' := [.int q23.1]) (c' := (167 + 2 * j + 1)) (s' := (10310 + 8 * j + 6)) (pc := 394) C E.2.2.2.2.2.2 O miL_57 [.ref v1, .int x21, .int x22, .ref v3] rfl (mL_object hq23) dL_law_394 ⟨by decide, by decide, by omega, by omega⟩ rfl (Nat.le_of_ble_eq_true rfl) rfl ⟨by omega, by omega⟩ ?_
  refine go_istore (ls' := [(5, .int q23.1), (0, .retAddr 11), (1, .ref v1), (2, .ref v2), (3, .ref v3), (4, .int v4)]) (pc := 397) C dL_law_397 (by decide) rfl ?_
  refine go_aload_n (pc := 399) C 3 dL_law_399 rfl ?_
  refine go_sload_n (pc := 400) C 1 dL_law_400 rfl ?_
  refine go_iload (pc := 401) C 5 dL_law_401 rfl ?_
  refine go_iconst (pc := 403) C dL_law_403 ki_1 ?_
  refine go_iadd (pc := 404) C dL_law_404 ?_
  refine go_sld (pc := 405) C E dL_law_405 (fun x24 => ?_)
  refine go_sload_n (pc := 406) C 1 dL_law_406 rfl ?_
  refine go_iload (pc := 407) C 5 dL_law_407 rfl ?_
  refine go_iconst (pc := 409) C dL_law_409 ki_2 ?_
  refine go_iadd (pc := 410) C dL_law_410 ?_
  refine go_sld (pc := 411) C E dL_law_411 (fun x25 => ?_)
  refine go_bind (fun q26 hq26 => ?_)
  refine go_callV (rest := []) (st' := [.int q26.1]) (c' := (167 + 2 * j + 1)) (s' := (10310 + 8 * j + 6)) (pc := 412) C O miL_59 mvX11_object [.int x24, .int x25] rfl (mX11_object hq26).1 (mX11_object hq26).2 dL_law_412 ⟨by decide, by decide, by omega, by omega⟩ rfl (Nat.le_of_ble_eq_true rfl) rfl ⟨by omega, by omega⟩ ?_
  refine go_istore (ls' := [(6, .int q26.1), (5, .int q23.1), (0, .retAddr 11), (1, .ref v1), (2, .ref v2), (3, .ref v3), (4, .int v4)]) (pc := 415) C dL_law_415 (by decide) rfl ?_
  refine go_aload_n (pc := 417) C 4 dL_law_417 rfl ?_
  refine go_bind (fun q27 hq27 => ?_)
  refine go_callV (rest := []) (st' := [.int q27]) (c' := (167 + 2 * j + 1)) (s' := (10310 + 8 * j + 6)) (pc := 418) C O miL_54 mvX11_thrown [] rfl (mX11_thrown hq27).1 (mX11_thrown hq27).2 dL_law_418 ⟨by decide, by decide, by omega, by omega⟩ rfl (Nat.le_of_ble_eq_true rfl) rfl ⟨by omega, by omega⟩ ?_
  refine go_iload (pc := 421) C 1 dL_law_421 rfl ?_
  refine go_icmp_eq (pc := 423) C 428 dL_law_423 (by decide) (fun _ => ?_) (fun _ => ?_)
  · refine go_iload (pc := 428) C 1 dL_law_428 rfl ?_
    refine go_if_ne (pc := 430) C 445 dL_law_430 (by decide) (fun _ => ?_) (fun _ => ?_)
    · refine go_aload_n (pc := 433) C 5 dL_law_433 rfl ?_
      refine go_iconst (pc := 434) C dL_law_434 ki_0 ?_
      refine go_lald (pc := 435) C dL_law_435 (fun x28 => ?_)
      refine go_iload (pc := 436) C 0 dL_law_436 rfl ?_
      refine go_i2l (pc := 438) C dL_law_438 ?_
      refine go_lcmp (pc := 439) C dL_law_439 ?_
      refine go_if_eq (pc := 440) C 445 dL_law_440 (by decide) (fun _ => ?_) (fun _ => ?_)
      · refine go_goto (pc := 445) C 1617 dL_law_445 (by decide) ?_
        refine go_sub (ls' := [(0, .retAddr 11), (1, .ref v1), (2, .ref v2), (3, .ref v3), (4, .int v4)]) [2, 3, 4, 5, 6] rfl ?_
        exact hk1617 q26.2 v1 v2 v3 v4
      · refine go_iconst (pc := 443) C dL_law_443 ki_0 ?_
        exact go_none _ _ _
    · refine go_goto (pc := 445) C 1617 dL_law_445 (by decide) ?_
      refine go_sub (ls' := [(0, .retAddr 11), (1, .ref v1), (2, .ref v2), (3, .ref v3), (4, .int v4)]) [2, 3, 4, 5, 6] rfl ?_
      exact hk1617 q26.2 v1 v2 v3 v4
  · refine go_iconst (pc := 426) C dL_law_426 ki_0 ?_
    exact go_none _ _ _
set_option maxHeartbeats 4000000 in
theorem gL_law_J448 {Y : YT} {X : XT} {j : Nat} (hj : j ≤ 600) (C : CT Y X RL cL_law 8) (O : RO X 1000 601024 7293034) {r : Unit} {b L : Nat} {xs : Nat → Int32} (E : LX Y X b L xs) {k1617 : AH → Nat → Nat → Nat → Int32 → Option (Unit)} (hk1617 : ∀ (h : AH) (v1 : Nat) (v2 : Nat) (v3 : Nat) (v4 : Int32), GO Y X 8 r h (167 + 2 * j + 1) (10310 + 8 * j + 6) 1617 [(0, .retAddr 11), (1, .ref v1), (2, .ref v2), (3, .ref v3), (4, .int v4)] [] (k1617 h v1 v2 v3 v4)) : ∀ (h : AH) (v1 : Nat) (v2 : Nat) (v3 : Nat) (v4 : Int32), GO Y X 8 r h (167 + 2 * j + 0) (10310 + 8 * j + 0) 448 [(0, .retAddr 11), (1, .ref v1), (2, .ref v2), (3, .ref v3), (4, .int v4)] [] (fL_law_J448 xs L k1617 h v1 v2 v3 v4) := by
  intro h v1 v2 v3 v4
  unfold fL_law_J448
  refine go_aload_n (pc := 448) C 1 dL_law_448 rfl ?_
  refine go_sload_n (pc := 449) C 0 dL_law_449 rfl ?_
  refine go_iload (pc := 450) C 4 dL_law_450 rfl ?_
  refine go_iconst (pc := 452) C dL_law_452 ki_1 ?_
  refine go_iadd (pc := 453) C dL_law_453 ?_
  refine go_sld (pc := 454) C E dL_law_454 (fun x29 => ?_)
  refine go_sload_n (pc := 455) C 0 dL_law_455 rfl ?_
  refine go_iload (pc := 456) C 4 dL_law_456 rfl ?_
  refine go_iconst (pc := 458) C dL_law_458 ki_2 ?_
  refine go_iadd (pc := 459) C dL_law_459 ?_
  refine go_sld (pc := 460) C E dL_law_460 (fun x30 => ?_)
  refine go_aload_n (pc := 461) C 3 dL_law_461 rfl ?_
  refine go_bind (fun q31 hq31 => ?_)
  refine go_callW (rest := []) (st' := [.int q31.1]) (c' := (167 + 2 * j + 1)) (s' := (10310 + 8 * j + 6)) (pc := 462) C E.2.2.2.2.2.2 O miL_60 [.ref v1, .int x29, .int x30, .ref v3] rfl (mL_page hq31) dL_law_462 ⟨by decide, by decide, by omega, by omega⟩ rfl (Nat.le_of_ble_eq_true rfl) rfl ⟨by omega, by omega⟩ ?_
  refine go_istore (ls' := [(5, .int q31.1), (0, .retAddr 11), (1, .ref v1), (2, .ref v2), (3, .ref v3), (4, .int v4)]) (pc := 465) C dL_law_465 (by decide) rfl ?_
  refine go_aload_n (pc := 467) C 3 dL_law_467 rfl ?_
  refine go_sload_n (pc := 468) C 1 dL_law_468 rfl ?_
  refine go_iload (pc := 469) C 5 dL_law_469 rfl ?_
  refine go_iconst (pc := 471) C dL_law_471 ki_1 ?_
  refine go_iadd (pc := 472) C dL_law_472 ?_
  refine go_sld (pc := 473) C E dL_law_473 (fun x32 => ?_)
  refine go_sload_n (pc := 474) C 1 dL_law_474 rfl ?_
  refine go_iload (pc := 475) C 5 dL_law_475 rfl ?_
  refine go_iconst (pc := 477) C dL_law_477 ki_2 ?_
  refine go_iadd (pc := 478) C dL_law_478 ?_
  refine go_sld (pc := 479) C E dL_law_479 (fun x33 => ?_)
  refine go_bind (fun q34 hq34 => ?_)
  refine go_callV (rest := []) (st' := [.int q34.1]) (c' := (167 + 2 * j + 1)) (s' := (10310 + 8 * j + 6)) (pc := 480) C O miL_62 mvX11_page [.int x32, .int x33] rfl (mX11_page hq34).1 (mX11_page hq34).2 dL_law_480 ⟨by decide, by decide, by omega, by omega⟩ rfl (Nat.le_of_ble_eq_true rfl) rfl ⟨by omega, by omega⟩ ?_
  refine go_istore (ls' := [(6, .int q34.1), (5, .int q31.1), (0, .retAddr 11), (1, .ref v1), (2, .ref v2), (3, .ref v3), (4, .int v4)]) (pc := 483) C dL_law_483 (by decide) rfl ?_
  refine go_aload_n (pc := 485) C 4 dL_law_485 rfl ?_
  refine go_bind (fun q35 hq35 => ?_)
  refine go_callV (rest := []) (st' := [.int q35]) (c' := (167 + 2 * j + 1)) (s' := (10310 + 8 * j + 6)) (pc := 486) C O miL_54 mvX11_thrown [] rfl (mX11_thrown hq35).1 (mX11_thrown hq35).2 dL_law_486 ⟨by decide, by decide, by omega, by omega⟩ rfl (Nat.le_of_ble_eq_true rfl) rfl ⟨by omega, by omega⟩ ?_
  refine go_iload (pc := 489) C 1 dL_law_489 rfl ?_
  refine go_icmp_eq (pc := 491) C 496 dL_law_491 (by decide) (fun _ => ?_) (fun _ => ?_)
  · refine go_iload (pc := 496) C 1 dL_law_496 rfl ?_
    refine go_if_ne (pc := 498) C 513 dL_law_498 (by decide) (fun _ => ?_) (fun _ => ?_)
    · refine go_aload_n (pc := 501) C 5 dL_law_501 rfl ?_
      refine go_iconst (pc := 502) C dL_law_502 ki_0 ?_
      refine go_lald (pc := 503) C dL_law_503 (fun x36 => ?_)
      refine go_iload (pc := 504) C 0 dL_law_504 rfl ?_
      refine go_i2l (pc := 506) C dL_law_506 ?_
      refine go_lcmp (pc := 507) C dL_law_507 ?_
      refine go_if_eq (pc := 508) C 513 dL_law_508 (by decide) (fun _ => ?_) (fun _ => ?_)
      · refine go_goto (pc := 513) C 1617 dL_law_513 (by decide) ?_
        refine go_sub (ls' := [(0, .retAddr 11), (1, .ref v1), (2, .ref v2), (3, .ref v3), (4, .int v4)]) [2, 3, 4, 5, 6] rfl ?_
        exact hk1617 q34.2 v1 v2 v3 v4
      · refine go_iconst (pc := 511) C dL_law_511 ki_0 ?_
        exact go_none _ _ _
    · refine go_goto (pc := 513) C 1617 dL_law_513 (by decide) ?_
      refine go_sub (ls' := [(0, .retAddr 11), (1, .ref v1), (2, .ref v2), (3, .ref v3), (4, .int v4)]) [2, 3, 4, 5, 6] rfl ?_
      exact hk1617 q34.2 v1 v2 v3 v4
  · refine go_iconst (pc := 494) C dL_law_494 ki_0 ?_
    exact go_none _ _ _
set_option maxHeartbeats 4000000 in
theorem gL_law_J516 {Y : YT} {X : XT} {j : Nat} (hj : j ≤ 600) (C : CT Y X RL cL_law 8) (O : RO X 1000 601024 7293034) {r : Unit} {b L : Nat} {xs : Nat → Int32} (E : LX Y X b L xs) {k1617 : AH → Nat → Nat → Nat → Int32 → Option (Unit)} (hk1617 : ∀ (h : AH) (v1 : Nat) (v2 : Nat) (v3 : Nat) (v4 : Int32), GO Y X 8 r h (167 + 2 * j + 1) (10310 + 8 * j + 6) 1617 [(0, .retAddr 11), (1, .ref v1), (2, .ref v2), (3, .ref v3), (4, .int v4)] [] (k1617 h v1 v2 v3 v4)) : ∀ (h : AH) (v1 : Nat) (v2 : Nat) (v3 : Nat) (v4 : Int32), GO Y X 8 r h (167 + 2 * j + 0) (10310 + 8 * j + 0) 516 [(0, .retAddr 11), (1, .ref v1), (2, .ref v2), (3, .ref v3), (4, .int v4)] [] (fL_law_J516 xs L k1617 h v1 v2 v3 v4) := by
  intro h v1 v2 v3 v4
  unfold fL_law_J516
  refine go_aload_n (pc := 516) C 1 dL_law_516 rfl ?_
  refine go_sload_n (pc := 517) C 0 dL_law_517 rfl ?_
  refine go_iload (pc := 518) C 4 dL_law_518 rfl ?_
  refine go_iconst (pc := 520) C dL_law_520 ki_1 ?_
  refine go_iadd (pc := 521) C dL_law_521 ?_
  refine go_sld (pc := 522) C E dL_law_522 (fun x37 => ?_)
  refine go_sload_n (pc := 523) C 0 dL_law_523 rfl ?_
  refine go_iload (pc := 524) C 4 dL_law_524 rfl ?_
  refine go_iconst (pc := 526) C dL_law_526 ki_2 ?_
  refine go_iadd (pc := 527) C dL_law_527 ?_
  refine go_sld (pc := 528) C E dL_law_528 (fun x38 => ?_)
  refine go_sload_n (pc := 529) C 0 dL_law_529 rfl ?_
  refine go_iload (pc := 530) C 4 dL_law_530 rfl ?_
  refine go_iconst (pc := 532) C dL_law_532 ki_3 ?_
  refine go_iadd (pc := 533) C dL_law_533 ?_
  refine go_sld (pc := 534) C E dL_law_534 (fun x39 => ?_)
  refine go_sload_n (pc := 535) C 0 dL_law_535 rfl ?_
  refine go_iload (pc := 536) C 4 dL_law_536 rfl ?_
  refine go_iconst (pc := 538) C dL_law_538 ki_4 ?_
  refine go_iadd (pc := 539) C dL_law_539 ?_
  refine go_sld (pc := 540) C E dL_law_540 (fun x40 => ?_)
  refine go_bind (fun q41 hq41 => ?_)
  refine go_callV (rest := []) (st' := [.int q41.1]) (c' := (167 + 2 * j + 0)) (s' := (10310 + 8 * j + 0)) (pc := 541) C O miL_63 mvX10_sheet [.int x37, .int x38, .int x39, .int x40] rfl (mX10_sheet hq41).1 (mX10_sheet hq41).2 dL_law_541 ⟨by decide, by decide, by omega, by omega⟩ rfl (Nat.le_of_ble_eq_true rfl) rfl ⟨by omega, by omega⟩ ?_
  refine go_aload_n (pc := 544) C 2 dL_law_544 rfl ?_
  refine go_sload_n (pc := 545) C 0 dL_law_545 rfl ?_
  refine go_iload (pc := 546) C 4 dL_law_546 rfl ?_
  refine go_iconst (pc := 548) C dL_law_548 ki_1 ?_
  refine go_iadd (pc := 549) C dL_law_549 ?_
  refine go_sld (pc := 550) C E dL_law_550 (fun x42 => ?_)
  refine go_sload_n (pc := 551) C 0 dL_law_551 rfl ?_
  refine go_iload (pc := 552) C 4 dL_law_552 rfl ?_
  refine go_iconst (pc := 554) C dL_law_554 ki_2 ?_
  refine go_iadd (pc := 555) C dL_law_555 ?_
  refine go_sld (pc := 556) C E dL_law_556 (fun x43 => ?_)
  refine go_sload_n (pc := 557) C 0 dL_law_557 rfl ?_
  refine go_iload (pc := 558) C 4 dL_law_558 rfl ?_
  refine go_iconst (pc := 560) C dL_law_560 ki_3 ?_
  refine go_iadd (pc := 561) C dL_law_561 ?_
  refine go_sld (pc := 562) C E dL_law_562 (fun x44 => ?_)
  refine go_sload_n (pc := 563) C 0 dL_law_563 rfl ?_
  refine go_iload (pc := 564) C 4 dL_law_564 rfl ?_
  refine go_iconst (pc := 566) C dL_law_566 ki_4 ?_
  refine go_iadd (pc := 567) C dL_law_567 ?_
  refine go_sld (pc := 568) C E dL_law_568 (fun x45 => ?_)
  refine go_bind (fun q46 hq46 => ?_)
  refine go_callV (rest := [.int q41.1]) (st' := [.int q46.1, .int q41.1]) (c' := (167 + 2 * j + 0)) (s' := (10310 + 8 * j + 0)) (pc := 569) C O miL_67 mvX11_sheet [.int x42, .int x43, .int x44, .int x45] rfl (mX11_sheet hq46).1 (mX11_sheet hq46).2 dL_law_569 ⟨by decide, by decide, by omega, by omega⟩ rfl (Nat.le_of_ble_eq_true rfl) rfl ⟨by omega, by omega⟩ ?_
  refine go_icmp_eq (pc := 572) C 1617 dL_law_572 (by decide) (fun _ => ?_) (fun _ => ?_)
  · refine go_widen (c2 := (167 + 2 * j + 1)) (s2 := (10310 + 8 * j + 6)) (by omega) (by omega) ?_
    refine go_sub (ls' := [(0, .retAddr 11), (1, .ref v1), (2, .ref v2), (3, .ref v3), (4, .int v4)]) [0, 1, 2, 3, 4] rfl ?_
    exact hk1617 q46.2 v1 v2 v3 v4
  · refine go_iconst (pc := 575) C dL_law_575 ki_0 ?_
    exact go_none _ _ _
set_option maxHeartbeats 4000000 in
theorem gL_law_J577 {Y : YT} {X : XT} {j : Nat} (hj : j ≤ 600) (C : CT Y X RL cL_law 8) (O : RO X 1000 601024 7293034) {r : Unit} {b L : Nat} {xs : Nat → Int32} (E : LX Y X b L xs) {k1617 : AH → Nat → Nat → Nat → Int32 → Option (Unit)} (hk1617 : ∀ (h : AH) (v1 : Nat) (v2 : Nat) (v3 : Nat) (v4 : Int32), GO Y X 8 r h (167 + 2 * j + 1) (10310 + 8 * j + 6) 1617 [(0, .retAddr 11), (1, .ref v1), (2, .ref v2), (3, .ref v3), (4, .int v4)] [] (k1617 h v1 v2 v3 v4)) : ∀ (h : AH) (v1 : Nat) (v2 : Nat) (v3 : Nat) (v4 : Int32), GO Y X 8 r h (167 + 2 * j + 0) (10310 + 8 * j + 0) 577 [(0, .retAddr 11), (1, .ref v1), (2, .ref v2), (3, .ref v3), (4, .int v4)] [] (fL_law_J577 xs L k1617 h v1 v2 v3 v4) := by
  intro h v1 v2 v3 v4
  unfold fL_law_J577
  refine go_aload_n (pc := 577) C 1 dL_law_577 rfl ?_
  refine go_sload_n (pc := 578) C 0 dL_law_578 rfl ?_
  refine go_iload (pc := 579) C 4 dL_law_579 rfl ?_
  refine go_iconst (pc := 581) C dL_law_581 ki_1 ?_
  refine go_iadd (pc := 582) C dL_law_582 ?_
  refine go_sld (pc := 583) C E dL_law_583 (fun x47 => ?_)
  refine go_sload_n (pc := 584) C 0 dL_law_584 rfl ?_
  refine go_iload (pc := 585) C 4 dL_law_585 rfl ?_
  refine go_iconst (pc := 587) C dL_law_587 ki_2 ?_
  refine go_iadd (pc := 588) C dL_law_588 ?_
  refine go_sld (pc := 589) C E dL_law_589 (fun x48 => ?_)
  refine go_bind (fun q49 hq49 => ?_)
  refine go_callV (rest := []) (st' := [.int q49.1]) (c' := (167 + 2 * j + 0)) (s' := (10310 + 8 * j + 0)) (pc := 590) C O miL_68 mvX10_reads [.int x47, .int x48] rfl (mX10_reads hq49).1 (mX10_reads hq49).2 dL_law_590 ⟨by decide, by decide, by omega, by omega⟩ rfl (Nat.le_of_ble_eq_true rfl) rfl ⟨by omega, by omega⟩ ?_
  refine go_aload_n (pc := 593) C 2 dL_law_593 rfl ?_
  refine go_sload_n (pc := 594) C 0 dL_law_594 rfl ?_
  refine go_iload (pc := 595) C 4 dL_law_595 rfl ?_
  refine go_iconst (pc := 597) C dL_law_597 ki_1 ?_
  refine go_iadd (pc := 598) C dL_law_598 ?_
  refine go_sld (pc := 599) C E dL_law_599 (fun x50 => ?_)
  refine go_sload_n (pc := 600) C 0 dL_law_600 rfl ?_
  refine go_iload (pc := 601) C 4 dL_law_601 rfl ?_
  refine go_iconst (pc := 603) C dL_law_603 ki_2 ?_
  refine go_iadd (pc := 604) C dL_law_604 ?_
  refine go_sld (pc := 605) C E dL_law_605 (fun x51 => ?_)
  refine go_bind (fun q52 hq52 => ?_)
  refine go_callV (rest := [.int q49.1]) (st' := [.int q52.1, .int q49.1]) (c' := (167 + 2 * j + 0)) (s' := (10310 + 8 * j + 0)) (pc := 606) C O miL_71 mvX11_reads [.int x50, .int x51] rfl (mX11_reads hq52).1 (mX11_reads hq52).2 dL_law_606 ⟨by decide, by decide, by omega, by omega⟩ rfl (Nat.le_of_ble_eq_true rfl) rfl ⟨by omega, by omega⟩ ?_
  refine go_icmp_eq (pc := 609) C 1617 dL_law_609 (by decide) (fun _ => ?_) (fun _ => ?_)
  · refine go_widen (c2 := (167 + 2 * j + 1)) (s2 := (10310 + 8 * j + 6)) (by omega) (by omega) ?_
    refine go_sub (ls' := [(0, .retAddr 11), (1, .ref v1), (2, .ref v2), (3, .ref v3), (4, .int v4)]) [0, 1, 2, 3, 4] rfl ?_
    exact hk1617 q52.2 v1 v2 v3 v4
  · refine go_iconst (pc := 612) C dL_law_612 ki_0 ?_
    exact go_none _ _ _
set_option maxHeartbeats 4000000 in
theorem gL_law_J614 {Y : YT} {X : XT} {j : Nat} (hj : j ≤ 600) (C : CT Y X RL cL_law 8) (O : RO X 1000 601024 7293034) {r : Unit} {b L : Nat} {xs : Nat → Int32} (E : LX Y X b L xs) {k1617 : AH → Nat → Nat → Nat → Int32 → Option (Unit)} (hk1617 : ∀ (h : AH) (v1 : Nat) (v2 : Nat) (v3 : Nat) (v4 : Int32), GO Y X 8 r h (167 + 2 * j + 1) (10310 + 8 * j + 6) 1617 [(0, .retAddr 11), (1, .ref v1), (2, .ref v2), (3, .ref v3), (4, .int v4)] [] (k1617 h v1 v2 v3 v4)) : ∀ (h : AH) (v1 : Nat) (v2 : Nat) (v3 : Nat) (v4 : Int32), GO Y X 8 r h (167 + 2 * j + 0) (10310 + 8 * j + 0) 614 [(0, .retAddr 11), (1, .ref v1), (2, .ref v2), (3, .ref v3), (4, .int v4)] [] (fL_law_J614 xs L k1617 h v1 v2 v3 v4) := by
  intro h v1 v2 v3 v4
  unfold fL_law_J614
  refine go_aload_n (pc := 614) C 1 dL_law_614 rfl ?_
  refine go_sload_n (pc := 615) C 0 dL_law_615 rfl ?_
  refine go_iload (pc := 616) C 4 dL_law_616 rfl ?_
  refine go_iconst (pc := 618) C dL_law_618 ki_1 ?_
  refine go_iadd (pc := 619) C dL_law_619 ?_
  refine go_sld (pc := 620) C E dL_law_620 (fun x53 => ?_)
  refine go_sload_n (pc := 621) C 0 dL_law_621 rfl ?_
  refine go_iload (pc := 622) C 4 dL_law_622 rfl ?_
  refine go_iconst (pc := 624) C dL_law_624 ki_2 ?_
  refine go_iadd (pc := 625) C dL_law_625 ?_
  refine go_sld (pc := 626) C E dL_law_626 (fun x54 => ?_)
  refine go_sload_n (pc := 627) C 0 dL_law_627 rfl ?_
  refine go_iload (pc := 628) C 4 dL_law_628 rfl ?_
  refine go_iconst (pc := 630) C dL_law_630 ki_3 ?_
  refine go_iadd (pc := 631) C dL_law_631 ?_
  refine go_sld (pc := 632) C E dL_law_632 (fun x55 => ?_)
  refine go_bind (fun q56 hq56 => ?_)
  refine go_callV (rest := []) (st' := [.int q56.1]) (c' := (167 + 2 * j + 0)) (s' := (10310 + 8 * j + 0)) (pc := 633) C O miL_72 mvX10_writes [.int x53, .int x54, .int x55] rfl (mX10_writes hq56).1 (mX10_writes hq56).2 dL_law_633 ⟨by decide, by decide, by omega, by omega⟩ rfl (Nat.le_of_ble_eq_true rfl) rfl ⟨by omega, by omega⟩ ?_
  refine go_aload_n (pc := 636) C 2 dL_law_636 rfl ?_
  refine go_sload_n (pc := 637) C 0 dL_law_637 rfl ?_
  refine go_iload (pc := 638) C 4 dL_law_638 rfl ?_
  refine go_iconst (pc := 640) C dL_law_640 ki_1 ?_
  refine go_iadd (pc := 641) C dL_law_641 ?_
  refine go_sld (pc := 642) C E dL_law_642 (fun x57 => ?_)
  refine go_sload_n (pc := 643) C 0 dL_law_643 rfl ?_
  refine go_iload (pc := 644) C 4 dL_law_644 rfl ?_
  refine go_iconst (pc := 646) C dL_law_646 ki_2 ?_
  refine go_iadd (pc := 647) C dL_law_647 ?_
  refine go_sld (pc := 648) C E dL_law_648 (fun x58 => ?_)
  refine go_sload_n (pc := 649) C 0 dL_law_649 rfl ?_
  refine go_iload (pc := 650) C 4 dL_law_650 rfl ?_
  refine go_iconst (pc := 652) C dL_law_652 ki_3 ?_
  refine go_iadd (pc := 653) C dL_law_653 ?_
  refine go_sld (pc := 654) C E dL_law_654 (fun x59 => ?_)
  refine go_bind (fun q60 hq60 => ?_)
  refine go_callV (rest := [.int q56.1]) (st' := [.int q60.1, .int q56.1]) (c' := (167 + 2 * j + 0)) (s' := (10310 + 8 * j + 0)) (pc := 655) C O miL_76 mvX11_writes [.int x57, .int x58, .int x59] rfl (mX11_writes hq60).1 (mX11_writes hq60).2 dL_law_655 ⟨by decide, by decide, by omega, by omega⟩ rfl (Nat.le_of_ble_eq_true rfl) rfl ⟨by omega, by omega⟩ ?_
  refine go_icmp_eq (pc := 658) C 1617 dL_law_658 (by decide) (fun _ => ?_) (fun _ => ?_)
  · refine go_widen (c2 := (167 + 2 * j + 1)) (s2 := (10310 + 8 * j + 6)) (by omega) (by omega) ?_
    refine go_sub (ls' := [(0, .retAddr 11), (1, .ref v1), (2, .ref v2), (3, .ref v3), (4, .int v4)]) [0, 1, 2, 3, 4] rfl ?_
    exact hk1617 q60.2 v1 v2 v3 v4
  · refine go_iconst (pc := 661) C dL_law_661 ki_0 ?_
    exact go_none _ _ _
set_option maxHeartbeats 4000000 in
theorem gL_law_J663 {Y : YT} {X : XT} {j : Nat} (hj : j ≤ 600) (C : CT Y X RL cL_law 8) (O : RO X 1000 601024 7293034) {r : Unit} {b L : Nat} {xs : Nat → Int32} (E : LX Y X b L xs) {k1617 : AH → Nat → Nat → Nat → Int32 → Option (Unit)} (hk1617 : ∀ (h : AH) (v1 : Nat) (v2 : Nat) (v3 : Nat) (v4 : Int32), GO Y X 8 r h (167 + 2 * j + 1) (10310 + 8 * j + 6) 1617 [(0, .retAddr 11), (1, .ref v1), (2, .ref v2), (3, .ref v3), (4, .int v4)] [] (k1617 h v1 v2 v3 v4)) : ∀ (h : AH) (v1 : Nat) (v2 : Nat) (v3 : Nat) (v4 : Int32), GO Y X 8 r h (167 + 2 * j + 0) (10310 + 8 * j + 0) 663 [(0, .retAddr 11), (1, .ref v1), (2, .ref v2), (3, .ref v3), (4, .int v4)] [] (fL_law_J663 xs L k1617 h v1 v2 v3 v4) := by
  intro h v1 v2 v3 v4
  unfold fL_law_J663
  refine go_aload_n (pc := 663) C 1 dL_law_663 rfl ?_
  refine go_sload_n (pc := 664) C 0 dL_law_664 rfl ?_
  refine go_iload (pc := 665) C 4 dL_law_665 rfl ?_
  refine go_iconst (pc := 667) C dL_law_667 ki_1 ?_
  refine go_iadd (pc := 668) C dL_law_668 ?_
  refine go_sld (pc := 669) C E dL_law_669 (fun x61 => ?_)
  refine go_bind (fun q62 hq62 => ?_)
  refine go_callV (rest := []) (st' := [.int q62.1]) (c' := (167 + 2 * j + 0)) (s' := (10310 + 8 * j + 0)) (pc := 670) C O miL_77 mvX10_forks [.int x61] rfl (mX10_forks hq62).1 (mX10_forks hq62).2 dL_law_670 ⟨by decide, by decide, by omega, by omega⟩ rfl (Nat.le_of_ble_eq_true rfl) rfl ⟨by omega, by omega⟩ ?_
  refine go_aload_n (pc := 673) C 2 dL_law_673 rfl ?_
  refine go_sload_n (pc := 674) C 0 dL_law_674 rfl ?_
  refine go_iload (pc := 675) C 4 dL_law_675 rfl ?_
  refine go_iconst (pc := 677) C dL_law_677 ki_1 ?_
  refine go_iadd (pc := 678) C dL_law_678 ?_
  refine go_sld (pc := 679) C E dL_law_679 (fun x63 => ?_)
  refine go_bind (fun q64 hq64 => ?_)
  refine go_callV (rest := [.int q62.1]) (st' := [.int q64.1, .int q62.1]) (c' := (167 + 2 * j + 0)) (s' := (10310 + 8 * j + 0)) (pc := 680) C O miL_80 mvX11_forks [.int x63] rfl (mX11_forks hq64).1 (mX11_forks hq64).2 dL_law_680 ⟨by decide, by decide, by omega, by omega⟩ rfl (Nat.le_of_ble_eq_true rfl) rfl ⟨by omega, by omega⟩ ?_
  refine go_icmp_eq (pc := 683) C 1617 dL_law_683 (by decide) (fun _ => ?_) (fun _ => ?_)
  · refine go_widen (c2 := (167 + 2 * j + 1)) (s2 := (10310 + 8 * j + 6)) (by omega) (by omega) ?_
    refine go_sub (ls' := [(0, .retAddr 11), (1, .ref v1), (2, .ref v2), (3, .ref v3), (4, .int v4)]) [0, 1, 2, 3, 4] rfl ?_
    exact hk1617 q64.2 v1 v2 v3 v4
  · refine go_iconst (pc := 686) C dL_law_686 ki_0 ?_
    exact go_none _ _ _
set_option maxHeartbeats 4000000 in
theorem gL_law_J688 {Y : YT} {X : XT} {j : Nat} (hj : j ≤ 600) (C : CT Y X RL cL_law 8) (O : RO X 1000 601024 7293034) {r : Unit} {b L : Nat} {xs : Nat → Int32} (E : LX Y X b L xs) {k1617 : AH → Nat → Nat → Nat → Int32 → Option (Unit)} (hk1617 : ∀ (h : AH) (v1 : Nat) (v2 : Nat) (v3 : Nat) (v4 : Int32), GO Y X 8 r h (167 + 2 * j + 1) (10310 + 8 * j + 6) 1617 [(0, .retAddr 11), (1, .ref v1), (2, .ref v2), (3, .ref v3), (4, .int v4)] [] (k1617 h v1 v2 v3 v4)) : ∀ (h : AH) (v1 : Nat) (v2 : Nat) (v3 : Nat) (v4 : Int32), GO Y X 8 r h (167 + 2 * j + 0) (10310 + 8 * j + 0) 688 [(0, .retAddr 11), (1, .ref v1), (2, .ref v2), (3, .ref v3), (4, .int v4)] [] (fL_law_J688 xs L k1617 h v1 v2 v3 v4) := by
  intro h v1 v2 v3 v4
  unfold fL_law_J688
  refine go_aload_n (pc := 688) C 1 dL_law_688 rfl ?_
  refine go_sload_n (pc := 689) C 0 dL_law_689 rfl ?_
  refine go_iload (pc := 690) C 4 dL_law_690 rfl ?_
  refine go_iconst (pc := 692) C dL_law_692 ki_1 ?_
  refine go_iadd (pc := 693) C dL_law_693 ?_
  refine go_sld (pc := 694) C E dL_law_694 (fun x65 => ?_)
  refine go_bind (fun q66 hq66 => ?_)
  refine go_callV (rest := []) (st' := [.int q66.1]) (c' := (167 + 2 * j + 0)) (s' := (10310 + 8 * j + 0)) (pc := 695) C O miL_81 mvX10_ends [.int x65] rfl (mX10_ends hq66).1 (mX10_ends hq66).2 dL_law_695 ⟨by decide, by decide, by omega, by omega⟩ rfl (Nat.le_of_ble_eq_true rfl) rfl ⟨by omega, by omega⟩ ?_
  refine go_aload_n (pc := 698) C 2 dL_law_698 rfl ?_
  refine go_sload_n (pc := 699) C 0 dL_law_699 rfl ?_
  refine go_iload (pc := 700) C 4 dL_law_700 rfl ?_
  refine go_iconst (pc := 702) C dL_law_702 ki_1 ?_
  refine go_iadd (pc := 703) C dL_law_703 ?_
  refine go_sld (pc := 704) C E dL_law_704 (fun x67 => ?_)
  refine go_bind (fun q68 hq68 => ?_)
  refine go_callV (rest := [.int q66.1]) (st' := [.int q68.1, .int q66.1]) (c' := (167 + 2 * j + 0)) (s' := (10310 + 8 * j + 0)) (pc := 705) C O miL_84 mvX11_ends [.int x67] rfl (mX11_ends hq68).1 (mX11_ends hq68).2 dL_law_705 ⟨by decide, by decide, by omega, by omega⟩ rfl (Nat.le_of_ble_eq_true rfl) rfl ⟨by omega, by omega⟩ ?_
  refine go_icmp_eq (pc := 708) C 1617 dL_law_708 (by decide) (fun _ => ?_) (fun _ => ?_)
  · refine go_widen (c2 := (167 + 2 * j + 1)) (s2 := (10310 + 8 * j + 6)) (by omega) (by omega) ?_
    refine go_sub (ls' := [(0, .retAddr 11), (1, .ref v1), (2, .ref v2), (3, .ref v3), (4, .int v4)]) [0, 1, 2, 3, 4] rfl ?_
    exact hk1617 q68.2 v1 v2 v3 v4
  · refine go_iconst (pc := 711) C dL_law_711 ki_0 ?_
    exact go_none _ _ _
set_option maxHeartbeats 4000000 in
theorem gL_law_J713 {Y : YT} {X : XT} {j : Nat} (hj : j ≤ 600) (C : CT Y X RL cL_law 8) (O : RO X 1000 601024 7293034) {r : Unit} {b L : Nat} {xs : Nat → Int32} (E : LX Y X b L xs) {k1617 : AH → Nat → Nat → Nat → Int32 → Option (Unit)} (hk1617 : ∀ (h : AH) (v1 : Nat) (v2 : Nat) (v3 : Nat) (v4 : Int32), GO Y X 8 r h (167 + 2 * j + 1) (10310 + 8 * j + 6) 1617 [(0, .retAddr 11), (1, .ref v1), (2, .ref v2), (3, .ref v3), (4, .int v4)] [] (k1617 h v1 v2 v3 v4)) : ∀ (h : AH) (v1 : Nat) (v2 : Nat) (v3 : Nat) (v4 : Int32), GO Y X 8 r h (167 + 2 * j + 0) (10310 + 8 * j + 0) 713 [(0, .retAddr 11), (1, .ref v1), (2, .ref v2), (3, .ref v3), (4, .int v4)] [] (fL_law_J713 xs L k1617 h v1 v2 v3 v4) := by
  intro h v1 v2 v3 v4
  unfold fL_law_J713
  refine go_aload_n (pc := 713) C 1 dL_law_713 rfl ?_
  refine go_sload_n (pc := 714) C 0 dL_law_714 rfl ?_
  refine go_iload (pc := 715) C 4 dL_law_715 rfl ?_
  refine go_iconst (pc := 717) C dL_law_717 ki_1 ?_
  refine go_iadd (pc := 718) C dL_law_718 ?_
  refine go_sld (pc := 719) C E dL_law_719 (fun x69 => ?_)
  refine go_sload_n (pc := 720) C 0 dL_law_720 rfl ?_
  refine go_iload (pc := 721) C 4 dL_law_721 rfl ?_
  refine go_iconst (pc := 723) C dL_law_723 ki_2 ?_
  refine go_iadd (pc := 724) C dL_law_724 ?_
  refine go_sld (pc := 725) C E dL_law_725 (fun x70 => ?_)
  refine go_sload_n (pc := 726) C 0 dL_law_726 rfl ?_
  refine go_iload (pc := 727) C 4 dL_law_727 rfl ?_
  refine go_iconst (pc := 729) C dL_law_729 ki_3 ?_
  refine go_iadd (pc := 730) C dL_law_730 ?_
  refine go_sld (pc := 731) C E dL_law_731 (fun x71 => ?_)
  refine go_bind (fun q72 hq72 => ?_)
  refine go_callV (rest := []) (st' := [.int q72.1]) (c' := (167 + 2 * j + 0)) (s' := (10310 + 8 * j + 0)) (pc := 732) C O miL_85 mvX10_arrives [.int x69, .int x70, .int x71] rfl (mX10_arrives hq72).1 (mX10_arrives hq72).2 dL_law_732 ⟨by decide, by decide, by omega, by omega⟩ rfl (Nat.le_of_ble_eq_true rfl) rfl ⟨by omega, by omega⟩ ?_
  refine go_aload_n (pc := 735) C 2 dL_law_735 rfl ?_
  refine go_sload_n (pc := 736) C 0 dL_law_736 rfl ?_
  refine go_iload (pc := 737) C 4 dL_law_737 rfl ?_
  refine go_iconst (pc := 739) C dL_law_739 ki_1 ?_
  refine go_iadd (pc := 740) C dL_law_740 ?_
  refine go_sld (pc := 741) C E dL_law_741 (fun x73 => ?_)
  refine go_sload_n (pc := 742) C 0 dL_law_742 rfl ?_
  refine go_iload (pc := 743) C 4 dL_law_743 rfl ?_
  refine go_iconst (pc := 745) C dL_law_745 ki_2 ?_
  refine go_iadd (pc := 746) C dL_law_746 ?_
  refine go_sld (pc := 747) C E dL_law_747 (fun x74 => ?_)
  refine go_sload_n (pc := 748) C 0 dL_law_748 rfl ?_
  refine go_iload (pc := 749) C 4 dL_law_749 rfl ?_
  refine go_iconst (pc := 751) C dL_law_751 ki_3 ?_
  refine go_iadd (pc := 752) C dL_law_752 ?_
  refine go_sld (pc := 753) C E dL_law_753 (fun x75 => ?_)
  refine go_bind (fun q76 hq76 => ?_)
  refine go_callV (rest := [.int q72.1]) (st' := [.int q76.1, .int q72.1]) (c' := (167 + 2 * j + 0)) (s' := (10310 + 8 * j + 0)) (pc := 754) C O miL_88 mvX11_arrives [.int x73, .int x74, .int x75] rfl (mX11_arrives hq76).1 (mX11_arrives hq76).2 dL_law_754 ⟨by decide, by decide, by omega, by omega⟩ rfl (Nat.le_of_ble_eq_true rfl) rfl ⟨by omega, by omega⟩ ?_
  refine go_icmp_eq (pc := 757) C 1617 dL_law_757 (by decide) (fun _ => ?_) (fun _ => ?_)
  · refine go_widen (c2 := (167 + 2 * j + 1)) (s2 := (10310 + 8 * j + 6)) (by omega) (by omega) ?_
    refine go_sub (ls' := [(0, .retAddr 11), (1, .ref v1), (2, .ref v2), (3, .ref v3), (4, .int v4)]) [0, 1, 2, 3, 4] rfl ?_
    exact hk1617 q76.2 v1 v2 v3 v4
  · refine go_iconst (pc := 760) C dL_law_760 ki_0 ?_
    exact go_none _ _ _
set_option maxHeartbeats 4000000 in
theorem gL_law_J762 {Y : YT} {X : XT} {j : Nat} (hj : j ≤ 600) (C : CT Y X RL cL_law 8) (O : RO X 1000 601024 7293034) {r : Unit} {b L : Nat} {xs : Nat → Int32} (E : LX Y X b L xs) {k1617 : AH → Nat → Nat → Nat → Int32 → Option (Unit)} (hk1617 : ∀ (h : AH) (v1 : Nat) (v2 : Nat) (v3 : Nat) (v4 : Int32), GO Y X 8 r h (167 + 2 * j + 1) (10310 + 8 * j + 6) 1617 [(0, .retAddr 11), (1, .ref v1), (2, .ref v2), (3, .ref v3), (4, .int v4)] [] (k1617 h v1 v2 v3 v4)) : ∀ (h : AH) (v1 : Nat) (v2 : Nat) (v3 : Nat) (v4 : Int32), GO Y X 8 r h (167 + 2 * j + 0) (10310 + 8 * j + 0) 762 [(0, .retAddr 11), (1, .ref v1), (2, .ref v2), (3, .ref v3), (4, .int v4)] [] (fL_law_J762 xs L k1617 h v1 v2 v3 v4) := by
  intro h v1 v2 v3 v4
  unfold fL_law_J762
  refine go_aload_n (pc := 762) C 1 dL_law_762 rfl ?_
  refine go_sload_n (pc := 763) C 0 dL_law_763 rfl ?_
  refine go_iload (pc := 764) C 4 dL_law_764 rfl ?_
  refine go_iconst (pc := 766) C dL_law_766 ki_1 ?_
  refine go_iadd (pc := 767) C dL_law_767 ?_
  refine go_sld (pc := 768) C E dL_law_768 (fun x77 => ?_)
  refine go_bind (fun q78 hq78 => ?_)
  refine go_callV (rest := []) (st' := [.int q78.1]) (c' := (167 + 2 * j + 0)) (s' := (10310 + 8 * j + 0)) (pc := 769) C O miL_89 mvX10_tidies [.int x77] rfl (mX10_tidies hq78).1 (mX10_tidies hq78).2 dL_law_769 ⟨by decide, by decide, by omega, by omega⟩ rfl (Nat.le_of_ble_eq_true rfl) rfl ⟨by omega, by omega⟩ ?_
  refine go_aload_n (pc := 772) C 2 dL_law_772 rfl ?_
  refine go_sload_n (pc := 773) C 0 dL_law_773 rfl ?_
  refine go_iload (pc := 774) C 4 dL_law_774 rfl ?_
  refine go_iconst (pc := 776) C dL_law_776 ki_1 ?_
  refine go_iadd (pc := 777) C dL_law_777 ?_
  refine go_sld (pc := 778) C E dL_law_778 (fun x79 => ?_)
  refine go_bind (fun q80 hq80 => ?_)
  refine go_callV (rest := [.int q78.1]) (st' := [.int q80.1, .int q78.1]) (c' := (167 + 2 * j + 0)) (s' := (10310 + 8 * j + 0)) (pc := 779) C O miL_92 mvX11_tidies [.int x79] rfl (mX11_tidies hq80).1 (mX11_tidies hq80).2 dL_law_779 ⟨by decide, by decide, by omega, by omega⟩ rfl (Nat.le_of_ble_eq_true rfl) rfl ⟨by omega, by omega⟩ ?_
  refine go_icmp_eq (pc := 782) C 1617 dL_law_782 (by decide) (fun _ => ?_) (fun _ => ?_)
  · refine go_widen (c2 := (167 + 2 * j + 1)) (s2 := (10310 + 8 * j + 6)) (by omega) (by omega) ?_
    refine go_sub (ls' := [(0, .retAddr 11), (1, .ref v1), (2, .ref v2), (3, .ref v3), (4, .int v4)]) [0, 1, 2, 3, 4] rfl ?_
    exact hk1617 q80.2 v1 v2 v3 v4
  · refine go_iconst (pc := 785) C dL_law_785 ki_0 ?_
    exact go_none _ _ _
set_option maxHeartbeats 4000000 in
theorem gL_law_J787 {Y : YT} {X : XT} {j : Nat} (hj : j ≤ 600) (C : CT Y X RL cL_law 8) (O : RO X 1000 601024 7293034) {r : Unit} {b L : Nat} {xs : Nat → Int32} (E : LX Y X b L xs) {k1617 : AH → Nat → Nat → Nat → Int32 → Option (Unit)} (hk1617 : ∀ (h : AH) (v1 : Nat) (v2 : Nat) (v3 : Nat) (v4 : Int32), GO Y X 8 r h (167 + 2 * j + 1) (10310 + 8 * j + 6) 1617 [(0, .retAddr 11), (1, .ref v1), (2, .ref v2), (3, .ref v3), (4, .int v4)] [] (k1617 h v1 v2 v3 v4)) : ∀ (h : AH) (v1 : Nat) (v2 : Nat) (v3 : Nat) (v4 : Int32), GO Y X 8 r h (167 + 2 * j + 0) (10310 + 8 * j + 0) 787 [(0, .retAddr 11), (1, .ref v1), (2, .ref v2), (3, .ref v3), (4, .int v4)] [] (fL_law_J787 xs L k1617 h v1 v2 v3 v4) := by
  intro h v1 v2 v3 v4
  unfold fL_law_J787
  refine go_aload_n (pc := 787) C 1 dL_law_787 rfl ?_
  refine go_bind (fun q81 hq81 => ?_)
  refine go_callV (rest := []) (st' := [.int q81.1]) (c' := (167 + 2 * j + 0)) (s' := (10310 + 8 * j + 0)) (pc := 788) C O miL_93 mvX10_day [] rfl (mX10_day hq81).1 (mX10_day hq81).2 dL_law_788 ⟨by decide, by decide, by omega, by omega⟩ rfl (Nat.le_of_ble_eq_true rfl) rfl ⟨by omega, by omega⟩ ?_
  refine go_aload_n (pc := 791) C 2 dL_law_791 rfl ?_
  refine go_bind (fun q82 hq82 => ?_)
  refine go_callV (rest := [.int q81.1]) (st' := [.int q82.1, .int q81.1]) (c' := (167 + 2 * j + 0)) (s' := (10310 + 8 * j + 0)) (pc := 792) C O miL_96 mvX11_day [] rfl (mX11_day hq82).1 (mX11_day hq82).2 dL_law_792 ⟨by decide, by decide, by omega, by omega⟩ rfl (Nat.le_of_ble_eq_true rfl) rfl ⟨by omega, by omega⟩ ?_
  refine go_icmp_eq (pc := 795) C 1617 dL_law_795 (by decide) (fun _ => ?_) (fun _ => ?_)
  · refine go_widen (c2 := (167 + 2 * j + 1)) (s2 := (10310 + 8 * j + 6)) (by omega) (by omega) ?_
    refine go_sub (ls' := [(0, .retAddr 11), (1, .ref v1), (2, .ref v2), (3, .ref v3), (4, .int v4)]) [0, 1, 2, 3, 4] rfl ?_
    exact hk1617 q82.2 v1 v2 v3 v4
  · refine go_iconst (pc := 798) C dL_law_798 ki_0 ?_
    exact go_none _ _ _
set_option maxHeartbeats 4000000 in
theorem gL_law_J800 {Y : YT} {X : XT} {j : Nat} (hj : j ≤ 600) (C : CT Y X RL cL_law 8) (O : RO X 1000 601024 7293034) {r : Unit} {b L : Nat} {xs : Nat → Int32} (E : LX Y X b L xs) {k1617 : AH → Nat → Nat → Nat → Int32 → Option (Unit)} (hk1617 : ∀ (h : AH) (v1 : Nat) (v2 : Nat) (v3 : Nat) (v4 : Int32), GO Y X 8 r h (167 + 2 * j + 1) (10310 + 8 * j + 6) 1617 [(0, .retAddr 11), (1, .ref v1), (2, .ref v2), (3, .ref v3), (4, .int v4)] [] (k1617 h v1 v2 v3 v4)) : ∀ (h : AH) (v1 : Nat) (v2 : Nat) (v3 : Nat) (v4 : Int32), GO Y X 8 r h (167 + 2 * j + 0) (10310 + 8 * j + 0) 800 [(0, .retAddr 11), (1, .ref v1), (2, .ref v2), (3, .ref v3), (4, .int v4)] [] (fL_law_J800 xs L k1617 h v1 v2 v3 v4) := by
  intro h v1 v2 v3 v4
  unfold fL_law_J800
  refine go_aload_n (pc := 800) C 1 dL_law_800 rfl ?_
  refine go_bind (fun q83 hq83 => ?_)
  refine go_callV (rest := []) (st' := [.int q83.1]) (c' := (167 + 2 * j + 0)) (s' := (10310 + 8 * j + 0)) (pc := 801) C O miL_97 mvX10_undo [] rfl (mX10_undo hq83).1 (mX10_undo hq83).2 dL_law_801 ⟨by decide, by decide, by omega, by omega⟩ rfl (Nat.le_of_ble_eq_true rfl) rfl ⟨by omega, by omega⟩ ?_
  refine go_aload_n (pc := 804) C 2 dL_law_804 rfl ?_
  refine go_bind (fun q84 hq84 => ?_)
  refine go_callV (rest := [.int q83.1]) (st' := [.int q84.1, .int q83.1]) (c' := (167 + 2 * j + 0)) (s' := (10310 + 8 * j + 0)) (pc := 805) C O miL_100 mvX11_undo [] rfl (mX11_undo hq84).1 (mX11_undo hq84).2 dL_law_805 ⟨by decide, by decide, by omega, by omega⟩ rfl (Nat.le_of_ble_eq_true rfl) rfl ⟨by omega, by omega⟩ ?_
  refine go_icmp_eq (pc := 808) C 1617 dL_law_808 (by decide) (fun _ => ?_) (fun _ => ?_)
  · refine go_widen (c2 := (167 + 2 * j + 1)) (s2 := (10310 + 8 * j + 6)) (by omega) (by omega) ?_
    refine go_sub (ls' := [(0, .retAddr 11), (1, .ref v1), (2, .ref v2), (3, .ref v3), (4, .int v4)]) [0, 1, 2, 3, 4] rfl ?_
    exact hk1617 q84.2 v1 v2 v3 v4
  · refine go_iconst (pc := 811) C dL_law_811 ki_0 ?_
    exact go_none _ _ _
set_option maxHeartbeats 4000000 in
theorem gL_law_J813 {Y : YT} {X : XT} {j : Nat} (hj : j ≤ 600) (C : CT Y X RL cL_law 8) (O : RO X 1000 601024 7293034) {r : Unit} {b L : Nat} {xs : Nat → Int32} (E : LX Y X b L xs) {k1617 : AH → Nat → Nat → Nat → Int32 → Option (Unit)} (hk1617 : ∀ (h : AH) (v1 : Nat) (v2 : Nat) (v3 : Nat) (v4 : Int32), GO Y X 8 r h (167 + 2 * j + 1) (10310 + 8 * j + 6) 1617 [(0, .retAddr 11), (1, .ref v1), (2, .ref v2), (3, .ref v3), (4, .int v4)] [] (k1617 h v1 v2 v3 v4)) : ∀ (h : AH) (v1 : Nat) (v2 : Nat) (v3 : Nat) (v4 : Int32), GO Y X 8 r h (167 + 2 * j + 0) (10310 + 8 * j + 0) 813 [(0, .retAddr 11), (1, .ref v1), (2, .ref v2), (3, .ref v3), (4, .int v4)] [] (fL_law_J813 xs L k1617 h v1 v2 v3 v4) := by
  intro h v1 v2 v3 v4
  unfold fL_law_J813
  refine go_aload_n (pc := 813) C 1 dL_law_813 rfl ?_
  refine go_sload_n (pc := 814) C 0 dL_law_814 rfl ?_
  refine go_iload (pc := 815) C 4 dL_law_815 rfl ?_
  refine go_iconst (pc := 817) C dL_law_817 ki_1 ?_
  refine go_iadd (pc := 818) C dL_law_818 ?_
  refine go_sld (pc := 819) C E dL_law_819 (fun x85 => ?_)
  refine go_bind (fun q86 hq86 => ?_)
  refine go_callV (rest := []) (st' := [.int q86.1]) (c' := (167 + 2 * j + 0)) (s' := (10310 + 8 * j + 0)) (pc := 820) C O miL_101 mvX10_chain [.int x85] rfl (mX10_chain hq86).1 (mX10_chain hq86).2 dL_law_820 ⟨by decide, by decide, by omega, by omega⟩ rfl (Nat.le_of_ble_eq_true rfl) rfl ⟨by omega, by omega⟩ ?_
  refine go_aload_n (pc := 823) C 2 dL_law_823 rfl ?_
  refine go_sload_n (pc := 824) C 0 dL_law_824 rfl ?_
  refine go_iload (pc := 825) C 4 dL_law_825 rfl ?_
  refine go_iconst (pc := 827) C dL_law_827 ki_1 ?_
  refine go_iadd (pc := 828) C dL_law_828 ?_
  refine go_sld (pc := 829) C E dL_law_829 (fun x87 => ?_)
  refine go_bind (fun q88 hq88 => ?_)
  refine go_callV (rest := [.int q86.1]) (st' := [.int q88.1, .int q86.1]) (c' := (167 + 2 * j + 0)) (s' := (10310 + 8 * j + 0)) (pc := 830) C O miL_104 mvX11_chain [.int x87] rfl (mX11_chain hq88).1 (mX11_chain hq88).2 dL_law_830 ⟨by decide, by decide, by omega, by omega⟩ rfl (Nat.le_of_ble_eq_true rfl) rfl ⟨by omega, by omega⟩ ?_
  refine go_icmp_eq (pc := 833) C 1617 dL_law_833 (by decide) (fun _ => ?_) (fun _ => ?_)
  · refine go_widen (c2 := (167 + 2 * j + 1)) (s2 := (10310 + 8 * j + 6)) (by omega) (by omega) ?_
    refine go_sub (ls' := [(0, .retAddr 11), (1, .ref v1), (2, .ref v2), (3, .ref v3), (4, .int v4)]) [0, 1, 2, 3, 4] rfl ?_
    exact hk1617 q88.2 v1 v2 v3 v4
  · refine go_iconst (pc := 836) C dL_law_836 ki_0 ?_
    exact go_none _ _ _
set_option maxHeartbeats 4000000 in
theorem gL_law_J838 {Y : YT} {X : XT} {j : Nat} (hj : j ≤ 600) (C : CT Y X RL cL_law 8) (O : RO X 1000 601024 7293034) {r : Unit} {b L : Nat} {xs : Nat → Int32} (E : LX Y X b L xs) {k1617 : AH → Nat → Nat → Nat → Int32 → Option (Unit)} (hk1617 : ∀ (h : AH) (v1 : Nat) (v2 : Nat) (v3 : Nat) (v4 : Int32), GO Y X 8 r h (167 + 2 * j + 1) (10310 + 8 * j + 6) 1617 [(0, .retAddr 11), (1, .ref v1), (2, .ref v2), (3, .ref v3), (4, .int v4)] [] (k1617 h v1 v2 v3 v4)) : ∀ (h : AH) (v1 : Nat) (v2 : Nat) (v3 : Nat) (v4 : Int32), GO Y X 8 r h (167 + 2 * j + 0) (10310 + 8 * j + 0) 838 [(0, .retAddr 11), (1, .ref v1), (2, .ref v2), (3, .ref v3), (4, .int v4)] [] (fL_law_J838 xs L k1617 h v1 v2 v3 v4) := by
  intro h v1 v2 v3 v4
  unfold fL_law_J838
  refine go_aload_n (pc := 838) C 1 dL_law_838 rfl ?_
  refine go_sload_n (pc := 839) C 0 dL_law_839 rfl ?_
  refine go_iload (pc := 840) C 4 dL_law_840 rfl ?_
  refine go_iconst (pc := 842) C dL_law_842 ki_1 ?_
  refine go_iadd (pc := 843) C dL_law_843 ?_
  refine go_sld (pc := 844) C E dL_law_844 (fun x89 => ?_)
  refine go_sload_n (pc := 845) C 0 dL_law_845 rfl ?_
  refine go_iload (pc := 846) C 4 dL_law_846 rfl ?_
  refine go_iconst (pc := 848) C dL_law_848 ki_2 ?_
  refine go_iadd (pc := 849) C dL_law_849 ?_
  refine go_sld (pc := 850) C E dL_law_850 (fun x90 => ?_)
  refine go_bind (fun q91 hq91 => ?_)
  refine go_callV (rest := []) (st' := [.int q91.1]) (c' := (167 + 2 * j + 0)) (s' := (10310 + 8 * j + 0)) (pc := 851) C O miL_105 mvX10_peeks [.int x89, .int x90] rfl (mX10_peeks hq91).1 (mX10_peeks hq91).2 dL_law_851 ⟨by decide, by decide, by omega, by omega⟩ rfl (Nat.le_of_ble_eq_true rfl) rfl ⟨by omega, by omega⟩ ?_
  refine go_aload_n (pc := 854) C 2 dL_law_854 rfl ?_
  refine go_sload_n (pc := 855) C 0 dL_law_855 rfl ?_
  refine go_iload (pc := 856) C 4 dL_law_856 rfl ?_
  refine go_iconst (pc := 858) C dL_law_858 ki_1 ?_
  refine go_iadd (pc := 859) C dL_law_859 ?_
  refine go_sld (pc := 860) C E dL_law_860 (fun x92 => ?_)
  refine go_sload_n (pc := 861) C 0 dL_law_861 rfl ?_
  refine go_iload (pc := 862) C 4 dL_law_862 rfl ?_
  refine go_iconst (pc := 864) C dL_law_864 ki_2 ?_
  refine go_iadd (pc := 865) C dL_law_865 ?_
  refine go_sld (pc := 866) C E dL_law_866 (fun x93 => ?_)
  refine go_bind (fun q94 hq94 => ?_)
  refine go_callV (rest := [.int q91.1]) (st' := [.int q94.1, .int q91.1]) (c' := (167 + 2 * j + 0)) (s' := (10310 + 8 * j + 0)) (pc := 867) C O miL_108 mvX11_peeks [.int x92, .int x93] rfl (mX11_peeks hq94).1 (mX11_peeks hq94).2 dL_law_867 ⟨by decide, by decide, by omega, by omega⟩ rfl (Nat.le_of_ble_eq_true rfl) rfl ⟨by omega, by omega⟩ ?_
  refine go_icmp_eq (pc := 870) C 1617 dL_law_870 (by decide) (fun _ => ?_) (fun _ => ?_)
  · refine go_widen (c2 := (167 + 2 * j + 1)) (s2 := (10310 + 8 * j + 6)) (by omega) (by omega) ?_
    refine go_sub (ls' := [(0, .retAddr 11), (1, .ref v1), (2, .ref v2), (3, .ref v3), (4, .int v4)]) [0, 1, 2, 3, 4] rfl ?_
    exact hk1617 q94.2 v1 v2 v3 v4
  · refine go_iconst (pc := 873) C dL_law_873 ki_0 ?_
    exact go_none _ _ _
set_option maxHeartbeats 4000000 in
theorem gL_law_J875 {Y : YT} {X : XT} {j : Nat} (hj : j ≤ 600) (C : CT Y X RL cL_law 8) (O : RO X 1000 601024 7293034) {r : Unit} {b L : Nat} {xs : Nat → Int32} (E : LX Y X b L xs) {k1617 : AH → Nat → Nat → Nat → Int32 → Option (Unit)} (hk1617 : ∀ (h : AH) (v1 : Nat) (v2 : Nat) (v3 : Nat) (v4 : Int32), GO Y X 8 r h (167 + 2 * j + 1) (10310 + 8 * j + 6) 1617 [(0, .retAddr 11), (1, .ref v1), (2, .ref v2), (3, .ref v3), (4, .int v4)] [] (k1617 h v1 v2 v3 v4)) : ∀ (h : AH) (v1 : Nat) (v2 : Nat) (v3 : Nat) (v4 : Int32), GO Y X 8 r h (167 + 2 * j + 0) (10310 + 8 * j + 0) 875 [(0, .retAddr 11), (1, .ref v1), (2, .ref v2), (3, .ref v3), (4, .int v4)] [] (fL_law_J875 xs L k1617 h v1 v2 v3 v4) := by
  intro h v1 v2 v3 v4
  unfold fL_law_J875
  refine go_aload_n (pc := 875) C 1 dL_law_875 rfl ?_
  refine go_sload_n (pc := 876) C 0 dL_law_876 rfl ?_
  refine go_iload (pc := 877) C 4 dL_law_877 rfl ?_
  refine go_iconst (pc := 879) C dL_law_879 ki_1 ?_
  refine go_iadd (pc := 880) C dL_law_880 ?_
  refine go_sld (pc := 881) C E dL_law_881 (fun x95 => ?_)
  refine go_bind (fun q96 hq96 => ?_)
  refine go_callV (rest := []) (st' := [.int q96.1]) (c' := (167 + 2 * j + 0)) (s' := (10310 + 8 * j + 0)) (pc := 882) C O miL_109 mvX10_holders [.int x95] rfl (mX10_holders hq96).1 (mX10_holders hq96).2 dL_law_882 ⟨by decide, by decide, by omega, by omega⟩ rfl (Nat.le_of_ble_eq_true rfl) rfl ⟨by omega, by omega⟩ ?_
  refine go_aload_n (pc := 885) C 2 dL_law_885 rfl ?_
  refine go_sload_n (pc := 886) C 0 dL_law_886 rfl ?_
  refine go_iload (pc := 887) C 4 dL_law_887 rfl ?_
  refine go_iconst (pc := 889) C dL_law_889 ki_1 ?_
  refine go_iadd (pc := 890) C dL_law_890 ?_
  refine go_sld (pc := 891) C E dL_law_891 (fun x97 => ?_)
  refine go_bind (fun q98 hq98 => ?_)
  refine go_callV (rest := [.int q96.1]) (st' := [.int q98.1, .int q96.1]) (c' := (167 + 2 * j + 0)) (s' := (10310 + 8 * j + 0)) (pc := 892) C O miL_112 mvX11_holders [.int x97] rfl (mX11_holders hq98).1 (mX11_holders hq98).2 dL_law_892 ⟨by decide, by decide, by omega, by omega⟩ rfl (Nat.le_of_ble_eq_true rfl) rfl ⟨by omega, by omega⟩ ?_
  refine go_icmp_eq (pc := 895) C 1617 dL_law_895 (by decide) (fun _ => ?_) (fun _ => ?_)
  · refine go_widen (c2 := (167 + 2 * j + 1)) (s2 := (10310 + 8 * j + 6)) (by omega) (by omega) ?_
    refine go_sub (ls' := [(0, .retAddr 11), (1, .ref v1), (2, .ref v2), (3, .ref v3), (4, .int v4)]) [0, 1, 2, 3, 4] rfl ?_
    exact hk1617 q98.2 v1 v2 v3 v4
  · refine go_iconst (pc := 898) C dL_law_898 ki_0 ?_
    exact go_none _ _ _
set_option maxHeartbeats 4000000 in
theorem gL_law_J900 {Y : YT} {X : XT} {j : Nat} (hj : j ≤ 600) (C : CT Y X RL cL_law 8) (O : RO X 1000 601024 7293034) {r : Unit} {b L : Nat} {xs : Nat → Int32} (E : LX Y X b L xs) {k1617 : AH → Nat → Nat → Nat → Int32 → Option (Unit)} (hk1617 : ∀ (h : AH) (v1 : Nat) (v2 : Nat) (v3 : Nat) (v4 : Int32), GO Y X 8 r h (167 + 2 * j + 1) (10310 + 8 * j + 6) 1617 [(0, .retAddr 11), (1, .ref v1), (2, .ref v2), (3, .ref v3), (4, .int v4)] [] (k1617 h v1 v2 v3 v4)) : ∀ (h : AH) (v1 : Nat) (v2 : Nat) (v3 : Nat) (v4 : Int32), GO Y X 8 r h (167 + 2 * j + 0) (10310 + 8 * j + 0) 900 [(0, .retAddr 11), (1, .ref v1), (2, .ref v2), (3, .ref v3), (4, .int v4)] [] (fL_law_J900 xs L k1617 h v1 v2 v3 v4) := by
  intro h v1 v2 v3 v4
  unfold fL_law_J900
  refine go_aload_n (pc := 900) C 1 dL_law_900 rfl ?_
  refine go_sload_n (pc := 901) C 0 dL_law_901 rfl ?_
  refine go_iload (pc := 902) C 4 dL_law_902 rfl ?_
  refine go_iconst (pc := 904) C dL_law_904 ki_1 ?_
  refine go_iadd (pc := 905) C dL_law_905 ?_
  refine go_sld (pc := 906) C E dL_law_906 (fun x99 => ?_)
  refine go_sload_n (pc := 907) C 0 dL_law_907 rfl ?_
  refine go_iload (pc := 908) C 4 dL_law_908 rfl ?_
  refine go_iconst (pc := 910) C dL_law_910 ki_2 ?_
  refine go_iadd (pc := 911) C dL_law_911 ?_
  refine go_sld (pc := 912) C E dL_law_912 (fun x100 => ?_)
  refine go_bind (fun q101 hq101 => ?_)
  refine go_callV (rest := []) (st' := [.int q101.1]) (c' := (167 + 2 * j + 0)) (s' := (10310 + 8 * j + 0)) (pc := 913) C O miL_113 mvX10_shared [.int x99, .int x100] rfl (mX10_shared hq101).1 (mX10_shared hq101).2 dL_law_913 ⟨by decide, by decide, by omega, by omega⟩ rfl (Nat.le_of_ble_eq_true rfl) rfl ⟨by omega, by omega⟩ ?_
  refine go_aload_n (pc := 916) C 2 dL_law_916 rfl ?_
  refine go_sload_n (pc := 917) C 0 dL_law_917 rfl ?_
  refine go_iload (pc := 918) C 4 dL_law_918 rfl ?_
  refine go_iconst (pc := 920) C dL_law_920 ki_1 ?_
  refine go_iadd (pc := 921) C dL_law_921 ?_
  refine go_sld (pc := 922) C E dL_law_922 (fun x102 => ?_)
  refine go_sload_n (pc := 923) C 0 dL_law_923 rfl ?_
  refine go_iload (pc := 924) C 4 dL_law_924 rfl ?_
  refine go_iconst (pc := 926) C dL_law_926 ki_2 ?_
  refine go_iadd (pc := 927) C dL_law_927 ?_
  refine go_sld (pc := 928) C E dL_law_928 (fun x103 => ?_)
  refine go_bind (fun q104 hq104 => ?_)
  refine go_callV (rest := [.int q101.1]) (st' := [.int q104.1, .int q101.1]) (c' := (167 + 2 * j + 0)) (s' := (10310 + 8 * j + 0)) (pc := 929) C O miL_116 mvX11_shared [.int x102, .int x103] rfl (mX11_shared hq104).1 (mX11_shared hq104).2 dL_law_929 ⟨by decide, by decide, by omega, by omega⟩ rfl (Nat.le_of_ble_eq_true rfl) rfl ⟨by omega, by omega⟩ ?_
  refine go_icmp_eq (pc := 932) C 1617 dL_law_932 (by decide) (fun _ => ?_) (fun _ => ?_)
  · refine go_widen (c2 := (167 + 2 * j + 1)) (s2 := (10310 + 8 * j + 6)) (by omega) (by omega) ?_
    refine go_sub (ls' := [(0, .retAddr 11), (1, .ref v1), (2, .ref v2), (3, .ref v3), (4, .int v4)]) [0, 1, 2, 3, 4] rfl ?_
    exact hk1617 q104.2 v1 v2 v3 v4
  · refine go_iconst (pc := 935) C dL_law_935 ki_0 ?_
    exact go_none _ _ _
set_option maxHeartbeats 4000000 in
theorem gL_law_J937 {Y : YT} {X : XT} {j : Nat} (hj : j ≤ 600) (C : CT Y X RL cL_law 8) (O : RO X 1000 601024 7293034) {r : Unit} {b L : Nat} {xs : Nat → Int32} (E : LX Y X b L xs) {k1617 : AH → Nat → Nat → Nat → Int32 → Option (Unit)} (hk1617 : ∀ (h : AH) (v1 : Nat) (v2 : Nat) (v3 : Nat) (v4 : Int32), GO Y X 8 r h (167 + 2 * j + 1) (10310 + 8 * j + 6) 1617 [(0, .retAddr 11), (1, .ref v1), (2, .ref v2), (3, .ref v3), (4, .int v4)] [] (k1617 h v1 v2 v3 v4)) : ∀ (h : AH) (v1 : Nat) (v2 : Nat) (v3 : Nat) (v4 : Int32), GO Y X 8 r h (167 + 2 * j + 0) (10310 + 8 * j + 0) 937 [(0, .retAddr 11), (1, .ref v1), (2, .ref v2), (3, .ref v3), (4, .int v4)] [] (fL_law_J937 xs L k1617 h v1 v2 v3 v4) := by
  intro h v1 v2 v3 v4
  unfold fL_law_J937
  refine go_aload_n (pc := 937) C 1 dL_law_937 rfl ?_
  refine go_sload_n (pc := 938) C 0 dL_law_938 rfl ?_
  refine go_iload (pc := 939) C 4 dL_law_939 rfl ?_
  refine go_iconst (pc := 941) C dL_law_941 ki_1 ?_
  refine go_iadd (pc := 942) C dL_law_942 ?_
  refine go_sld (pc := 943) C E dL_law_943 (fun x105 => ?_)
  refine go_sload_n (pc := 944) C 0 dL_law_944 rfl ?_
  refine go_iload (pc := 945) C 4 dL_law_945 rfl ?_
  refine go_iconst (pc := 947) C dL_law_947 ki_2 ?_
  refine go_iadd (pc := 948) C dL_law_948 ?_
  refine go_sld (pc := 949) C E dL_law_949 (fun x106 => ?_)
  refine go_bind (fun q107 hq107 => ?_)
  refine go_callV (rest := []) (st' := [.int q107.1]) (c' := (167 + 2 * j + 0)) (s' := (10310 + 8 * j + 0)) (pc := 950) C O miL_117 mvX10_differ [.int x105, .int x106] rfl (mX10_differ hq107).1 (mX10_differ hq107).2 dL_law_950 ⟨by decide, by decide, by omega, by omega⟩ rfl (Nat.le_of_ble_eq_true rfl) rfl ⟨by omega, by omega⟩ ?_
  refine go_aload_n (pc := 953) C 2 dL_law_953 rfl ?_
  refine go_sload_n (pc := 954) C 0 dL_law_954 rfl ?_
  refine go_iload (pc := 955) C 4 dL_law_955 rfl ?_
  refine go_iconst (pc := 957) C dL_law_957 ki_1 ?_
  refine go_iadd (pc := 958) C dL_law_958 ?_
  refine go_sld (pc := 959) C E dL_law_959 (fun x108 => ?_)
  refine go_sload_n (pc := 960) C 0 dL_law_960 rfl ?_
  refine go_iload (pc := 961) C 4 dL_law_961 rfl ?_
  refine go_iconst (pc := 963) C dL_law_963 ki_2 ?_
  refine go_iadd (pc := 964) C dL_law_964 ?_
  refine go_sld (pc := 965) C E dL_law_965 (fun x109 => ?_)
  refine go_bind (fun q110 hq110 => ?_)
  refine go_callV (rest := [.int q107.1]) (st' := [.int q110.1, .int q107.1]) (c' := (167 + 2 * j + 0)) (s' := (10310 + 8 * j + 0)) (pc := 966) C O miL_120 mvX11_differ [.int x108, .int x109] rfl (mX11_differ hq110).1 (mX11_differ hq110).2 dL_law_966 ⟨by decide, by decide, by omega, by omega⟩ rfl (Nat.le_of_ble_eq_true rfl) rfl ⟨by omega, by omega⟩ ?_
  refine go_icmp_eq (pc := 969) C 1617 dL_law_969 (by decide) (fun _ => ?_) (fun _ => ?_)
  · refine go_widen (c2 := (167 + 2 * j + 1)) (s2 := (10310 + 8 * j + 6)) (by omega) (by omega) ?_
    refine go_sub (ls' := [(0, .retAddr 11), (1, .ref v1), (2, .ref v2), (3, .ref v3), (4, .int v4)]) [0, 1, 2, 3, 4] rfl ?_
    exact hk1617 q110.2 v1 v2 v3 v4
  · refine go_iconst (pc := 972) C dL_law_972 ki_0 ?_
    exact go_none _ _ _
set_option maxHeartbeats 4000000 in
theorem gL_law_J974 {Y : YT} {X : XT} {j : Nat} (hj : j ≤ 600) (C : CT Y X RL cL_law 8) (O : RO X 1000 601024 7293034) {r : Unit} {b L : Nat} {xs : Nat → Int32} (E : LX Y X b L xs) {k1617 : AH → Nat → Nat → Nat → Int32 → Option (Unit)} (hk1617 : ∀ (h : AH) (v1 : Nat) (v2 : Nat) (v3 : Nat) (v4 : Int32), GO Y X 8 r h (167 + 2 * j + 1) (10310 + 8 * j + 6) 1617 [(0, .retAddr 11), (1, .ref v1), (2, .ref v2), (3, .ref v3), (4, .int v4)] [] (k1617 h v1 v2 v3 v4)) : ∀ (h : AH) (v1 : Nat) (v2 : Nat) (v3 : Nat) (v4 : Int32), GO Y X 8 r h (167 + 2 * j + 0) (10310 + 8 * j + 0) 974 [(0, .retAddr 11), (1, .ref v1), (2, .ref v2), (3, .ref v3), (4, .int v4)] [] (fL_law_J974 xs L k1617 h v1 v2 v3 v4) := by
  intro h v1 v2 v3 v4
  unfold fL_law_J974
  refine go_aload_n (pc := 974) C 1 dL_law_974 rfl ?_
  refine go_sload_n (pc := 975) C 0 dL_law_975 rfl ?_
  refine go_iload (pc := 976) C 4 dL_law_976 rfl ?_
  refine go_iconst (pc := 978) C dL_law_978 ki_1 ?_
  refine go_iadd (pc := 979) C dL_law_979 ?_
  refine go_sld (pc := 980) C E dL_law_980 (fun x111 => ?_)
  refine go_sload_n (pc := 981) C 0 dL_law_981 rfl ?_
  refine go_iload (pc := 982) C 4 dL_law_982 rfl ?_
  refine go_iconst (pc := 984) C dL_law_984 ki_2 ?_
  refine go_iadd (pc := 985) C dL_law_985 ?_
  refine go_sld (pc := 986) C E dL_law_986 (fun x112 => ?_)
  refine go_bind (fun q113 hq113 => ?_)
  refine go_callV (rest := []) (st' := [.int q113.1]) (c' := (167 + 2 * j + 0)) (s' := (10310 + 8 * j + 0)) (pc := 987) C O miL_121 mvX10_common [.int x111, .int x112] rfl (mX10_common hq113).1 (mX10_common hq113).2 dL_law_987 ⟨by decide, by decide, by omega, by omega⟩ rfl (Nat.le_of_ble_eq_true rfl) rfl ⟨by omega, by omega⟩ ?_
  refine go_aload_n (pc := 990) C 2 dL_law_990 rfl ?_
  refine go_sload_n (pc := 991) C 0 dL_law_991 rfl ?_
  refine go_iload (pc := 992) C 4 dL_law_992 rfl ?_
  refine go_iconst (pc := 994) C dL_law_994 ki_1 ?_
  refine go_iadd (pc := 995) C dL_law_995 ?_
  refine go_sld (pc := 996) C E dL_law_996 (fun x114 => ?_)
  refine go_sload_n (pc := 997) C 0 dL_law_997 rfl ?_
  refine go_iload (pc := 998) C 4 dL_law_998 rfl ?_
  refine go_iconst (pc := 1000) C dL_law_1000 ki_2 ?_
  refine go_iadd (pc := 1001) C dL_law_1001 ?_
  refine go_sld (pc := 1002) C E dL_law_1002 (fun x115 => ?_)
  refine go_bind (fun q116 hq116 => ?_)
  refine go_callV (rest := [.int q113.1]) (st' := [.int q116.1, .int q113.1]) (c' := (167 + 2 * j + 0)) (s' := (10310 + 8 * j + 0)) (pc := 1003) C O miL_124 mvX11_common [.int x114, .int x115] rfl (mX11_common hq116).1 (mX11_common hq116).2 dL_law_1003 ⟨by decide, by decide, by omega, by omega⟩ rfl (Nat.le_of_ble_eq_true rfl) rfl ⟨by omega, by omega⟩ ?_
  refine go_icmp_eq (pc := 1006) C 1617 dL_law_1006 (by decide) (fun _ => ?_) (fun _ => ?_)
  · refine go_widen (c2 := (167 + 2 * j + 1)) (s2 := (10310 + 8 * j + 6)) (by omega) (by omega) ?_
    refine go_sub (ls' := [(0, .retAddr 11), (1, .ref v1), (2, .ref v2), (3, .ref v3), (4, .int v4)]) [0, 1, 2, 3, 4] rfl ?_
    exact hk1617 q116.2 v1 v2 v3 v4
  · refine go_iconst (pc := 1009) C dL_law_1009 ki_0 ?_
    exact go_none _ _ _
set_option maxHeartbeats 4000000 in
theorem gL_law_J1011 {Y : YT} {X : XT} {j : Nat} (hj : j ≤ 600) (C : CT Y X RL cL_law 8) (O : RO X 1000 601024 7293034) {r : Unit} {b L : Nat} {xs : Nat → Int32} (E : LX Y X b L xs) {k1617 : AH → Nat → Nat → Nat → Int32 → Option (Unit)} (hk1617 : ∀ (h : AH) (v1 : Nat) (v2 : Nat) (v3 : Nat) (v4 : Int32), GO Y X 8 r h (167 + 2 * j + 1) (10310 + 8 * j + 6) 1617 [(0, .retAddr 11), (1, .ref v1), (2, .ref v2), (3, .ref v3), (4, .int v4)] [] (k1617 h v1 v2 v3 v4)) : ∀ (h : AH) (v1 : Nat) (v2 : Nat) (v3 : Nat) (v4 : Int32), GO Y X 8 r h (167 + 2 * j + 0) (10310 + 8 * j + 0) 1011 [(0, .retAddr 11), (1, .ref v1), (2, .ref v2), (3, .ref v3), (4, .int v4)] [] (fL_law_J1011 xs L k1617 h v1 v2 v3 v4) := by
  intro h v1 v2 v3 v4
  unfold fL_law_J1011
  refine go_aload_n (pc := 1011) C 1 dL_law_1011 rfl ?_
  refine go_bind (fun q117 hq117 => ?_)
  refine go_callV (rest := []) (st' := [.int q117.1]) (c' := (167 + 2 * j + 0)) (s' := (10310 + 8 * j + 0)) (pc := 1012) C O miL_125 mvX10_hidden [] rfl (mX10_hidden hq117).1 (mX10_hidden hq117).2 dL_law_1012 ⟨by decide, by decide, by omega, by omega⟩ rfl (Nat.le_of_ble_eq_true rfl) rfl ⟨by omega, by omega⟩ ?_
  refine go_aload_n (pc := 1015) C 2 dL_law_1015 rfl ?_
  refine go_bind (fun q118 hq118 => ?_)
  refine go_callV (rest := [.int q117.1]) (st' := [.int q118.1, .int q117.1]) (c' := (167 + 2 * j + 0)) (s' := (10310 + 8 * j + 0)) (pc := 1016) C O miL_128 mvX11_hidden [] rfl (mX11_hidden hq118).1 (mX11_hidden hq118).2 dL_law_1016 ⟨by decide, by decide, by omega, by omega⟩ rfl (Nat.le_of_ble_eq_true rfl) rfl ⟨by omega, by omega⟩ ?_
  refine go_icmp_eq (pc := 1019) C 1617 dL_law_1019 (by decide) (fun _ => ?_) (fun _ => ?_)
  · refine go_widen (c2 := (167 + 2 * j + 1)) (s2 := (10310 + 8 * j + 6)) (by omega) (by omega) ?_
    refine go_sub (ls' := [(0, .retAddr 11), (1, .ref v1), (2, .ref v2), (3, .ref v3), (4, .int v4)]) [0, 1, 2, 3, 4] rfl ?_
    exact hk1617 q118.2 v1 v2 v3 v4
  · refine go_iconst (pc := 1022) C dL_law_1022 ki_0 ?_
    exact go_none _ _ _
set_option maxHeartbeats 4000000 in
theorem gL_law_J1024 {Y : YT} {X : XT} {j : Nat} (hj : j ≤ 600) (C : CT Y X RL cL_law 8) (O : RO X 1000 601024 7293034) {r : Unit} {b L : Nat} {xs : Nat → Int32} (E : LX Y X b L xs) {k1617 : AH → Nat → Nat → Nat → Int32 → Option (Unit)} (hk1617 : ∀ (h : AH) (v1 : Nat) (v2 : Nat) (v3 : Nat) (v4 : Int32), GO Y X 8 r h (167 + 2 * j + 1) (10310 + 8 * j + 6) 1617 [(0, .retAddr 11), (1, .ref v1), (2, .ref v2), (3, .ref v3), (4, .int v4)] [] (k1617 h v1 v2 v3 v4)) : ∀ (h : AH) (v1 : Nat) (v2 : Nat) (v3 : Nat) (v4 : Int32), GO Y X 8 r h (167 + 2 * j + 0) (10310 + 8 * j + 0) 1024 [(0, .retAddr 11), (1, .ref v1), (2, .ref v2), (3, .ref v3), (4, .int v4)] [] (fL_law_J1024 xs L k1617 h v1 v2 v3 v4) := by
  intro h v1 v2 v3 v4
  unfold fL_law_J1024
  refine go_aload_n (pc := 1024) C 1 dL_law_1024 rfl ?_
  refine go_bind (fun q119 hq119 => ?_)
  refine go_callV (rest := []) (st' := [.int q119.1]) (c' := (167 + 2 * j + 0)) (s' := (10310 + 8 * j + 0)) (pc := 1025) C O miL_129 mvX10_frames [] rfl (mX10_frames hq119).1 (mX10_frames hq119).2 dL_law_1025 ⟨by decide, by decide, by omega, by omega⟩ rfl (Nat.le_of_ble_eq_true rfl) rfl ⟨by omega, by omega⟩ ?_
  refine go_aload_n (pc := 1028) C 2 dL_law_1028 rfl ?_
  refine go_bind (fun q120 hq120 => ?_)
  refine go_callV (rest := [.int q119.1]) (st' := [.int q120.1, .int q119.1]) (c' := (167 + 2 * j + 0)) (s' := (10310 + 8 * j + 0)) (pc := 1029) C O miL_132 mvX11_frames [] rfl (mX11_frames hq120).1 (mX11_frames hq120).2 dL_law_1029 ⟨by decide, by decide, by omega, by omega⟩ rfl (Nat.le_of_ble_eq_true rfl) rfl ⟨by omega, by omega⟩ ?_
  refine go_icmp_eq (pc := 1032) C 1617 dL_law_1032 (by decide) (fun _ => ?_) (fun _ => ?_)
  · refine go_widen (c2 := (167 + 2 * j + 1)) (s2 := (10310 + 8 * j + 6)) (by omega) (by omega) ?_
    refine go_sub (ls' := [(0, .retAddr 11), (1, .ref v1), (2, .ref v2), (3, .ref v3), (4, .int v4)]) [0, 1, 2, 3, 4] rfl ?_
    exact hk1617 q120.2 v1 v2 v3 v4
  · refine go_iconst (pc := 1035) C dL_law_1035 ki_0 ?_
    exact go_none _ _ _
set_option maxHeartbeats 4000000 in
theorem gL_law_J1037 {Y : YT} {X : XT} {j : Nat} (hj : j ≤ 600) (C : CT Y X RL cL_law 8) (O : RO X 1000 601024 7293034) {r : Unit} {b L : Nat} {xs : Nat → Int32} (E : LX Y X b L xs) {k1617 : AH → Nat → Nat → Nat → Int32 → Option (Unit)} (hk1617 : ∀ (h : AH) (v1 : Nat) (v2 : Nat) (v3 : Nat) (v4 : Int32), GO Y X 8 r h (167 + 2 * j + 1) (10310 + 8 * j + 6) 1617 [(0, .retAddr 11), (1, .ref v1), (2, .ref v2), (3, .ref v3), (4, .int v4)] [] (k1617 h v1 v2 v3 v4)) : ∀ (h : AH) (v1 : Nat) (v2 : Nat) (v3 : Nat) (v4 : Int32), GO Y X 8 r h (167 + 2 * j + 0) (10310 + 8 * j + 0) 1037 [(0, .retAddr 11), (1, .ref v1), (2, .ref v2), (3, .ref v3), (4, .int v4)] [] (fL_law_J1037 xs L k1617 h v1 v2 v3 v4) := by
  intro h v1 v2 v3 v4
  unfold fL_law_J1037
  refine go_aload_n (pc := 1037) C 1 dL_law_1037 rfl ?_
  refine go_bind (fun q121 hq121 => ?_)
  refine go_callV (rest := []) (st' := [.int q121.1]) (c' := (167 + 2 * j + 0)) (s' := (10310 + 8 * j + 0)) (pc := 1038) C O miL_133 mvX10_deepest [] rfl (mX10_deepest hq121).1 (mX10_deepest hq121).2 dL_law_1038 ⟨by decide, by decide, by omega, by omega⟩ rfl (Nat.le_of_ble_eq_true rfl) rfl ⟨by omega, by omega⟩ ?_
  refine go_aload_n (pc := 1041) C 2 dL_law_1041 rfl ?_
  refine go_bind (fun q122 hq122 => ?_)
  refine go_callV (rest := [.int q121.1]) (st' := [.int q122.1, .int q121.1]) (c' := (167 + 2 * j + 0)) (s' := (10310 + 8 * j + 0)) (pc := 1042) C O miL_136 mvX11_deepest [] rfl (mX11_deepest hq122).1 (mX11_deepest hq122).2 dL_law_1042 ⟨by decide, by decide, by omega, by omega⟩ rfl (Nat.le_of_ble_eq_true rfl) rfl ⟨by omega, by omega⟩ ?_
  refine go_icmp_eq (pc := 1045) C 1617 dL_law_1045 (by decide) (fun _ => ?_) (fun _ => ?_)
  · refine go_widen (c2 := (167 + 2 * j + 1)) (s2 := (10310 + 8 * j + 6)) (by omega) (by omega) ?_
    refine go_sub (ls' := [(0, .retAddr 11), (1, .ref v1), (2, .ref v2), (3, .ref v3), (4, .int v4)]) [0, 1, 2, 3, 4] rfl ?_
    exact hk1617 q122.2 v1 v2 v3 v4
  · refine go_iconst (pc := 1048) C dL_law_1048 ki_0 ?_
    exact go_none _ _ _
set_option maxHeartbeats 4000000 in
theorem gL_law_J1050 {Y : YT} {X : XT} {j : Nat} (hj : j ≤ 600) (C : CT Y X RL cL_law 8) (O : RO X 1000 601024 7293034) {r : Unit} {b L : Nat} {xs : Nat → Int32} (E : LX Y X b L xs) {k1617 : AH → Nat → Nat → Nat → Int32 → Option (Unit)} (hk1617 : ∀ (h : AH) (v1 : Nat) (v2 : Nat) (v3 : Nat) (v4 : Int32), GO Y X 8 r h (167 + 2 * j + 1) (10310 + 8 * j + 6) 1617 [(0, .retAddr 11), (1, .ref v1), (2, .ref v2), (3, .ref v3), (4, .int v4)] [] (k1617 h v1 v2 v3 v4)) : ∀ (h : AH) (v1 : Nat) (v2 : Nat) (v3 : Nat) (v4 : Int32), GO Y X 8 r h (167 + 2 * j + 0) (10310 + 8 * j + 0) 1050 [(0, .retAddr 11), (1, .ref v1), (2, .ref v2), (3, .ref v3), (4, .int v4)] [] (fL_law_J1050 xs L k1617 h v1 v2 v3 v4) := by
  intro h v1 v2 v3 v4
  unfold fL_law_J1050
  refine go_aload_n (pc := 1050) C 1 dL_law_1050 rfl ?_
  refine go_sload_n (pc := 1051) C 0 dL_law_1051 rfl ?_
  refine go_iload (pc := 1052) C 4 dL_law_1052 rfl ?_
  refine go_iconst (pc := 1054) C dL_law_1054 ki_1 ?_
  refine go_iadd (pc := 1055) C dL_law_1055 ?_
  refine go_sld (pc := 1056) C E dL_law_1056 (fun x123 => ?_)
  refine go_bind (fun q124 hq124 => ?_)
  refine go_callV (rest := []) (st' := [.int q124.1]) (c' := (167 + 2 * j + 0)) (s' := (10310 + 8 * j + 0)) (pc := 1057) C O miL_137 mvX10_would [.int x123] rfl (mX10_would hq124).1 (mX10_would hq124).2 dL_law_1057 ⟨by decide, by decide, by omega, by omega⟩ rfl (Nat.le_of_ble_eq_true rfl) rfl ⟨by omega, by omega⟩ ?_
  refine go_aload_n (pc := 1060) C 2 dL_law_1060 rfl ?_
  refine go_sload_n (pc := 1061) C 0 dL_law_1061 rfl ?_
  refine go_iload (pc := 1062) C 4 dL_law_1062 rfl ?_
  refine go_iconst (pc := 1064) C dL_law_1064 ki_1 ?_
  refine go_iadd (pc := 1065) C dL_law_1065 ?_
  refine go_sld (pc := 1066) C E dL_law_1066 (fun x125 => ?_)
  refine go_bind (fun q126 hq126 => ?_)
  refine go_callV (rest := [.int q124.1]) (st' := [.int q126.1, .int q124.1]) (c' := (167 + 2 * j + 0)) (s' := (10310 + 8 * j + 0)) (pc := 1067) C O miL_140 mvX11_would [.int x125] rfl (mX11_would hq126).1 (mX11_would hq126).2 dL_law_1067 ⟨by decide, by decide, by omega, by omega⟩ rfl (Nat.le_of_ble_eq_true rfl) rfl ⟨by omega, by omega⟩ ?_
  refine go_icmp_eq (pc := 1070) C 1617 dL_law_1070 (by decide) (fun _ => ?_) (fun _ => ?_)
  · refine go_widen (c2 := (167 + 2 * j + 1)) (s2 := (10310 + 8 * j + 6)) (by omega) (by omega) ?_
    refine go_sub (ls' := [(0, .retAddr 11), (1, .ref v1), (2, .ref v2), (3, .ref v3), (4, .int v4)]) [0, 1, 2, 3, 4] rfl ?_
    exact hk1617 q126.2 v1 v2 v3 v4
  · refine go_iconst (pc := 1073) C dL_law_1073 ki_0 ?_
    exact go_none _ _ _
set_option maxHeartbeats 4000000 in
theorem gL_law_J1075 {Y : YT} {X : XT} {j : Nat} (hj : j ≤ 600) (C : CT Y X RL cL_law 8) (O : RO X 1000 601024 7293034) {r : Unit} {b L : Nat} {xs : Nat → Int32} (E : LX Y X b L xs) {k1617 : AH → Nat → Nat → Nat → Int32 → Option (Unit)} (hk1617 : ∀ (h : AH) (v1 : Nat) (v2 : Nat) (v3 : Nat) (v4 : Int32), GO Y X 8 r h (167 + 2 * j + 1) (10310 + 8 * j + 6) 1617 [(0, .retAddr 11), (1, .ref v1), (2, .ref v2), (3, .ref v3), (4, .int v4)] [] (k1617 h v1 v2 v3 v4)) : ∀ (h : AH) (v1 : Nat) (v2 : Nat) (v3 : Nat) (v4 : Int32), GO Y X 8 r h (167 + 2 * j + 0) (10310 + 8 * j + 0) 1075 [(0, .retAddr 11), (1, .ref v1), (2, .ref v2), (3, .ref v3), (4, .int v4)] [] (fL_law_J1075 xs L k1617 h v1 v2 v3 v4) := by
  intro h v1 v2 v3 v4
  unfold fL_law_J1075
  refine go_aload_n (pc := 1075) C 1 dL_law_1075 rfl ?_
  refine go_sload_n (pc := 1076) C 0 dL_law_1076 rfl ?_
  refine go_iload (pc := 1077) C 4 dL_law_1077 rfl ?_
  refine go_iconst (pc := 1079) C dL_law_1079 ki_1 ?_
  refine go_iadd (pc := 1080) C dL_law_1080 ?_
  refine go_sld (pc := 1081) C E dL_law_1081 (fun x127 => ?_)
  refine go_bind (fun q128 hq128 => ?_)
  refine go_callV (rest := []) (st' := [.int q128.1]) (c' := (167 + 2 * j + 0)) (s' := (10310 + 8 * j + 0)) (pc := 1082) C O miL_141 mvX10_frees [.int x127] rfl (mX10_frees hq128).1 (mX10_frees hq128).2 dL_law_1082 ⟨by decide, by decide, by omega, by omega⟩ rfl (Nat.le_of_ble_eq_true rfl) rfl ⟨by omega, by omega⟩ ?_
  refine go_aload_n (pc := 1085) C 2 dL_law_1085 rfl ?_
  refine go_sload_n (pc := 1086) C 0 dL_law_1086 rfl ?_
  refine go_iload (pc := 1087) C 4 dL_law_1087 rfl ?_
  refine go_iconst (pc := 1089) C dL_law_1089 ki_1 ?_
  refine go_iadd (pc := 1090) C dL_law_1090 ?_
  refine go_sld (pc := 1091) C E dL_law_1091 (fun x129 => ?_)
  refine go_bind (fun q130 hq130 => ?_)
  refine go_callV (rest := [.int q128.1]) (st' := [.int q130.1, .int q128.1]) (c' := (167 + 2 * j + 0)) (s' := (10310 + 8 * j + 0)) (pc := 1092) C O miL_144 mvX11_frees [.int x129] rfl (mX11_frees hq130).1 (mX11_frees hq130).2 dL_law_1092 ⟨by decide, by decide, by omega, by omega⟩ rfl (Nat.le_of_ble_eq_true rfl) rfl ⟨by omega, by omega⟩ ?_
  refine go_icmp_eq (pc := 1095) C 1617 dL_law_1095 (by decide) (fun _ => ?_) (fun _ => ?_)
  · refine go_widen (c2 := (167 + 2 * j + 1)) (s2 := (10310 + 8 * j + 6)) (by omega) (by omega) ?_
    refine go_sub (ls' := [(0, .retAddr 11), (1, .ref v1), (2, .ref v2), (3, .ref v3), (4, .int v4)]) [0, 1, 2, 3, 4] rfl ?_
    exact hk1617 q130.2 v1 v2 v3 v4
  · refine go_iconst (pc := 1098) C dL_law_1098 ki_0 ?_
    exact go_none _ _ _
set_option maxHeartbeats 4000000 in
theorem gL_law_J1100 {Y : YT} {X : XT} {j : Nat} (hj : j ≤ 600) (C : CT Y X RL cL_law 8) (O : RO X 1000 601024 7293034) {r : Unit} {b L : Nat} {xs : Nat → Int32} (E : LX Y X b L xs) {k1617 : AH → Nat → Nat → Nat → Int32 → Option (Unit)} (hk1617 : ∀ (h : AH) (v1 : Nat) (v2 : Nat) (v3 : Nat) (v4 : Int32), GO Y X 8 r h (167 + 2 * j + 1) (10310 + 8 * j + 6) 1617 [(0, .retAddr 11), (1, .ref v1), (2, .ref v2), (3, .ref v3), (4, .int v4)] [] (k1617 h v1 v2 v3 v4)) : ∀ (h : AH) (v1 : Nat) (v2 : Nat) (v3 : Nat) (v4 : Int32), GO Y X 8 r h (167 + 2 * j + 0) (10310 + 8 * j + 0) 1100 [(0, .retAddr 11), (1, .ref v1), (2, .ref v2), (3, .ref v3), (4, .int v4)] [] (fL_law_J1100 xs L k1617 h v1 v2 v3 v4) := by
  intro h v1 v2 v3 v4
  unfold fL_law_J1100
  refine go_aload_n (pc := 1100) C 1 dL_law_1100 rfl ?_
  refine go_sload_n (pc := 1101) C 0 dL_law_1101 rfl ?_
  refine go_iload (pc := 1102) C 4 dL_law_1102 rfl ?_
  refine go_iconst (pc := 1104) C dL_law_1104 ki_1 ?_
  refine go_iadd (pc := 1105) C dL_law_1105 ?_
  refine go_sld (pc := 1106) C E dL_law_1106 (fun x131 => ?_)
  refine go_sload_n (pc := 1107) C 0 dL_law_1107 rfl ?_
  refine go_iload (pc := 1108) C 4 dL_law_1108 rfl ?_
  refine go_iconst (pc := 1110) C dL_law_1110 ki_2 ?_
  refine go_iadd (pc := 1111) C dL_law_1111 ?_
  refine go_sld (pc := 1112) C E dL_law_1112 (fun x132 => ?_)
  refine go_bind (fun q133 hq133 => ?_)
  refine go_callV (rest := []) (st' := [.int q133.1]) (c' := (167 + 2 * j + 0)) (s' := (10310 + 8 * j + 0)) (pc := 1113) C O miL_145 mvX10_storm [.int x131, .int x132] rfl (mX10_storm hq133).1 (mX10_storm hq133).2 dL_law_1113 ⟨by decide, by decide, by omega, by omega⟩ rfl (Nat.le_of_ble_eq_true rfl) rfl ⟨by omega, by omega⟩ ?_
  refine go_aload_n (pc := 1116) C 2 dL_law_1116 rfl ?_
  refine go_sload_n (pc := 1117) C 0 dL_law_1117 rfl ?_
  refine go_iload (pc := 1118) C 4 dL_law_1118 rfl ?_
  refine go_iconst (pc := 1120) C dL_law_1120 ki_1 ?_
  refine go_iadd (pc := 1121) C dL_law_1121 ?_
  refine go_sld (pc := 1122) C E dL_law_1122 (fun x134 => ?_)
  refine go_sload_n (pc := 1123) C 0 dL_law_1123 rfl ?_
  refine go_iload (pc := 1124) C 4 dL_law_1124 rfl ?_
  refine go_iconst (pc := 1126) C dL_law_1126 ki_2 ?_
  refine go_iadd (pc := 1127) C dL_law_1127 ?_
  refine go_sld (pc := 1128) C E dL_law_1128 (fun x135 => ?_)
  refine go_bind (fun q136 hq136 => ?_)
  refine go_callV (rest := [.int q133.1]) (st' := [.int q136.1, .int q133.1]) (c' := (167 + 2 * j + 0)) (s' := (10310 + 8 * j + 0)) (pc := 1129) C O miL_148 mvX11_storm [.int x134, .int x135] rfl (mX11_storm hq136).1 (mX11_storm hq136).2 dL_law_1129 ⟨by decide, by decide, by omega, by omega⟩ rfl (Nat.le_of_ble_eq_true rfl) rfl ⟨by omega, by omega⟩ ?_
  refine go_icmp_eq (pc := 1132) C 1617 dL_law_1132 (by decide) (fun _ => ?_) (fun _ => ?_)
  · refine go_widen (c2 := (167 + 2 * j + 1)) (s2 := (10310 + 8 * j + 6)) (by omega) (by omega) ?_
    refine go_sub (ls' := [(0, .retAddr 11), (1, .ref v1), (2, .ref v2), (3, .ref v3), (4, .int v4)]) [0, 1, 2, 3, 4] rfl ?_
    exact hk1617 q136.2 v1 v2 v3 v4
  · refine go_iconst (pc := 1135) C dL_law_1135 ki_0 ?_
    exact go_none _ _ _
set_option maxHeartbeats 4000000 in
theorem gL_law_J1137 {Y : YT} {X : XT} {j : Nat} (hj : j ≤ 600) (C : CT Y X RL cL_law 8) (O : RO X 1000 601024 7293034) {r : Unit} {b L : Nat} {xs : Nat → Int32} (E : LX Y X b L xs) {k1617 : AH → Nat → Nat → Nat → Int32 → Option (Unit)} (hk1617 : ∀ (h : AH) (v1 : Nat) (v2 : Nat) (v3 : Nat) (v4 : Int32), GO Y X 8 r h (167 + 2 * j + 1) (10310 + 8 * j + 6) 1617 [(0, .retAddr 11), (1, .ref v1), (2, .ref v2), (3, .ref v3), (4, .int v4)] [] (k1617 h v1 v2 v3 v4)) : ∀ (h : AH) (v1 : Nat) (v2 : Nat) (v3 : Nat) (v4 : Int32), GO Y X 8 r h (167 + 2 * j + 0) (10310 + 8 * j + 0) 1137 [(0, .retAddr 11), (1, .ref v1), (2, .ref v2), (3, .ref v3), (4, .int v4)] [] (fL_law_J1137 xs L k1617 h v1 v2 v3 v4) := by
  intro h v1 v2 v3 v4
  unfold fL_law_J1137
  refine go_aload_n (pc := 1137) C 1 dL_law_1137 rfl ?_
  refine go_sload_n (pc := 1138) C 0 dL_law_1138 rfl ?_
  refine go_iload (pc := 1139) C 4 dL_law_1139 rfl ?_
  refine go_iconst (pc := 1141) C dL_law_1141 ki_1 ?_
  refine go_iadd (pc := 1142) C dL_law_1142 ?_
  refine go_sld (pc := 1143) C E dL_law_1143 (fun x137 => ?_)
  refine go_sload_n (pc := 1144) C 0 dL_law_1144 rfl ?_
  refine go_iload (pc := 1145) C 4 dL_law_1145 rfl ?_
  refine go_iconst (pc := 1147) C dL_law_1147 ki_2 ?_
  refine go_iadd (pc := 1148) C dL_law_1148 ?_
  refine go_sld (pc := 1149) C E dL_law_1149 (fun x138 => ?_)
  refine go_bind (fun q139 hq139 => ?_)
  refine go_callV (rest := []) (st' := [.int q139.1]) (c' := (167 + 2 * j + 0)) (s' := (10310 + 8 * j + 0)) (pc := 1150) C O miL_149 mvX10_sweep [.int x137, .int x138] rfl (mX10_sweep hq139).1 (mX10_sweep hq139).2 dL_law_1150 ⟨by decide, by decide, by omega, by omega⟩ rfl (Nat.le_of_ble_eq_true rfl) rfl ⟨by omega, by omega⟩ ?_
  refine go_aload_n (pc := 1153) C 2 dL_law_1153 rfl ?_
  refine go_sload_n (pc := 1154) C 0 dL_law_1154 rfl ?_
  refine go_iload (pc := 1155) C 4 dL_law_1155 rfl ?_
  refine go_iconst (pc := 1157) C dL_law_1157 ki_1 ?_
  refine go_iadd (pc := 1158) C dL_law_1158 ?_
  refine go_sld (pc := 1159) C E dL_law_1159 (fun x140 => ?_)
  refine go_sload_n (pc := 1160) C 0 dL_law_1160 rfl ?_
  refine go_iload (pc := 1161) C 4 dL_law_1161 rfl ?_
  refine go_iconst (pc := 1163) C dL_law_1163 ki_2 ?_
  refine go_iadd (pc := 1164) C dL_law_1164 ?_
  refine go_sld (pc := 1165) C E dL_law_1165 (fun x141 => ?_)
  refine go_bind (fun q142 hq142 => ?_)
  refine go_callV (rest := [.int q139.1]) (st' := [.int q142.1, .int q139.1]) (c' := (167 + 2 * j + 0)) (s' := (10310 + 8 * j + 0)) (pc := 1166) C O miL_152 mvX11_sweep [.int x140, .int x141] rfl (mX11_sweep hq142).1 (mX11_sweep hq142).2 dL_law_1166 ⟨by decide, by decide, by omega, by omega⟩ rfl (Nat.le_of_ble_eq_true rfl) rfl ⟨by omega, by omega⟩ ?_
  refine go_icmp_eq (pc := 1169) C 1617 dL_law_1169 (by decide) (fun _ => ?_) (fun _ => ?_)
  · refine go_widen (c2 := (167 + 2 * j + 1)) (s2 := (10310 + 8 * j + 6)) (by omega) (by omega) ?_
    refine go_sub (ls' := [(0, .retAddr 11), (1, .ref v1), (2, .ref v2), (3, .ref v3), (4, .int v4)]) [0, 1, 2, 3, 4] rfl ?_
    exact hk1617 q142.2 v1 v2 v3 v4
  · refine go_iconst (pc := 1172) C dL_law_1172 ki_0 ?_
    exact go_none _ _ _
set_option maxHeartbeats 4000000 in
theorem gL_law_J1174 {Y : YT} {X : XT} {j : Nat} (hj : j ≤ 600) (C : CT Y X RL cL_law 8) (O : RO X 1000 601024 7293034) {r : Unit} {b L : Nat} {xs : Nat → Int32} (E : LX Y X b L xs) {k1617 : AH → Nat → Nat → Nat → Int32 → Option (Unit)} (hk1617 : ∀ (h : AH) (v1 : Nat) (v2 : Nat) (v3 : Nat) (v4 : Int32), GO Y X 8 r h (167 + 2 * j + 1) (10310 + 8 * j + 6) 1617 [(0, .retAddr 11), (1, .ref v1), (2, .ref v2), (3, .ref v3), (4, .int v4)] [] (k1617 h v1 v2 v3 v4)) : ∀ (h : AH) (v1 : Nat) (v2 : Nat) (v3 : Nat) (v4 : Int32), GO Y X 8 r h (167 + 2 * j + 0) (10310 + 8 * j + 0) 1174 [(0, .retAddr 11), (1, .ref v1), (2, .ref v2), (3, .ref v3), (4, .int v4)] [] (fL_law_J1174 xs L k1617 h v1 v2 v3 v4) := by
  intro h v1 v2 v3 v4
  unfold fL_law_J1174
  refine go_aload_n (pc := 1174) C 1 dL_law_1174 rfl ?_
  refine go_sload_n (pc := 1175) C 0 dL_law_1175 rfl ?_
  refine go_iload (pc := 1176) C 4 dL_law_1176 rfl ?_
  refine go_iconst (pc := 1178) C dL_law_1178 ki_1 ?_
  refine go_iadd (pc := 1179) C dL_law_1179 ?_
  refine go_sld (pc := 1180) C E dL_law_1180 (fun x143 => ?_)
  refine go_sload_n (pc := 1181) C 0 dL_law_1181 rfl ?_
  refine go_iload (pc := 1182) C 4 dL_law_1182 rfl ?_
  refine go_iconst (pc := 1184) C dL_law_1184 ki_2 ?_
  refine go_iadd (pc := 1185) C dL_law_1185 ?_
  refine go_sld (pc := 1186) C E dL_law_1186 (fun x144 => ?_)
  refine go_sload_n (pc := 1187) C 0 dL_law_1187 rfl ?_
  refine go_iload (pc := 1188) C 4 dL_law_1188 rfl ?_
  refine go_iconst (pc := 1190) C dL_law_1190 ki_3 ?_
  refine go_iadd (pc := 1191) C dL_law_1191 ?_
  refine go_sld (pc := 1192) C E dL_law_1192 (fun x145 => ?_)
  refine go_bind (fun q146 hq146 => ?_)
  refine go_callV (rest := []) (st' := [.int q146.1]) (c' := (167 + 2 * j + 0)) (s' := (10310 + 8 * j + 0)) (pc := 1193) C O miL_153 mvX10_odds [.int x143, .int x144, .int x145] rfl (mX10_odds hq146).1 (mX10_odds hq146).2 dL_law_1193 ⟨by decide, by decide, by omega, by omega⟩ rfl (Nat.le_of_ble_eq_true rfl) rfl ⟨by omega, by omega⟩ ?_
  refine go_aload_n (pc := 1196) C 2 dL_law_1196 rfl ?_
  refine go_sload_n (pc := 1197) C 0 dL_law_1197 rfl ?_
  refine go_iload (pc := 1198) C 4 dL_law_1198 rfl ?_
  refine go_iconst (pc := 1200) C dL_law_1200 ki_1 ?_
  refine go_iadd (pc := 1201) C dL_law_1201 ?_
  refine go_sld (pc := 1202) C E dL_law_1202 (fun x147 => ?_)
  refine go_sload_n (pc := 1203) C 0 dL_law_1203 rfl ?_
  refine go_iload (pc := 1204) C 4 dL_law_1204 rfl ?_
  refine go_iconst (pc := 1206) C dL_law_1206 ki_2 ?_
  refine go_iadd (pc := 1207) C dL_law_1207 ?_
  refine go_sld (pc := 1208) C E dL_law_1208 (fun x148 => ?_)
  refine go_sload_n (pc := 1209) C 0 dL_law_1209 rfl ?_
  refine go_iload (pc := 1210) C 4 dL_law_1210 rfl ?_
  refine go_iconst (pc := 1212) C dL_law_1212 ki_3 ?_
  refine go_iadd (pc := 1213) C dL_law_1213 ?_
  refine go_sld (pc := 1214) C E dL_law_1214 (fun x149 => ?_)
  refine go_bind (fun q150 hq150 => ?_)
  refine go_callV (rest := [.int q146.1]) (st' := [.int q150.1, .int q146.1]) (c' := (167 + 2 * j + 0)) (s' := (10310 + 8 * j + 0)) (pc := 1215) C O miL_156 mvX11_odds [.int x147, .int x148, .int x149] rfl (mX11_odds hq150).1 (mX11_odds hq150).2 dL_law_1215 ⟨by decide, by decide, by omega, by omega⟩ rfl (Nat.le_of_ble_eq_true rfl) rfl ⟨by omega, by omega⟩ ?_
  refine go_icmp_eq (pc := 1218) C 1617 dL_law_1218 (by decide) (fun _ => ?_) (fun _ => ?_)
  · refine go_widen (c2 := (167 + 2 * j + 1)) (s2 := (10310 + 8 * j + 6)) (by omega) (by omega) ?_
    refine go_sub (ls' := [(0, .retAddr 11), (1, .ref v1), (2, .ref v2), (3, .ref v3), (4, .int v4)]) [0, 1, 2, 3, 4] rfl ?_
    exact hk1617 q150.2 v1 v2 v3 v4
  · refine go_iconst (pc := 1221) C dL_law_1221 ki_0 ?_
    exact go_none _ _ _
set_option maxHeartbeats 4000000 in
theorem gL_law_J1223 {Y : YT} {X : XT} {j : Nat} (hj : j ≤ 600) (C : CT Y X RL cL_law 8) (O : RO X 1000 601024 7293034) {r : Unit} {b L : Nat} {xs : Nat → Int32} (E : LX Y X b L xs) {k1617 : AH → Nat → Nat → Nat → Int32 → Option (Unit)} (hk1617 : ∀ (h : AH) (v1 : Nat) (v2 : Nat) (v3 : Nat) (v4 : Int32), GO Y X 8 r h (167 + 2 * j + 1) (10310 + 8 * j + 6) 1617 [(0, .retAddr 11), (1, .ref v1), (2, .ref v2), (3, .ref v3), (4, .int v4)] [] (k1617 h v1 v2 v3 v4)) : ∀ (h : AH) (v1 : Nat) (v2 : Nat) (v3 : Nat) (v4 : Int32), GO Y X 8 r h (167 + 2 * j + 0) (10310 + 8 * j + 0) 1223 [(0, .retAddr 11), (1, .ref v1), (2, .ref v2), (3, .ref v3), (4, .int v4)] [] (fL_law_J1223 xs L k1617 h v1 v2 v3 v4) := by
  intro h v1 v2 v3 v4
  unfold fL_law_J1223
  refine go_aload_n (pc := 1223) C 1 dL_law_1223 rfl ?_
  refine go_sload_n (pc := 1224) C 0 dL_law_1224 rfl ?_
  refine go_iload (pc := 1225) C 4 dL_law_1225 rfl ?_
  refine go_iconst (pc := 1227) C dL_law_1227 ki_1 ?_
  refine go_iadd (pc := 1228) C dL_law_1228 ?_
  refine go_sld (pc := 1229) C E dL_law_1229 (fun x151 => ?_)
  refine go_sload_n (pc := 1230) C 0 dL_law_1230 rfl ?_
  refine go_iload (pc := 1231) C 4 dL_law_1231 rfl ?_
  refine go_iconst (pc := 1233) C dL_law_1233 ki_2 ?_
  refine go_iadd (pc := 1234) C dL_law_1234 ?_
  refine go_sld (pc := 1235) C E dL_law_1235 (fun x152 => ?_)
  refine go_bind (fun q153 hq153 => ?_)
  refine go_callV (rest := []) (st' := [.int q153.1]) (c' := (167 + 2 * j + 0)) (s' := (10310 + 8 * j + 0)) (pc := 1236) C O miL_157 mvX10_heard [.int x151, .int x152] rfl (mX10_heard hq153).1 (mX10_heard hq153).2 dL_law_1236 ⟨by decide, by decide, by omega, by omega⟩ rfl (Nat.le_of_ble_eq_true rfl) rfl ⟨by omega, by omega⟩ ?_
  refine go_aload_n (pc := 1239) C 2 dL_law_1239 rfl ?_
  refine go_sload_n (pc := 1240) C 0 dL_law_1240 rfl ?_
  refine go_iload (pc := 1241) C 4 dL_law_1241 rfl ?_
  refine go_iconst (pc := 1243) C dL_law_1243 ki_1 ?_
  refine go_iadd (pc := 1244) C dL_law_1244 ?_
  refine go_sld (pc := 1245) C E dL_law_1245 (fun x154 => ?_)
  refine go_sload_n (pc := 1246) C 0 dL_law_1246 rfl ?_
  refine go_iload (pc := 1247) C 4 dL_law_1247 rfl ?_
  refine go_iconst (pc := 1249) C dL_law_1249 ki_2 ?_
  refine go_iadd (pc := 1250) C dL_law_1250 ?_
  refine go_sld (pc := 1251) C E dL_law_1251 (fun x155 => ?_)
  refine go_bind (fun q156 hq156 => ?_)
  refine go_callV (rest := [.int q153.1]) (st' := [.int q156.1, .int q153.1]) (c' := (167 + 2 * j + 0)) (s' := (10310 + 8 * j + 0)) (pc := 1252) C O miL_160 mvX11_heard [.int x154, .int x155] rfl (mX11_heard hq156).1 (mX11_heard hq156).2 dL_law_1252 ⟨by decide, by decide, by omega, by omega⟩ rfl (Nat.le_of_ble_eq_true rfl) rfl ⟨by omega, by omega⟩ ?_
  refine go_icmp_eq (pc := 1255) C 1617 dL_law_1255 (by decide) (fun _ => ?_) (fun _ => ?_)
  · refine go_widen (c2 := (167 + 2 * j + 1)) (s2 := (10310 + 8 * j + 6)) (by omega) (by omega) ?_
    refine go_sub (ls' := [(0, .retAddr 11), (1, .ref v1), (2, .ref v2), (3, .ref v3), (4, .int v4)]) [0, 1, 2, 3, 4] rfl ?_
    exact hk1617 q156.2 v1 v2 v3 v4
  · refine go_iconst (pc := 1258) C dL_law_1258 ki_0 ?_
    exact go_none _ _ _
set_option maxHeartbeats 4000000 in
theorem gL_law_J1260 {Y : YT} {X : XT} {j : Nat} (hj : j ≤ 600) (C : CT Y X RL cL_law 8) (O : RO X 1000 601024 7293034) {r : Unit} {b L : Nat} {xs : Nat → Int32} (E : LX Y X b L xs) {k1617 : AH → Nat → Nat → Nat → Int32 → Option (Unit)} (hk1617 : ∀ (h : AH) (v1 : Nat) (v2 : Nat) (v3 : Nat) (v4 : Int32), GO Y X 8 r h (167 + 2 * j + 1) (10310 + 8 * j + 6) 1617 [(0, .retAddr 11), (1, .ref v1), (2, .ref v2), (3, .ref v3), (4, .int v4)] [] (k1617 h v1 v2 v3 v4)) : ∀ (h : AH) (v1 : Nat) (v2 : Nat) (v3 : Nat) (v4 : Int32), GO Y X 8 r h (167 + 2 * j + 0) (10310 + 8 * j + 0) 1260 [(0, .retAddr 11), (1, .ref v1), (2, .ref v2), (3, .ref v3), (4, .int v4)] [] (fL_law_J1260 xs L k1617 h v1 v2 v3 v4) := by
  intro h v1 v2 v3 v4
  unfold fL_law_J1260
  refine go_aload_n (pc := 1260) C 1 dL_law_1260 rfl ?_
  refine go_bind (fun q157 hq157 => ?_)
  refine go_callV (rest := []) (st' := [.int q157.1]) (c' := (167 + 2 * j + 0)) (s' := (10310 + 8 * j + 0)) (pc := 1261) C O miL_161 mvX10_forget [] rfl (mX10_forget hq157).1 (mX10_forget hq157).2 dL_law_1261 ⟨by decide, by decide, by omega, by omega⟩ rfl (Nat.le_of_ble_eq_true rfl) rfl ⟨by omega, by omega⟩ ?_
  refine go_aload_n (pc := 1264) C 2 dL_law_1264 rfl ?_
  refine go_bind (fun q158 hq158 => ?_)
  refine go_callV (rest := [.int q157.1]) (st' := [.int q158.1, .int q157.1]) (c' := (167 + 2 * j + 0)) (s' := (10310 + 8 * j + 0)) (pc := 1265) C O miL_164 mvX11_forget [] rfl (mX11_forget hq158).1 (mX11_forget hq158).2 dL_law_1265 ⟨by decide, by decide, by omega, by omega⟩ rfl (Nat.le_of_ble_eq_true rfl) rfl ⟨by omega, by omega⟩ ?_
  refine go_icmp_eq (pc := 1268) C 1617 dL_law_1268 (by decide) (fun _ => ?_) (fun _ => ?_)
  · refine go_widen (c2 := (167 + 2 * j + 1)) (s2 := (10310 + 8 * j + 6)) (by omega) (by omega) ?_
    refine go_sub (ls' := [(0, .retAddr 11), (1, .ref v1), (2, .ref v2), (3, .ref v3), (4, .int v4)]) [0, 1, 2, 3, 4] rfl ?_
    exact hk1617 q158.2 v1 v2 v3 v4
  · refine go_iconst (pc := 1271) C dL_law_1271 ki_0 ?_
    exact go_none _ _ _
set_option maxHeartbeats 4000000 in
theorem gL_law_J1273 {Y : YT} {X : XT} {j : Nat} (hj : j ≤ 600) (C : CT Y X RL cL_law 8) (O : RO X 1000 601024 7293034) {r : Unit} {b L : Nat} {xs : Nat → Int32} (E : LX Y X b L xs) {k1617 : AH → Nat → Nat → Nat → Int32 → Option (Unit)} (hk1617 : ∀ (h : AH) (v1 : Nat) (v2 : Nat) (v3 : Nat) (v4 : Int32), GO Y X 8 r h (167 + 2 * j + 1) (10310 + 8 * j + 6) 1617 [(0, .retAddr 11), (1, .ref v1), (2, .ref v2), (3, .ref v3), (4, .int v4)] [] (k1617 h v1 v2 v3 v4)) : ∀ (h : AH) (v1 : Nat) (v2 : Nat) (v3 : Nat) (v4 : Int32), GO Y X 8 r h (167 + 2 * j + 0) (10310 + 8 * j + 0) 1273 [(0, .retAddr 11), (1, .ref v1), (2, .ref v2), (3, .ref v3), (4, .int v4)] [] (fL_law_J1273 xs L k1617 h v1 v2 v3 v4) := by
  intro h v1 v2 v3 v4
  unfold fL_law_J1273
  refine go_aload_n (pc := 1273) C 1 dL_law_1273 rfl ?_
  refine go_bind (fun q159 hq159 => ?_)
  refine go_callV (rest := []) (st' := [.int q159.1]) (c' := (167 + 2 * j + 0)) (s' := (10310 + 8 * j + 0)) (pc := 1274) C O miL_165 mvX10_fits [] rfl (mX10_fits hq159).1 (mX10_fits hq159).2 dL_law_1274 ⟨by decide, by decide, by omega, by omega⟩ rfl (Nat.le_of_ble_eq_true rfl) rfl ⟨by omega, by omega⟩ ?_
  refine go_aload_n (pc := 1277) C 2 dL_law_1277 rfl ?_
  refine go_bind (fun q160 hq160 => ?_)
  refine go_callV (rest := [.int q159.1]) (st' := [.int q160.1, .int q159.1]) (c' := (167 + 2 * j + 0)) (s' := (10310 + 8 * j + 0)) (pc := 1278) C O miL_168 mvX11_fits [] rfl (mX11_fits hq160).1 (mX11_fits hq160).2 dL_law_1278 ⟨by decide, by decide, by omega, by omega⟩ rfl (Nat.le_of_ble_eq_true rfl) rfl ⟨by omega, by omega⟩ ?_
  refine go_icmp_eq (pc := 1281) C 1617 dL_law_1281 (by decide) (fun _ => ?_) (fun _ => ?_)
  · refine go_widen (c2 := (167 + 2 * j + 1)) (s2 := (10310 + 8 * j + 6)) (by omega) (by omega) ?_
    refine go_sub (ls' := [(0, .retAddr 11), (1, .ref v1), (2, .ref v2), (3, .ref v3), (4, .int v4)]) [0, 1, 2, 3, 4] rfl ?_
    exact hk1617 q160.2 v1 v2 v3 v4
  · refine go_iconst (pc := 1284) C dL_law_1284 ki_0 ?_
    exact go_none _ _ _
set_option maxHeartbeats 4000000 in
theorem gL_law_J1286 {Y : YT} {X : XT} {j : Nat} (hj : j ≤ 600) (C : CT Y X RL cL_law 8) (O : RO X 1000 601024 7293034) {r : Unit} {b L : Nat} {xs : Nat → Int32} (E : LX Y X b L xs) {k1617 : AH → Nat → Nat → Nat → Int32 → Option (Unit)} (hk1617 : ∀ (h : AH) (v1 : Nat) (v2 : Nat) (v3 : Nat) (v4 : Int32), GO Y X 8 r h (167 + 2 * j + 1) (10310 + 8 * j + 6) 1617 [(0, .retAddr 11), (1, .ref v1), (2, .ref v2), (3, .ref v3), (4, .int v4)] [] (k1617 h v1 v2 v3 v4)) : ∀ (h : AH) (v1 : Nat) (v2 : Nat) (v3 : Nat) (v4 : Int32), GO Y X 8 r h (167 + 2 * j + 0) (10310 + 8 * j + 0) 1286 [(0, .retAddr 11), (1, .ref v1), (2, .ref v2), (3, .ref v3), (4, .int v4)] [] (fL_law_J1286 xs L k1617 h v1 v2 v3 v4) := by
  intro h v1 v2 v3 v4
  unfold fL_law_J1286
  refine go_aload_n (pc := 1286) C 1 dL_law_1286 rfl ?_
  refine go_bind (fun q161 hq161 => ?_)
  refine go_callV (rest := []) (st' := [.int q161.1]) (c' := (167 + 2 * j + 0)) (s' := (10310 + 8 * j + 0)) (pc := 1287) C O miL_169 mvX10_asks [] rfl (mX10_asks hq161).1 (mX10_asks hq161).2 dL_law_1287 ⟨by decide, by decide, by omega, by omega⟩ rfl (Nat.le_of_ble_eq_true rfl) rfl ⟨by omega, by omega⟩ ?_
  refine go_aload_n (pc := 1290) C 2 dL_law_1290 rfl ?_
  refine go_bind (fun q162 hq162 => ?_)
  refine go_callV (rest := [.int q161.1]) (st' := [.int q162.1, .int q161.1]) (c' := (167 + 2 * j + 0)) (s' := (10310 + 8 * j + 0)) (pc := 1291) C O miL_172 mvX11_asks [] rfl (mX11_asks hq162).1 (mX11_asks hq162).2 dL_law_1291 ⟨by decide, by decide, by omega, by omega⟩ rfl (Nat.le_of_ble_eq_true rfl) rfl ⟨by omega, by omega⟩ ?_
  refine go_icmp_eq (pc := 1294) C 1617 dL_law_1294 (by decide) (fun _ => ?_) (fun _ => ?_)
  · refine go_widen (c2 := (167 + 2 * j + 1)) (s2 := (10310 + 8 * j + 6)) (by omega) (by omega) ?_
    refine go_sub (ls' := [(0, .retAddr 11), (1, .ref v1), (2, .ref v2), (3, .ref v3), (4, .int v4)]) [0, 1, 2, 3, 4] rfl ?_
    exact hk1617 q162.2 v1 v2 v3 v4
  · refine go_iconst (pc := 1297) C dL_law_1297 ki_0 ?_
    exact go_none _ _ _
set_option maxHeartbeats 4000000 in
theorem gL_law_J1299 {Y : YT} {X : XT} {j : Nat} (hj : j ≤ 600) (C : CT Y X RL cL_law 8) (O : RO X 1000 601024 7293034) {r : Unit} {b L : Nat} {xs : Nat → Int32} (E : LX Y X b L xs) {k1617 : AH → Nat → Nat → Nat → Int32 → Option (Unit)} (hk1617 : ∀ (h : AH) (v1 : Nat) (v2 : Nat) (v3 : Nat) (v4 : Int32), GO Y X 8 r h (167 + 2 * j + 1) (10310 + 8 * j + 6) 1617 [(0, .retAddr 11), (1, .ref v1), (2, .ref v2), (3, .ref v3), (4, .int v4)] [] (k1617 h v1 v2 v3 v4)) : ∀ (h : AH) (v1 : Nat) (v2 : Nat) (v3 : Nat) (v4 : Int32), GO Y X 8 r h (167 + 2 * j + 0) (10310 + 8 * j + 0) 1299 [(0, .retAddr 11), (1, .ref v1), (2, .ref v2), (3, .ref v3), (4, .int v4)] [] (fL_law_J1299 xs L k1617 h v1 v2 v3 v4) := by
  intro h v1 v2 v3 v4
  unfold fL_law_J1299
  refine go_aload_n (pc := 1299) C 1 dL_law_1299 rfl ?_
  refine go_sload_n (pc := 1300) C 0 dL_law_1300 rfl ?_
  refine go_iload (pc := 1301) C 4 dL_law_1301 rfl ?_
  refine go_iconst (pc := 1303) C dL_law_1303 ki_1 ?_
  refine go_iadd (pc := 1304) C dL_law_1304 ?_
  refine go_sld (pc := 1305) C E dL_law_1305 (fun x163 => ?_)
  refine go_sload_n (pc := 1306) C 0 dL_law_1306 rfl ?_
  refine go_iload (pc := 1307) C 4 dL_law_1307 rfl ?_
  refine go_iconst (pc := 1309) C dL_law_1309 ki_2 ?_
  refine go_iadd (pc := 1310) C dL_law_1310 ?_
  refine go_sld (pc := 1311) C E dL_law_1311 (fun x164 => ?_)
  refine go_sload_n (pc := 1312) C 0 dL_law_1312 rfl ?_
  refine go_iload (pc := 1313) C 4 dL_law_1313 rfl ?_
  refine go_iconst (pc := 1315) C dL_law_1315 ki_3 ?_
  refine go_iadd (pc := 1316) C dL_law_1316 ?_
  refine go_sld (pc := 1317) C E dL_law_1317 (fun x165 => ?_)
  refine go_bind (fun q166 hq166 => ?_)
  refine go_callV (rest := []) (st' := [.int q166.1]) (c' := (167 + 2 * j + 0)) (s' := (10310 + 8 * j + 0)) (pc := 1318) C O miL_173 mvX10_saw [.int x163, .int x164, .int x165] rfl (mX10_saw hq166).1 (mX10_saw hq166).2 dL_law_1318 ⟨by decide, by decide, by omega, by omega⟩ rfl (Nat.le_of_ble_eq_true rfl) rfl ⟨by omega, by omega⟩ ?_
  refine go_aload_n (pc := 1321) C 2 dL_law_1321 rfl ?_
  refine go_sload_n (pc := 1322) C 0 dL_law_1322 rfl ?_
  refine go_iload (pc := 1323) C 4 dL_law_1323 rfl ?_
  refine go_iconst (pc := 1325) C dL_law_1325 ki_1 ?_
  refine go_iadd (pc := 1326) C dL_law_1326 ?_
  refine go_sld (pc := 1327) C E dL_law_1327 (fun x167 => ?_)
  refine go_sload_n (pc := 1328) C 0 dL_law_1328 rfl ?_
  refine go_iload (pc := 1329) C 4 dL_law_1329 rfl ?_
  refine go_iconst (pc := 1331) C dL_law_1331 ki_2 ?_
  refine go_iadd (pc := 1332) C dL_law_1332 ?_
  refine go_sld (pc := 1333) C E dL_law_1333 (fun x168 => ?_)
  refine go_sload_n (pc := 1334) C 0 dL_law_1334 rfl ?_
  refine go_iload (pc := 1335) C 4 dL_law_1335 rfl ?_
  refine go_iconst (pc := 1337) C dL_law_1337 ki_3 ?_
  refine go_iadd (pc := 1338) C dL_law_1338 ?_
  refine go_sld (pc := 1339) C E dL_law_1339 (fun x169 => ?_)
  refine go_bind (fun q170 hq170 => ?_)
  refine go_callV (rest := [.int q166.1]) (st' := [.int q170.1, .int q166.1]) (c' := (167 + 2 * j + 0)) (s' := (10310 + 8 * j + 0)) (pc := 1340) C O miL_176 mvX11_saw [.int x167, .int x168, .int x169] rfl (mX11_saw hq170).1 (mX11_saw hq170).2 dL_law_1340 ⟨by decide, by decide, by omega, by omega⟩ rfl (Nat.le_of_ble_eq_true rfl) rfl ⟨by omega, by omega⟩ ?_
  refine go_icmp_eq (pc := 1343) C 1617 dL_law_1343 (by decide) (fun _ => ?_) (fun _ => ?_)
  · refine go_widen (c2 := (167 + 2 * j + 1)) (s2 := (10310 + 8 * j + 6)) (by omega) (by omega) ?_
    refine go_sub (ls' := [(0, .retAddr 11), (1, .ref v1), (2, .ref v2), (3, .ref v3), (4, .int v4)]) [0, 1, 2, 3, 4] rfl ?_
    exact hk1617 q170.2 v1 v2 v3 v4
  · refine go_iconst (pc := 1346) C dL_law_1346 ki_0 ?_
    exact go_none _ _ _
set_option maxHeartbeats 4000000 in
theorem gL_law_J1348 {Y : YT} {X : XT} {j : Nat} (hj : j ≤ 600) (C : CT Y X RL cL_law 8) (O : RO X 1000 601024 7293034) {r : Unit} {b L : Nat} {xs : Nat → Int32} (E : LX Y X b L xs) {k1617 : AH → Nat → Nat → Nat → Int32 → Option (Unit)} (hk1617 : ∀ (h : AH) (v1 : Nat) (v2 : Nat) (v3 : Nat) (v4 : Int32), GO Y X 8 r h (167 + 2 * j + 1) (10310 + 8 * j + 6) 1617 [(0, .retAddr 11), (1, .ref v1), (2, .ref v2), (3, .ref v3), (4, .int v4)] [] (k1617 h v1 v2 v3 v4)) : ∀ (h : AH) (v1 : Nat) (v2 : Nat) (v3 : Nat) (v4 : Int32), GO Y X 8 r h (167 + 2 * j + 0) (10310 + 8 * j + 0) 1348 [(0, .retAddr 11), (1, .ref v1), (2, .ref v2), (3, .ref v3), (4, .int v4)] [] (fL_law_J1348 xs L k1617 h v1 v2 v3 v4) := by
  intro h v1 v2 v3 v4
  unfold fL_law_J1348
  refine go_aload_n (pc := 1348) C 1 dL_law_1348 rfl ?_
  refine go_bind (fun q171 hq171 => ?_)
  refine go_callV (rest := []) (st' := [.int q171.1]) (c' := (167 + 2 * j + 0)) (s' := (10310 + 8 * j + 0)) (pc := 1349) C O miL_177 mvX10_denies [] rfl (mX10_denies hq171).1 (mX10_denies hq171).2 dL_law_1349 ⟨by decide, by decide, by omega, by omega⟩ rfl (Nat.le_of_ble_eq_true rfl) rfl ⟨by omega, by omega⟩ ?_
  refine go_aload_n (pc := 1352) C 2 dL_law_1352 rfl ?_
  refine go_bind (fun q172 hq172 => ?_)
  refine go_callV (rest := [.int q171.1]) (st' := [.int q172.1, .int q171.1]) (c' := (167 + 2 * j + 0)) (s' := (10310 + 8 * j + 0)) (pc := 1353) C O miL_180 mvX11_denies [] rfl (mX11_denies hq172).1 (mX11_denies hq172).2 dL_law_1353 ⟨by decide, by decide, by omega, by omega⟩ rfl (Nat.le_of_ble_eq_true rfl) rfl ⟨by omega, by omega⟩ ?_
  refine go_icmp_eq (pc := 1356) C 1617 dL_law_1356 (by decide) (fun _ => ?_) (fun _ => ?_)
  · refine go_widen (c2 := (167 + 2 * j + 1)) (s2 := (10310 + 8 * j + 6)) (by omega) (by omega) ?_
    refine go_sub (ls' := [(0, .retAddr 11), (1, .ref v1), (2, .ref v2), (3, .ref v3), (4, .int v4)]) [0, 1, 2, 3, 4] rfl ?_
    exact hk1617 q172.2 v1 v2 v3 v4
  · refine go_iconst (pc := 1359) C dL_law_1359 ki_0 ?_
    exact go_none _ _ _
set_option maxHeartbeats 4000000 in
theorem gL_law_J1361 {Y : YT} {X : XT} {j : Nat} (hj : j ≤ 600) (C : CT Y X RL cL_law 8) (O : RO X 1000 601024 7293034) {r : Unit} {b L : Nat} {xs : Nat → Int32} (E : LX Y X b L xs) {k1617 : AH → Nat → Nat → Nat → Int32 → Option (Unit)} (hk1617 : ∀ (h : AH) (v1 : Nat) (v2 : Nat) (v3 : Nat) (v4 : Int32), GO Y X 8 r h (167 + 2 * j + 1) (10310 + 8 * j + 6) 1617 [(0, .retAddr 11), (1, .ref v1), (2, .ref v2), (3, .ref v3), (4, .int v4)] [] (k1617 h v1 v2 v3 v4)) : ∀ (h : AH) (v1 : Nat) (v2 : Nat) (v3 : Nat) (v4 : Int32), GO Y X 8 r h (167 + 2 * j + 0) (10310 + 8 * j + 0) 1361 [(0, .retAddr 11), (1, .ref v1), (2, .ref v2), (3, .ref v3), (4, .int v4)] [] (fL_law_J1361 xs L k1617 h v1 v2 v3 v4) := by
  intro h v1 v2 v3 v4
  unfold fL_law_J1361
  refine go_aload_n (pc := 1361) C 1 dL_law_1361 rfl ?_
  refine go_bind (fun q173 hq173 => ?_)
  refine go_callV (rest := []) (st' := [.int q173.1]) (c' := (167 + 2 * j + 0)) (s' := (10310 + 8 * j + 0)) (pc := 1362) C O miL_181 mvX10_laws [] rfl (mX10_laws hq173).1 (mX10_laws hq173).2 dL_law_1362 ⟨by decide, by decide, by omega, by omega⟩ rfl (Nat.le_of_ble_eq_true rfl) rfl ⟨by omega, by omega⟩ ?_
  refine go_aload_n (pc := 1365) C 2 dL_law_1365 rfl ?_
  refine go_bind (fun q174 hq174 => ?_)
  refine go_callV (rest := [.int q173.1]) (st' := [.int q174.1, .int q173.1]) (c' := (167 + 2 * j + 0)) (s' := (10310 + 8 * j + 0)) (pc := 1366) C O miL_184 mvX11_laws [] rfl (mX11_laws hq174).1 (mX11_laws hq174).2 dL_law_1366 ⟨by decide, by decide, by omega, by omega⟩ rfl (Nat.le_of_ble_eq_true rfl) rfl ⟨by omega, by omega⟩ ?_
  refine go_icmp_eq (pc := 1369) C 1617 dL_law_1369 (by decide) (fun _ => ?_) (fun _ => ?_)
  · refine go_widen (c2 := (167 + 2 * j + 1)) (s2 := (10310 + 8 * j + 6)) (by omega) (by omega) ?_
    refine go_sub (ls' := [(0, .retAddr 11), (1, .ref v1), (2, .ref v2), (3, .ref v3), (4, .int v4)]) [0, 1, 2, 3, 4] rfl ?_
    exact hk1617 q174.2 v1 v2 v3 v4
  · refine go_iconst (pc := 1372) C dL_law_1372 ki_0 ?_
    exact go_none _ _ _
set_option maxHeartbeats 4000000 in
theorem gL_law_J1374 {Y : YT} {X : XT} {j : Nat} (hj : j ≤ 600) (C : CT Y X RL cL_law 8) (O : RO X 1000 601024 7293034) {r : Unit} {b L : Nat} {xs : Nat → Int32} (E : LX Y X b L xs) {k1617 : AH → Nat → Nat → Nat → Int32 → Option (Unit)} (hk1617 : ∀ (h : AH) (v1 : Nat) (v2 : Nat) (v3 : Nat) (v4 : Int32), GO Y X 8 r h (167 + 2 * j + 1) (10310 + 8 * j + 6) 1617 [(0, .retAddr 11), (1, .ref v1), (2, .ref v2), (3, .ref v3), (4, .int v4)] [] (k1617 h v1 v2 v3 v4)) : ∀ (h : AH) (v1 : Nat) (v2 : Nat) (v3 : Nat) (v4 : Int32), GO Y X 8 r h (167 + 2 * j + 0) (10310 + 8 * j + 0) 1374 [(0, .retAddr 11), (1, .ref v1), (2, .ref v2), (3, .ref v3), (4, .int v4)] [] (fL_law_J1374 xs L k1617 h v1 v2 v3 v4) := by
  intro h v1 v2 v3 v4
  unfold fL_law_J1374
  refine go_aload_n (pc := 1374) C 1 dL_law_1374 rfl ?_
  refine go_bind (fun q175 hq175 => ?_)
  refine go_callV (rest := []) (st' := [.int q175.1]) (c' := (167 + 2 * j + 0)) (s' := (10310 + 8 * j + 0)) (pc := 1375) C O miL_185 mvX10_looks [] rfl (mX10_looks hq175).1 (mX10_looks hq175).2 dL_law_1375 ⟨by decide, by decide, by omega, by omega⟩ rfl (Nat.le_of_ble_eq_true rfl) rfl ⟨by omega, by omega⟩ ?_
  refine go_aload_n (pc := 1378) C 2 dL_law_1378 rfl ?_
  refine go_bind (fun q176 hq176 => ?_)
  refine go_callV (rest := [.int q175.1]) (st' := [.int q176.1, .int q175.1]) (c' := (167 + 2 * j + 0)) (s' := (10310 + 8 * j + 0)) (pc := 1379) C O miL_188 mvX11_looks [] rfl (mX11_looks hq176).1 (mX11_looks hq176).2 dL_law_1379 ⟨by decide, by decide, by omega, by omega⟩ rfl (Nat.le_of_ble_eq_true rfl) rfl ⟨by omega, by omega⟩ ?_
  refine go_icmp_eq (pc := 1382) C 1617 dL_law_1382 (by decide) (fun _ => ?_) (fun _ => ?_)
  · refine go_widen (c2 := (167 + 2 * j + 1)) (s2 := (10310 + 8 * j + 6)) (by omega) (by omega) ?_
    refine go_sub (ls' := [(0, .retAddr 11), (1, .ref v1), (2, .ref v2), (3, .ref v3), (4, .int v4)]) [0, 1, 2, 3, 4] rfl ?_
    exact hk1617 q176.2 v1 v2 v3 v4
  · refine go_iconst (pc := 1385) C dL_law_1385 ki_0 ?_
    exact go_none _ _ _
set_option maxHeartbeats 4000000 in
theorem gL_law_J1387 {Y : YT} {X : XT} {j : Nat} (hj : j ≤ 600) (C : CT Y X RL cL_law 8) (O : RO X 1000 601024 7293034) {r : Unit} {b L : Nat} {xs : Nat → Int32} (E : LX Y X b L xs) {k1617 : AH → Nat → Nat → Nat → Int32 → Option (Unit)} (hk1617 : ∀ (h : AH) (v1 : Nat) (v2 : Nat) (v3 : Nat) (v4 : Int32), GO Y X 8 r h (167 + 2 * j + 1) (10310 + 8 * j + 6) 1617 [(0, .retAddr 11), (1, .ref v1), (2, .ref v2), (3, .ref v3), (4, .int v4)] [] (k1617 h v1 v2 v3 v4)) : ∀ (h : AH) (v1 : Nat) (v2 : Nat) (v3 : Nat) (v4 : Int32), GO Y X 8 r h (167 + 2 * j + 0) (10310 + 8 * j + 0) 1387 [(0, .retAddr 11), (1, .ref v1), (2, .ref v2), (3, .ref v3), (4, .int v4)] [] (fL_law_J1387 xs L k1617 h v1 v2 v3 v4) := by
  intro h v1 v2 v3 v4
  unfold fL_law_J1387
  refine go_aload_n (pc := 1387) C 1 dL_law_1387 rfl ?_
  refine go_sload_n (pc := 1388) C 0 dL_law_1388 rfl ?_
  refine go_iload (pc := 1389) C 4 dL_law_1389 rfl ?_
  refine go_iconst (pc := 1391) C dL_law_1391 ki_1 ?_
  refine go_iadd (pc := 1392) C dL_law_1392 ?_
  refine go_sld (pc := 1393) C E dL_law_1393 (fun x177 => ?_)
  refine go_bind (fun q178 hq178 => ?_)
  refine go_callV (rest := []) (st' := [.int q178.1]) (c' := (167 + 2 * j + 0)) (s' := (10310 + 8 * j + 0)) (pc := 1394) C O miL_189 mvX10_pages [.int x177] rfl (mX10_pages hq178).1 (mX10_pages hq178).2 dL_law_1394 ⟨by decide, by decide, by omega, by omega⟩ rfl (Nat.le_of_ble_eq_true rfl) rfl ⟨by omega, by omega⟩ ?_
  refine go_aload_n (pc := 1397) C 2 dL_law_1397 rfl ?_
  refine go_sload_n (pc := 1398) C 0 dL_law_1398 rfl ?_
  refine go_iload (pc := 1399) C 4 dL_law_1399 rfl ?_
  refine go_iconst (pc := 1401) C dL_law_1401 ki_1 ?_
  refine go_iadd (pc := 1402) C dL_law_1402 ?_
  refine go_sld (pc := 1403) C E dL_law_1403 (fun x179 => ?_)
  refine go_bind (fun q180 hq180 => ?_)
  refine go_callV (rest := [.int q178.1]) (st' := [.int q180.1, .int q178.1]) (c' := (167 + 2 * j + 0)) (s' := (10310 + 8 * j + 0)) (pc := 1404) C O miL_192 mvX11_pages [.int x179] rfl (mX11_pages hq180).1 (mX11_pages hq180).2 dL_law_1404 ⟨by decide, by decide, by omega, by omega⟩ rfl (Nat.le_of_ble_eq_true rfl) rfl ⟨by omega, by omega⟩ ?_
  refine go_icmp_eq (pc := 1407) C 1617 dL_law_1407 (by decide) (fun _ => ?_) (fun _ => ?_)
  · refine go_widen (c2 := (167 + 2 * j + 1)) (s2 := (10310 + 8 * j + 6)) (by omega) (by omega) ?_
    refine go_sub (ls' := [(0, .retAddr 11), (1, .ref v1), (2, .ref v2), (3, .ref v3), (4, .int v4)]) [0, 1, 2, 3, 4] rfl ?_
    exact hk1617 q180.2 v1 v2 v3 v4
  · refine go_iconst (pc := 1410) C dL_law_1410 ki_0 ?_
    exact go_none _ _ _
set_option maxHeartbeats 4000000 in
theorem gL_law_J1412 {Y : YT} {X : XT} {j : Nat} (hj : j ≤ 600) (C : CT Y X RL cL_law 8) (O : RO X 1000 601024 7293034) {r : Unit} {b L : Nat} {xs : Nat → Int32} (E : LX Y X b L xs) {k1617 : AH → Nat → Nat → Nat → Int32 → Option (Unit)} (hk1617 : ∀ (h : AH) (v1 : Nat) (v2 : Nat) (v3 : Nat) (v4 : Int32), GO Y X 8 r h (167 + 2 * j + 1) (10310 + 8 * j + 6) 1617 [(0, .retAddr 11), (1, .ref v1), (2, .ref v2), (3, .ref v3), (4, .int v4)] [] (k1617 h v1 v2 v3 v4)) : ∀ (h : AH) (v1 : Nat) (v2 : Nat) (v3 : Nat) (v4 : Int32), GO Y X 8 r h (167 + 2 * j + 0) (10310 + 8 * j + 0) 1412 [(0, .retAddr 11), (1, .ref v1), (2, .ref v2), (3, .ref v3), (4, .int v4)] [] (fL_law_J1412 xs L k1617 h v1 v2 v3 v4) := by
  intro h v1 v2 v3 v4
  unfold fL_law_J1412
  refine go_aload_n (pc := 1412) C 1 dL_law_1412 rfl ?_
  refine go_sload_n (pc := 1413) C 0 dL_law_1413 rfl ?_
  refine go_iload (pc := 1414) C 4 dL_law_1414 rfl ?_
  refine go_iconst (pc := 1416) C dL_law_1416 ki_1 ?_
  refine go_iadd (pc := 1417) C dL_law_1417 ?_
  refine go_sld (pc := 1418) C E dL_law_1418 (fun x181 => ?_)
  refine go_bind (fun q182 hq182 => ?_)
  refine go_callV (rest := []) (st' := [.int q182.1]) (c' := (167 + 2 * j + 0)) (s' := (10310 + 8 * j + 0)) (pc := 1419) C O miL_193 mvX10_rests [.int x181] rfl (mX10_rests hq182).1 (mX10_rests hq182).2 dL_law_1419 ⟨by decide, by decide, by omega, by omega⟩ rfl (Nat.le_of_ble_eq_true rfl) rfl ⟨by omega, by omega⟩ ?_
  refine go_aload_n (pc := 1422) C 2 dL_law_1422 rfl ?_
  refine go_sload_n (pc := 1423) C 0 dL_law_1423 rfl ?_
  refine go_iload (pc := 1424) C 4 dL_law_1424 rfl ?_
  refine go_iconst (pc := 1426) C dL_law_1426 ki_1 ?_
  refine go_iadd (pc := 1427) C dL_law_1427 ?_
  refine go_sld (pc := 1428) C E dL_law_1428 (fun x183 => ?_)
  refine go_bind (fun q184 hq184 => ?_)
  refine go_callV (rest := [.int q182.1]) (st' := [.int q184.1, .int q182.1]) (c' := (167 + 2 * j + 0)) (s' := (10310 + 8 * j + 0)) (pc := 1429) C O miL_196 mvX11_rests [.int x183] rfl (mX11_rests hq184).1 (mX11_rests hq184).2 dL_law_1429 ⟨by decide, by decide, by omega, by omega⟩ rfl (Nat.le_of_ble_eq_true rfl) rfl ⟨by omega, by omega⟩ ?_
  refine go_icmp_eq (pc := 1432) C 1617 dL_law_1432 (by decide) (fun _ => ?_) (fun _ => ?_)
  · refine go_widen (c2 := (167 + 2 * j + 1)) (s2 := (10310 + 8 * j + 6)) (by omega) (by omega) ?_
    refine go_sub (ls' := [(0, .retAddr 11), (1, .ref v1), (2, .ref v2), (3, .ref v3), (4, .int v4)]) [0, 1, 2, 3, 4] rfl ?_
    exact hk1617 q184.2 v1 v2 v3 v4
  · refine go_iconst (pc := 1435) C dL_law_1435 ki_0 ?_
    exact go_none _ _ _
set_option maxHeartbeats 4000000 in
theorem gL_law_J1437 {Y : YT} {X : XT} {j : Nat} (hj : j ≤ 600) (C : CT Y X RL cL_law 8) (O : RO X 1000 601024 7293034) {r : Unit} {b L : Nat} {xs : Nat → Int32} (E : LX Y X b L xs) {k1617 : AH → Nat → Nat → Nat → Int32 → Option (Unit)} (hk1617 : ∀ (h : AH) (v1 : Nat) (v2 : Nat) (v3 : Nat) (v4 : Int32), GO Y X 8 r h (167 + 2 * j + 1) (10310 + 8 * j + 6) 1617 [(0, .retAddr 11), (1, .ref v1), (2, .ref v2), (3, .ref v3), (4, .int v4)] [] (k1617 h v1 v2 v3 v4)) : ∀ (h : AH) (v1 : Nat) (v2 : Nat) (v3 : Nat) (v4 : Int32), GO Y X 8 r h (167 + 2 * j + 0) (10310 + 8 * j + 0) 1437 [(0, .retAddr 11), (1, .ref v1), (2, .ref v2), (3, .ref v3), (4, .int v4)] [] (fL_law_J1437 xs L k1617 h v1 v2 v3 v4) := by
  intro h v1 v2 v3 v4
  unfold fL_law_J1437
  refine go_aload_n (pc := 1437) C 1 dL_law_1437 rfl ?_
  refine go_bind (fun q185 hq185 => ?_)
  refine go_callV (rest := []) (st' := [.int q185.1]) (c' := (167 + 2 * j + 0)) (s' := (10310 + 8 * j + 0)) (pc := 1438) C O miL_197 mvX10_law [] rfl (mX10_law hq185).1 (mX10_law hq185).2 dL_law_1438 ⟨by decide, by decide, by omega, by omega⟩ rfl (Nat.le_of_ble_eq_true rfl) rfl ⟨by omega, by omega⟩ ?_
  refine go_aload_n (pc := 1441) C 2 dL_law_1441 rfl ?_
  refine go_bind (fun q186 hq186 => ?_)
  refine go_callV (rest := [.int q185.1]) (st' := [.int q186.1, .int q185.1]) (c' := (167 + 2 * j + 0)) (s' := (10310 + 8 * j + 0)) (pc := 1442) C O miL_200 mvX11_law [] rfl (mX11_law hq186).1 (mX11_law hq186).2 dL_law_1442 ⟨by decide, by decide, by omega, by omega⟩ rfl (Nat.le_of_ble_eq_true rfl) rfl ⟨by omega, by omega⟩ ?_
  refine go_icmp_eq (pc := 1445) C 1617 dL_law_1445 (by decide) (fun _ => ?_) (fun _ => ?_)
  · refine go_widen (c2 := (167 + 2 * j + 1)) (s2 := (10310 + 8 * j + 6)) (by omega) (by omega) ?_
    refine go_sub (ls' := [(0, .retAddr 11), (1, .ref v1), (2, .ref v2), (3, .ref v3), (4, .int v4)]) [0, 1, 2, 3, 4] rfl ?_
    exact hk1617 q186.2 v1 v2 v3 v4
  · refine go_iconst (pc := 1448) C dL_law_1448 ki_0 ?_
    exact go_none _ _ _
set_option maxHeartbeats 4000000 in
theorem gL_law_J1450 {Y : YT} {X : XT} {j : Nat} (hj : j ≤ 600) (C : CT Y X RL cL_law 8) (O : RO X 1000 601024 7293034) {r : Unit} {b L : Nat} {xs : Nat → Int32} (E : LX Y X b L xs) {k1617 : AH → Nat → Nat → Nat → Int32 → Option (Unit)} (hk1617 : ∀ (h : AH) (v1 : Nat) (v2 : Nat) (v3 : Nat) (v4 : Int32), GO Y X 8 r h (167 + 2 * j + 1) (10310 + 8 * j + 6) 1617 [(0, .retAddr 11), (1, .ref v1), (2, .ref v2), (3, .ref v3), (4, .int v4)] [] (k1617 h v1 v2 v3 v4)) : ∀ (h : AH) (v1 : Nat) (v2 : Nat) (v3 : Nat) (v4 : Int32), GO Y X 8 r h (167 + 2 * j + 0) (10310 + 8 * j + 0) 1450 [(0, .retAddr 11), (1, .ref v1), (2, .ref v2), (3, .ref v3), (4, .int v4)] [] (fL_law_J1450 xs L k1617 h v1 v2 v3 v4) := by
  intro h v1 v2 v3 v4
  unfold fL_law_J1450
  refine go_aload_n (pc := 1450) C 1 dL_law_1450 rfl ?_
  refine go_sload_n (pc := 1451) C 0 dL_law_1451 rfl ?_
  refine go_iload (pc := 1452) C 4 dL_law_1452 rfl ?_
  refine go_iconst (pc := 1454) C dL_law_1454 ki_1 ?_
  refine go_iadd (pc := 1455) C dL_law_1455 ?_
  refine go_sld (pc := 1456) C E dL_law_1456 (fun x187 => ?_)
  refine go_sload_n (pc := 1457) C 0 dL_law_1457 rfl ?_
  refine go_iload (pc := 1458) C 4 dL_law_1458 rfl ?_
  refine go_iconst (pc := 1460) C dL_law_1460 ki_2 ?_
  refine go_iadd (pc := 1461) C dL_law_1461 ?_
  refine go_sld (pc := 1462) C E dL_law_1462 (fun x188 => ?_)
  refine go_bind (fun q189 hq189 => ?_)
  refine go_callV (rest := []) (st' := [.int q189.1]) (c' := (167 + 2 * j + 1)) (s' := (10310 + 8 * j + 1)) (pc := 1463) C O miL_201 mvX10_years [.int x187, .int x188] rfl (mX10_years hq189).1 (mX10_years hq189).2 dL_law_1463 ⟨by decide, by decide, by omega, by omega⟩ rfl (Nat.le_of_ble_eq_true rfl) rfl ⟨by omega, by omega⟩ ?_
  refine go_aload_n (pc := 1466) C 2 dL_law_1466 rfl ?_
  refine go_sload_n (pc := 1467) C 0 dL_law_1467 rfl ?_
  refine go_iload (pc := 1468) C 4 dL_law_1468 rfl ?_
  refine go_iconst (pc := 1470) C dL_law_1470 ki_1 ?_
  refine go_iadd (pc := 1471) C dL_law_1471 ?_
  refine go_sld (pc := 1472) C E dL_law_1472 (fun x190 => ?_)
  refine go_sload_n (pc := 1473) C 0 dL_law_1473 rfl ?_
  refine go_iload (pc := 1474) C 4 dL_law_1474 rfl ?_
  refine go_iconst (pc := 1476) C dL_law_1476 ki_2 ?_
  refine go_iadd (pc := 1477) C dL_law_1477 ?_
  refine go_sld (pc := 1478) C E dL_law_1478 (fun x191 => ?_)
  refine go_bind (fun q192 hq192 => ?_)
  refine go_callV (rest := [.int q189.1]) (st' := [.int q192.1, .int q189.1]) (c' := (167 + 2 * j + 1)) (s' := (10310 + 8 * j + 1)) (pc := 1479) C O miL_204 mvX11_years [.int x190, .int x191] rfl (mX11_years hq192).1 (mX11_years hq192).2 dL_law_1479 ⟨by decide, by decide, by omega, by omega⟩ rfl (Nat.le_of_ble_eq_true rfl) rfl ⟨by omega, by omega⟩ ?_
  refine go_icmp_eq (pc := 1482) C 1617 dL_law_1482 (by decide) (fun _ => ?_) (fun _ => ?_)
  · refine go_widen (c2 := (167 + 2 * j + 1)) (s2 := (10310 + 8 * j + 6)) (by omega) (by omega) ?_
    refine go_sub (ls' := [(0, .retAddr 11), (1, .ref v1), (2, .ref v2), (3, .ref v3), (4, .int v4)]) [0, 1, 2, 3, 4] rfl ?_
    exact hk1617 q192.2 v1 v2 v3 v4
  · refine go_iconst (pc := 1485) C dL_law_1485 ki_0 ?_
    exact go_none _ _ _
set_option maxHeartbeats 4000000 in
theorem gL_law_J1487 {Y : YT} {X : XT} {j : Nat} (hj : j ≤ 600) (C : CT Y X RL cL_law 8) (O : RO X 1000 601024 7293034) {r : Unit} {b L : Nat} {xs : Nat → Int32} (E : LX Y X b L xs) {k1617 : AH → Nat → Nat → Nat → Int32 → Option (Unit)} (hk1617 : ∀ (h : AH) (v1 : Nat) (v2 : Nat) (v3 : Nat) (v4 : Int32), GO Y X 8 r h (167 + 2 * j + 1) (10310 + 8 * j + 6) 1617 [(0, .retAddr 11), (1, .ref v1), (2, .ref v2), (3, .ref v3), (4, .int v4)] [] (k1617 h v1 v2 v3 v4)) : ∀ (h : AH) (v1 : Nat) (v2 : Nat) (v3 : Nat) (v4 : Int32), GO Y X 8 r h (167 + 2 * j + 0) (10310 + 8 * j + 0) 1487 [(0, .retAddr 11), (1, .ref v1), (2, .ref v2), (3, .ref v3), (4, .int v4)] [] (fL_law_J1487 xs L k1617 h v1 v2 v3 v4) := by
  intro h v1 v2 v3 v4
  unfold fL_law_J1487
  refine go_aload_n (pc := 1487) C 1 dL_law_1487 rfl ?_
  refine go_sload_n (pc := 1488) C 0 dL_law_1488 rfl ?_
  refine go_iload (pc := 1489) C 4 dL_law_1489 rfl ?_
  refine go_iconst (pc := 1491) C dL_law_1491 ki_1 ?_
  refine go_iadd (pc := 1492) C dL_law_1492 ?_
  refine go_sld (pc := 1493) C E dL_law_1493 (fun x193 => ?_)
  refine go_bind (fun q194 hq194 => ?_)
  refine go_callV (rest := []) (st' := [.int (b2i q194.1)]) (c' := (167 + 2 * j + 0)) (s' := (10310 + 8 * j + 0)) (pc := 1494) C O miL_205 mvX10_keep [.int x193] rfl (mX10_keep hq194).1 (mX10_keep hq194).2 dL_law_1494 ⟨by decide, by decide, by omega, by omega⟩ rfl (Nat.le_of_ble_eq_true rfl) rfl ⟨by omega, by omega⟩ ?_
  refine go_aload_n (pc := 1497) C 2 dL_law_1497 rfl ?_
  refine go_sload_n (pc := 1498) C 0 dL_law_1498 rfl ?_
  refine go_iload (pc := 1499) C 4 dL_law_1499 rfl ?_
  refine go_iconst (pc := 1501) C dL_law_1501 ki_1 ?_
  refine go_iadd (pc := 1502) C dL_law_1502 ?_
  refine go_sld (pc := 1503) C E dL_law_1503 (fun x195 => ?_)
  refine go_bind (fun q196 hq196 => ?_)
  refine go_callV (rest := [.int (b2i q194.1)]) (st' := [.int (b2i q196.1), .int (b2i q194.1)]) (c' := (167 + 2 * j + 0)) (s' := (10310 + 8 * j + 0)) (pc := 1504) C O miL_208 mvX11_keep [.int x195] rfl (mX11_keep hq196).1 (mX11_keep hq196).2 dL_law_1504 ⟨by decide, by decide, by omega, by omega⟩ rfl (Nat.le_of_ble_eq_true rfl) rfl ⟨by omega, by omega⟩ ?_
  refine go_icmp_eq (pc := 1507) C 1617 dL_law_1507 (by decide) (fun _ => ?_) (fun _ => ?_)
  · refine go_widen (c2 := (167 + 2 * j + 1)) (s2 := (10310 + 8 * j + 6)) (by omega) (by omega) ?_
    refine go_sub (ls' := [(0, .retAddr 11), (1, .ref v1), (2, .ref v2), (3, .ref v3), (4, .int v4)]) [0, 1, 2, 3, 4] rfl ?_
    exact hk1617 q196.2 v1 v2 v3 v4
  · refine go_iconst (pc := 1510) C dL_law_1510 ki_0 ?_
    exact go_none _ _ _
set_option maxHeartbeats 4000000 in
theorem gL_law_J1512 {Y : YT} {X : XT} {j : Nat} (hj : j ≤ 600) (C : CT Y X RL cL_law 8) (O : RO X 1000 601024 7293034) {r : Unit} {b L : Nat} {xs : Nat → Int32} (E : LX Y X b L xs) {k1617 : AH → Nat → Nat → Nat → Int32 → Option (Unit)} (hk1617 : ∀ (h : AH) (v1 : Nat) (v2 : Nat) (v3 : Nat) (v4 : Int32), GO Y X 8 r h (167 + 2 * j + 1) (10310 + 8 * j + 6) 1617 [(0, .retAddr 11), (1, .ref v1), (2, .ref v2), (3, .ref v3), (4, .int v4)] [] (k1617 h v1 v2 v3 v4)) : ∀ (h : AH) (v1 : Nat) (v2 : Nat) (v3 : Nat) (v4 : Int32), GO Y X 8 r h (167 + 2 * j + 0) (10310 + 8 * j + 0) 1512 [(0, .retAddr 11), (1, .ref v1), (2, .ref v2), (3, .ref v3), (4, .int v4)] [] (fL_law_J1512 xs L k1617 h v1 v2 v3 v4) := by
  intro h v1 v2 v3 v4
  unfold fL_law_J1512
  refine go_aload_n (pc := 1512) C 1 dL_law_1512 rfl ?_
  refine go_sload_n (pc := 1513) C 0 dL_law_1513 rfl ?_
  refine go_iload (pc := 1514) C 4 dL_law_1514 rfl ?_
  refine go_iconst (pc := 1516) C dL_law_1516 ki_1 ?_
  refine go_iadd (pc := 1517) C dL_law_1517 ?_
  refine go_sld (pc := 1518) C E dL_law_1518 (fun x197 => ?_)
  refine go_bind (fun q198 hq198 => ?_)
  refine go_callV (rest := []) (st' := [.int (b2i q198.1)]) (c' := (167 + 2 * j + 0)) (s' := (10310 + 8 * j + 0)) (pc := 1519) C O miL_209 mvX10_again [.int x197] rfl (mX10_again hq198).1 (mX10_again hq198).2 dL_law_1519 ⟨by decide, by decide, by omega, by omega⟩ rfl (Nat.le_of_ble_eq_true rfl) rfl ⟨by omega, by omega⟩ ?_
  refine go_aload_n (pc := 1522) C 2 dL_law_1522 rfl ?_
  refine go_sload_n (pc := 1523) C 0 dL_law_1523 rfl ?_
  refine go_iload (pc := 1524) C 4 dL_law_1524 rfl ?_
  refine go_iconst (pc := 1526) C dL_law_1526 ki_1 ?_
  refine go_iadd (pc := 1527) C dL_law_1527 ?_
  refine go_sld (pc := 1528) C E dL_law_1528 (fun x199 => ?_)
  refine go_bind (fun q200 hq200 => ?_)
  refine go_callV (rest := [.int (b2i q198.1)]) (st' := [.int (b2i q200.1), .int (b2i q198.1)]) (c' := (167 + 2 * j + 0)) (s' := (10310 + 8 * j + 0)) (pc := 1529) C O miL_212 mvX11_again [.int x199] rfl (mX11_again hq200).1 (mX11_again hq200).2 dL_law_1529 ⟨by decide, by decide, by omega, by omega⟩ rfl (Nat.le_of_ble_eq_true rfl) rfl ⟨by omega, by omega⟩ ?_
  refine go_icmp_eq (pc := 1532) C 1617 dL_law_1532 (by decide) (fun _ => ?_) (fun _ => ?_)
  · refine go_widen (c2 := (167 + 2 * j + 1)) (s2 := (10310 + 8 * j + 6)) (by omega) (by omega) ?_
    refine go_sub (ls' := [(0, .retAddr 11), (1, .ref v1), (2, .ref v2), (3, .ref v3), (4, .int v4)]) [0, 1, 2, 3, 4] rfl ?_
    exact hk1617 q200.2 v1 v2 v3 v4
  · refine go_iconst (pc := 1535) C dL_law_1535 ki_0 ?_
    exact go_none _ _ _
set_option maxHeartbeats 4000000 in
theorem gL_law_J1537 {Y : YT} {X : XT} {j : Nat} (hj : j ≤ 600) (C : CT Y X RL cL_law 8) (O : RO X 1000 601024 7293034) {r : Unit} {b L : Nat} {xs : Nat → Int32} (E : LX Y X b L xs) {k1617 : AH → Nat → Nat → Nat → Int32 → Option (Unit)} (hk1617 : ∀ (h : AH) (v1 : Nat) (v2 : Nat) (v3 : Nat) (v4 : Int32), GO Y X 8 r h (167 + 2 * j + 1) (10310 + 8 * j + 6) 1617 [(0, .retAddr 11), (1, .ref v1), (2, .ref v2), (3, .ref v3), (4, .int v4)] [] (k1617 h v1 v2 v3 v4)) : ∀ (h : AH) (v1 : Nat) (v2 : Nat) (v3 : Nat) (v4 : Int32), GO Y X 8 r h (167 + 2 * j + 0) (10310 + 8 * j + 0) 1537 [(0, .retAddr 11), (1, .ref v1), (2, .ref v2), (3, .ref v3), (4, .int v4)] [] (fL_law_J1537 xs L k1617 h v1 v2 v3 v4) := by
  intro h v1 v2 v3 v4
  unfold fL_law_J1537
  refine go_aload_n (pc := 1537) C 1 dL_law_1537 rfl ?_
  refine go_sload_n (pc := 1538) C 0 dL_law_1538 rfl ?_
  refine go_iload (pc := 1539) C 4 dL_law_1539 rfl ?_
  refine go_iconst (pc := 1541) C dL_law_1541 ki_1 ?_
  refine go_iadd (pc := 1542) C dL_law_1542 ?_
  refine go_sld (pc := 1543) C E dL_law_1543 (fun x201 => ?_)
  refine go_bind (fun q202 hq202 => ?_)
  refine go_callV (rest := []) (st' := [.int q202]) (c' := (167 + 2 * j + 0)) (s' := (10310 + 8 * j + 0)) (pc := 1544) C O miL_213 mvX10_count [.int x201] rfl (mX10_count hq202).1 (mX10_count hq202).2 dL_law_1544 ⟨by decide, by decide, by omega, by omega⟩ rfl (Nat.le_of_ble_eq_true rfl) rfl ⟨by omega, by omega⟩ ?_
  refine go_aload_n (pc := 1547) C 2 dL_law_1547 rfl ?_
  refine go_sload_n (pc := 1548) C 0 dL_law_1548 rfl ?_
  refine go_iload (pc := 1549) C 4 dL_law_1549 rfl ?_
  refine go_iconst (pc := 1551) C dL_law_1551 ki_1 ?_
  refine go_iadd (pc := 1552) C dL_law_1552 ?_
  refine go_sld (pc := 1553) C E dL_law_1553 (fun x203 => ?_)
  refine go_bind (fun q204 hq204 => ?_)
  refine go_callV (rest := [.int q202]) (st' := [.int q204.1, .int q202]) (c' := (167 + 2 * j + 0)) (s' := (10310 + 8 * j + 0)) (pc := 1554) C O miL_216 mvX11_count [.int x203] rfl (mX11_count hq204).1 (mX11_count hq204).2 dL_law_1554 ⟨by decide, by decide, by omega, by omega⟩ rfl (Nat.le_of_ble_eq_true rfl) rfl ⟨by omega, by omega⟩ ?_
  refine go_icmp_eq (pc := 1557) C 1617 dL_law_1557 (by decide) (fun _ => ?_) (fun _ => ?_)
  · refine go_widen (c2 := (167 + 2 * j + 1)) (s2 := (10310 + 8 * j + 6)) (by omega) (by omega) ?_
    refine go_sub (ls' := [(0, .retAddr 11), (1, .ref v1), (2, .ref v2), (3, .ref v3), (4, .int v4)]) [0, 1, 2, 3, 4] rfl ?_
    exact hk1617 q204.2 v1 v2 v3 v4
  · refine go_iconst (pc := 1560) C dL_law_1560 ki_0 ?_
    exact go_none _ _ _
set_option maxHeartbeats 4000000 in
theorem gL_law_J1562 {Y : YT} {X : XT} {j : Nat} (hj : j ≤ 600) (C : CT Y X RL cL_law 8) (O : RO X 1000 601024 7293034) {r : Unit} {b L : Nat} {xs : Nat → Int32} (E : LX Y X b L xs) {k1617 : AH → Nat → Nat → Nat → Int32 → Option (Unit)} (hk1617 : ∀ (h : AH) (v1 : Nat) (v2 : Nat) (v3 : Nat) (v4 : Int32), GO Y X 8 r h (167 + 2 * j + 1) (10310 + 8 * j + 6) 1617 [(0, .retAddr 11), (1, .ref v1), (2, .ref v2), (3, .ref v3), (4, .int v4)] [] (k1617 h v1 v2 v3 v4)) : ∀ (h : AH) (v1 : Nat) (v2 : Nat) (v3 : Nat) (v4 : Int32), GO Y X 8 r h (167 + 2 * j + 0) (10310 + 8 * j + 0) 1562 [(0, .retAddr 11), (1, .ref v1), (2, .ref v2), (3, .ref v3), (4, .int v4)] [] (fL_law_J1562 xs L k1617 h v1 v2 v3 v4) := by
  intro h v1 v2 v3 v4
  unfold fL_law_J1562
  refine go_aload_n (pc := 1562) C 1 dL_law_1562 rfl ?_
  refine go_sload_n (pc := 1563) C 0 dL_law_1563 rfl ?_
  refine go_iload (pc := 1564) C 4 dL_law_1564 rfl ?_
  refine go_iconst (pc := 1566) C dL_law_1566 ki_1 ?_
  refine go_iadd (pc := 1567) C dL_law_1567 ?_
  refine go_sld (pc := 1568) C E dL_law_1568 (fun x205 => ?_)
  refine go_aload_n (pc := 1569) C 3 dL_law_1569 rfl ?_
  refine go_bind (fun q206 hq206 => ?_)
  refine go_callW (rest := []) (st' := [.int q206.1]) (c' := (167 + 2 * j + 1)) (s' := (10310 + 8 * j + 6)) (pc := 1570) C E.2.2.2.2.2.2 O miL_217 [.ref v1, .int x205, .ref v3] rfl (mL_row hq206) dL_law_1570 ⟨by decide, by decide, by omega, by omega⟩ rfl (Nat.le_of_ble_eq_true rfl) rfl ⟨by omega, by omega⟩ ?_
  refine go_istore (ls' := [(5, .int q206.1), (0, .retAddr 11), (1, .ref v1), (2, .ref v2), (3, .ref v3), (4, .int v4)]) (pc := 1573) C dL_law_1573 (by decide) rfl ?_
  refine go_aload_n (pc := 1575) C 3 dL_law_1575 rfl ?_
  refine go_sload_n (pc := 1576) C 1 dL_law_1576 rfl ?_
  refine go_iload (pc := 1577) C 5 dL_law_1577 rfl ?_
  refine go_iconst (pc := 1579) C dL_law_1579 ki_1 ?_
  refine go_iadd (pc := 1580) C dL_law_1580 ?_
  refine go_sld (pc := 1581) C E dL_law_1581 (fun x207 => ?_)
  refine go_bind (fun q208 hq208 => ?_)
  refine go_callV (rest := []) (st' := [.long q208.1]) (c' := (167 + 2 * j + 1)) (s' := (10310 + 8 * j + 6)) (pc := 1582) C O miL_220 mvX11_row [.int x207] rfl (mX11_row hq208).1 (mX11_row hq208).2 dL_law_1582 ⟨by decide, by decide, by omega, by omega⟩ rfl (Nat.le_of_ble_eq_true rfl) rfl ⟨by omega, by omega⟩ ?_
  refine go_lstore (ls' := [(6, .long q208.1), (5, .int q206.1), (0, .retAddr 11), (1, .ref v1), (2, .ref v2), (3, .ref v3), (4, .int v4)]) (pc := 1585) C dL_law_1585 (by decide) rfl ?_
  refine go_aload_n (pc := 1587) C 4 dL_law_1587 rfl ?_
  refine go_bind (fun q209 hq209 => ?_)
  refine go_callV (rest := []) (st' := [.int q209]) (c' := (167 + 2 * j + 1)) (s' := (10310 + 8 * j + 6)) (pc := 1588) C O miL_54 mvX11_thrown [] rfl (mX11_thrown hq209).1 (mX11_thrown hq209).2 dL_law_1588 ⟨by decide, by decide, by omega, by omega⟩ rfl (Nat.le_of_ble_eq_true rfl) rfl ⟨by omega, by omega⟩ ?_
  refine go_iload (pc := 1591) C 1 dL_law_1591 rfl ?_
  refine go_icmp_eq (pc := 1593) C 1598 dL_law_1593 (by decide) (fun _ => ?_) (fun _ => ?_)
  · refine go_iload (pc := 1598) C 1 dL_law_1598 rfl ?_
    refine go_if_ne (pc := 1600) C 1614 dL_law_1600 (by decide) (fun _ => ?_) (fun _ => ?_)
    · refine go_aload_n (pc := 1603) C 5 dL_law_1603 rfl ?_
      refine go_iconst (pc := 1604) C dL_law_1604 ki_0 ?_
      refine go_lald (pc := 1605) C dL_law_1605 (fun x210 => ?_)
      refine go_lload (pc := 1606) C 0 dL_law_1606 rfl ?_
      refine go_lcmp (pc := 1608) C dL_law_1608 ?_
      refine go_if_eq (pc := 1609) C 1614 dL_law_1609 (by decide) (fun _ => ?_) (fun _ => ?_)
      · refine go_goto (pc := 1614) C 1617 dL_law_1614 (by decide) ?_
        refine go_sub (ls' := [(0, .retAddr 11), (1, .ref v1), (2, .ref v2), (3, .ref v3), (4, .int v4)]) [2, 3, 4, 5, 6] rfl ?_
        exact hk1617 q208.2 v1 v2 v3 v4
      · refine go_iconst (pc := 1612) C dL_law_1612 ki_0 ?_
        exact go_none _ _ _
    · refine go_goto (pc := 1614) C 1617 dL_law_1614 (by decide) ?_
      refine go_sub (ls' := [(0, .retAddr 11), (1, .ref v1), (2, .ref v2), (3, .ref v3), (4, .int v4)]) [2, 3, 4, 5, 6] rfl ?_
      exact hk1617 q208.2 v1 v2 v3 v4
  · refine go_iconst (pc := 1596) C dL_law_1596 ki_0 ?_
    exact go_none _ _ _
set_option maxHeartbeats 4000000 in
theorem gL_law_L23 {Y : YT} {X : XT} (C : CT Y X RL cL_law 8) (O : RO X 1000 601024 7293034) {r : Unit} {b L : Nat} {xs : Nat → Int32} (E : LX Y X b L xs) : ∀ (n : Nat) (j : Nat), j + n ≤ 600 → ∀ (h : AH) (v1 : Nat) (v2 : Nat) (v3 : Nat) (v4 : Int32), GO Y X 8 r h (167 + 2 * j + 0) (10310 + 8 * j + 0) 23 [(0, .retAddr 11), (1, .ref v1), (2, .ref v2), (3, .ref v3), (4, .int v4)] [] (fL_law_L23 xs L n h v1 v2 v3 v4) := by
  intro n
  induction n with
  | zero => intros; exact go_none _ _ _
  | succ n ih =>
    intro j hjn h v1 v2 v3 v4
    have hj : j ≤ 600 := by omega
    rw [fL_law_L23]
    refine go_iload (pc := 23) C 4 dL_law_23 rfl ?_
    refine go_sload_n (pc := 25) C 0 dL_law_25 rfl ?_
    refine go_slen (pc := 26) C E dL_law_26 ?_
    refine go_iconst (pc := 27) C dL_law_27 ki_5 ?_
    refine go_isub (pc := 28) C dL_law_28 ?_
    refine go_icmp_gt (pc := 29) C 1623 dL_law_29 (by decide) (fun _ => ?_) (fun _ => ?_)
    · refine go_iconst (pc := 1623) C dL_law_1623 ki_1 ?_
      exact go_lawret (pc := 1624) C E (by omega) (by omega) dL_law_1624
    · refine go_sload_n (pc := 32) C 0 dL_law_32 rfl ?_
      refine go_iload (pc := 33) C 4 dL_law_33 rfl ?_
      refine go_sld (pc := 35) C E dL_law_35 (fun x211 => ?_)
      refine go_bipush (pc := 36) C dL_law_36 kb_63 ?_
      refine go_iand (pc := 38) C dL_law_38 ?_
      refine go_ite (fun hc212 => ?_) (fun hc212 => ?_)
      · refine go_tsw (pc := 39) C 236 0 hc212 dL_law_39 (by decide) (by decide) rfl (by decide) ?_
        refine go_sub (ls' := [(0, .retAddr 11), (1, .ref v1), (2, .ref v2), (3, .ref v3), (4, .int v4)]) [0, 1, 2, 3, 4] rfl ?_
        refine gL_law_J236 hj C O E (fun h217 x213 x214 x215 x216 => ?_) h v1 v2 v3 v4
        · refine go_iincL (pc := 1617) C 4 dL_law_1617 rfl ki_5 (by decide) (fun x218 => [(4, .int x218), (0, .retAddr 11), (1, .ref x213), (2, .ref x214), (3, .ref x215)]) (fun _ => rfl) (fun x218 => ?_)
          refine go_goto (pc := 1620) C 23 dL_law_1620 (by decide) ?_
          refine go_widen (c2 := (167 + 2 * (j + 1) + 0)) (s2 := (10310 + 8 * (j + 1) + 0)) (by omega) (by omega) ?_
          refine go_sub (ls' := [(0, .retAddr 11), (1, .ref x213), (2, .ref x214), (3, .ref x215), (4, .int x218)]) [1, 2, 3, 4, 0] rfl ?_
          exact ih (j + 1) (by omega) h217 x213 x214 x215 x218
      · refine go_ite (fun hc219 => ?_) (fun hc219 => ?_)
        · refine go_tsw (pc := 39) C 261 1 hc219 dL_law_39 (by decide) (by decide) rfl (by decide) ?_
          refine go_sub (ls' := [(0, .retAddr 11), (1, .ref v1), (2, .ref v2), (3, .ref v3), (4, .int v4)]) [0, 1, 2, 3, 4] rfl ?_
          refine gL_law_J261 hj C O E (fun h224 x220 x221 x222 x223 => ?_) h v1 v2 v3 v4
          · refine go_iincL (pc := 1617) C 4 dL_law_1617 rfl ki_5 (by decide) (fun x225 => [(4, .int x225), (0, .retAddr 11), (1, .ref x220), (2, .ref x221), (3, .ref x222)]) (fun _ => rfl) (fun x225 => ?_)
            refine go_goto (pc := 1620) C 23 dL_law_1620 (by decide) ?_
            refine go_widen (c2 := (167 + 2 * (j + 1) + 0)) (s2 := (10310 + 8 * (j + 1) + 0)) (by omega) (by omega) ?_
            refine go_sub (ls' := [(0, .retAddr 11), (1, .ref x220), (2, .ref x221), (3, .ref x222), (4, .int x225)]) [1, 2, 3, 4, 0] rfl ?_
            exact ih (j + 1) (by omega) h224 x220 x221 x222 x225
        · refine go_ite (fun hc226 => ?_) (fun hc226 => ?_)
          · refine go_tsw (pc := 39) C 286 2 hc226 dL_law_39 (by decide) (by decide) rfl (by decide) ?_
            refine go_sub (ls' := [(0, .retAddr 11), (1, .ref v1), (2, .ref v2), (3, .ref v3), (4, .int v4)]) [0, 1, 2, 3, 4] rfl ?_
            refine gL_law_J286 hj C O E (fun h231 x227 x228 x229 x230 => ?_) h v1 v2 v3 v4
            · refine go_iincL (pc := 1617) C 4 dL_law_1617 rfl ki_5 (by decide) (fun x232 => [(4, .int x232), (0, .retAddr 11), (1, .ref x227), (2, .ref x228), (3, .ref x229)]) (fun _ => rfl) (fun x232 => ?_)
              refine go_goto (pc := 1620) C 23 dL_law_1620 (by decide) ?_
              refine go_widen (c2 := (167 + 2 * (j + 1) + 0)) (s2 := (10310 + 8 * (j + 1) + 0)) (by omega) (by omega) ?_
              refine go_sub (ls' := [(0, .retAddr 11), (1, .ref x227), (2, .ref x228), (3, .ref x229), (4, .int x232)]) [1, 2, 3, 4, 0] rfl ?_
              exact ih (j + 1) (by omega) h231 x227 x228 x229 x232
          · refine go_ite (fun hc233 => ?_) (fun hc233 => ?_)
            · refine go_tsw (pc := 39) C 299 3 hc233 dL_law_39 (by decide) (by decide) rfl (by decide) ?_
              refine go_sub (ls' := [(0, .retAddr 11), (1, .ref v1), (2, .ref v2), (3, .ref v3), (4, .int v4)]) [0, 1, 2, 3, 4] rfl ?_
              refine gL_law_J299 hj C O E (fun h238 x234 x235 x236 x237 => ?_) h v1 v2 v3 v4
              · refine go_iincL (pc := 1617) C 4 dL_law_1617 rfl ki_5 (by decide) (fun x239 => [(4, .int x239), (0, .retAddr 11), (1, .ref x234), (2, .ref x235), (3, .ref x236)]) (fun _ => rfl) (fun x239 => ?_)
                refine go_goto (pc := 1620) C 23 dL_law_1620 (by decide) ?_
                refine go_widen (c2 := (167 + 2 * (j + 1) + 0)) (s2 := (10310 + 8 * (j + 1) + 0)) (by omega) (by omega) ?_
                refine go_sub (ls' := [(0, .retAddr 11), (1, .ref x234), (2, .ref x235), (3, .ref x236), (4, .int x239)]) [1, 2, 3, 4, 0] rfl ?_
                exact ih (j + 1) (by omega) h238 x234 x235 x236 x239
            · refine go_ite (fun hc240 => ?_) (fun hc240 => ?_)
              · refine go_tsw (pc := 39) C 312 4 hc240 dL_law_39 (by decide) (by decide) rfl (by decide) ?_
                refine go_sub (ls' := [(0, .retAddr 11), (1, .ref v1), (2, .ref v2), (3, .ref v3), (4, .int v4)]) [0, 1, 2, 3, 4] rfl ?_
                refine gL_law_J312 hj C O E (fun h245 x241 x242 x243 x244 => ?_) h v1 v2 v3 v4
                · refine go_iincL (pc := 1617) C 4 dL_law_1617 rfl ki_5 (by decide) (fun x246 => [(4, .int x246), (0, .retAddr 11), (1, .ref x241), (2, .ref x242), (3, .ref x243)]) (fun _ => rfl) (fun x246 => ?_)
                  refine go_goto (pc := 1620) C 23 dL_law_1620 (by decide) ?_
                  refine go_widen (c2 := (167 + 2 * (j + 1) + 0)) (s2 := (10310 + 8 * (j + 1) + 0)) (by omega) (by omega) ?_
                  refine go_sub (ls' := [(0, .retAddr 11), (1, .ref x241), (2, .ref x242), (3, .ref x243), (4, .int x246)]) [1, 2, 3, 4, 0] rfl ?_
                  exact ih (j + 1) (by omega) h245 x241 x242 x243 x246
              · refine go_ite (fun hc247 => ?_) (fun hc247 => ?_)
                · refine go_tsw (pc := 39) C 380 5 hc247 dL_law_39 (by decide) (by decide) rfl (by decide) ?_
                  refine go_sub (ls' := [(0, .retAddr 11), (1, .ref v1), (2, .ref v2), (3, .ref v3), (4, .int v4)]) [0, 1, 2, 3, 4] rfl ?_
                  refine gL_law_J380 hj C O E (fun h252 x248 x249 x250 x251 => ?_) h v1 v2 v3 v4
                  · refine go_iincL (pc := 1617) C 4 dL_law_1617 rfl ki_5 (by decide) (fun x253 => [(4, .int x253), (0, .retAddr 11), (1, .ref x248), (2, .ref x249), (3, .ref x250)]) (fun _ => rfl) (fun x253 => ?_)
                    refine go_goto (pc := 1620) C 23 dL_law_1620 (by decide) ?_
                    refine go_widen (c2 := (167 + 2 * (j + 1) + 0)) (s2 := (10310 + 8 * (j + 1) + 0)) (by omega) (by omega) ?_
                    refine go_sub (ls' := [(0, .retAddr 11), (1, .ref x248), (2, .ref x249), (3, .ref x250), (4, .int x253)]) [1, 2, 3, 4, 0] rfl ?_
                    exact ih (j + 1) (by omega) h252 x248 x249 x250 x253
                · refine go_ite (fun hc254 => ?_) (fun hc254 => ?_)
                  · refine go_tsw (pc := 39) C 448 6 hc254 dL_law_39 (by decide) (by decide) rfl (by decide) ?_
                    refine go_sub (ls' := [(0, .retAddr 11), (1, .ref v1), (2, .ref v2), (3, .ref v3), (4, .int v4)]) [0, 1, 2, 3, 4] rfl ?_
                    refine gL_law_J448 hj C O E (fun h259 x255 x256 x257 x258 => ?_) h v1 v2 v3 v4
                    · refine go_iincL (pc := 1617) C 4 dL_law_1617 rfl ki_5 (by decide) (fun x260 => [(4, .int x260), (0, .retAddr 11), (1, .ref x255), (2, .ref x256), (3, .ref x257)]) (fun _ => rfl) (fun x260 => ?_)
                      refine go_goto (pc := 1620) C 23 dL_law_1620 (by decide) ?_
                      refine go_widen (c2 := (167 + 2 * (j + 1) + 0)) (s2 := (10310 + 8 * (j + 1) + 0)) (by omega) (by omega) ?_
                      refine go_sub (ls' := [(0, .retAddr 11), (1, .ref x255), (2, .ref x256), (3, .ref x257), (4, .int x260)]) [1, 2, 3, 4, 0] rfl ?_
                      exact ih (j + 1) (by omega) h259 x255 x256 x257 x260
                  · refine go_ite (fun hc261 => ?_) (fun hc261 => ?_)
                    · refine go_tsw (pc := 39) C 516 7 hc261 dL_law_39 (by decide) (by decide) rfl (by decide) ?_
                      refine go_sub (ls' := [(0, .retAddr 11), (1, .ref v1), (2, .ref v2), (3, .ref v3), (4, .int v4)]) [0, 1, 2, 3, 4] rfl ?_
                      refine gL_law_J516 hj C O E (fun h266 x262 x263 x264 x265 => ?_) h v1 v2 v3 v4
                      · refine go_iincL (pc := 1617) C 4 dL_law_1617 rfl ki_5 (by decide) (fun x267 => [(4, .int x267), (0, .retAddr 11), (1, .ref x262), (2, .ref x263), (3, .ref x264)]) (fun _ => rfl) (fun x267 => ?_)
                        refine go_goto (pc := 1620) C 23 dL_law_1620 (by decide) ?_
                        refine go_widen (c2 := (167 + 2 * (j + 1) + 0)) (s2 := (10310 + 8 * (j + 1) + 0)) (by omega) (by omega) ?_
                        refine go_sub (ls' := [(0, .retAddr 11), (1, .ref x262), (2, .ref x263), (3, .ref x264), (4, .int x267)]) [1, 2, 3, 4, 0] rfl ?_
                        exact ih (j + 1) (by omega) h266 x262 x263 x264 x267
                    · refine go_ite (fun hc268 => ?_) (fun hc268 => ?_)
                      · refine go_tsw (pc := 39) C 577 8 hc268 dL_law_39 (by decide) (by decide) rfl (by decide) ?_
                        refine go_sub (ls' := [(0, .retAddr 11), (1, .ref v1), (2, .ref v2), (3, .ref v3), (4, .int v4)]) [0, 1, 2, 3, 4] rfl ?_
                        refine gL_law_J577 hj C O E (fun h273 x269 x270 x271 x272 => ?_) h v1 v2 v3 v4
                        · refine go_iincL (pc := 1617) C 4 dL_law_1617 rfl ki_5 (by decide) (fun x274 => [(4, .int x274), (0, .retAddr 11), (1, .ref x269), (2, .ref x270), (3, .ref x271)]) (fun _ => rfl) (fun x274 => ?_)
                          refine go_goto (pc := 1620) C 23 dL_law_1620 (by decide) ?_
                          refine go_widen (c2 := (167 + 2 * (j + 1) + 0)) (s2 := (10310 + 8 * (j + 1) + 0)) (by omega) (by omega) ?_
                          refine go_sub (ls' := [(0, .retAddr 11), (1, .ref x269), (2, .ref x270), (3, .ref x271), (4, .int x274)]) [1, 2, 3, 4, 0] rfl ?_
                          exact ih (j + 1) (by omega) h273 x269 x270 x271 x274
                      · refine go_ite (fun hc275 => ?_) (fun hc275 => ?_)
                        · refine go_tsw (pc := 39) C 614 9 hc275 dL_law_39 (by decide) (by decide) rfl (by decide) ?_
                          refine go_sub (ls' := [(0, .retAddr 11), (1, .ref v1), (2, .ref v2), (3, .ref v3), (4, .int v4)]) [0, 1, 2, 3, 4] rfl ?_
                          refine gL_law_J614 hj C O E (fun h280 x276 x277 x278 x279 => ?_) h v1 v2 v3 v4
                          · refine go_iincL (pc := 1617) C 4 dL_law_1617 rfl ki_5 (by decide) (fun x281 => [(4, .int x281), (0, .retAddr 11), (1, .ref x276), (2, .ref x277), (3, .ref x278)]) (fun _ => rfl) (fun x281 => ?_)
                            refine go_goto (pc := 1620) C 23 dL_law_1620 (by decide) ?_
                            refine go_widen (c2 := (167 + 2 * (j + 1) + 0)) (s2 := (10310 + 8 * (j + 1) + 0)) (by omega) (by omega) ?_
                            refine go_sub (ls' := [(0, .retAddr 11), (1, .ref x276), (2, .ref x277), (3, .ref x278), (4, .int x281)]) [1, 2, 3, 4, 0] rfl ?_
                            exact ih (j + 1) (by omega) h280 x276 x277 x278 x281
                        · refine go_ite (fun hc282 => ?_) (fun hc282 => ?_)
                          · refine go_tsw (pc := 39) C 663 10 hc282 dL_law_39 (by decide) (by decide) rfl (by decide) ?_
                            refine go_sub (ls' := [(0, .retAddr 11), (1, .ref v1), (2, .ref v2), (3, .ref v3), (4, .int v4)]) [0, 1, 2, 3, 4] rfl ?_
                            refine gL_law_J663 hj C O E (fun h287 x283 x284 x285 x286 => ?_) h v1 v2 v3 v4
                            · refine go_iincL (pc := 1617) C 4 dL_law_1617 rfl ki_5 (by decide) (fun x288 => [(4, .int x288), (0, .retAddr 11), (1, .ref x283), (2, .ref x284), (3, .ref x285)]) (fun _ => rfl) (fun x288 => ?_)
                              refine go_goto (pc := 1620) C 23 dL_law_1620 (by decide) ?_
                              refine go_widen (c2 := (167 + 2 * (j + 1) + 0)) (s2 := (10310 + 8 * (j + 1) + 0)) (by omega) (by omega) ?_
                              refine go_sub (ls' := [(0, .retAddr 11), (1, .ref x283), (2, .ref x284), (3, .ref x285), (4, .int x288)]) [1, 2, 3, 4, 0] rfl ?_
                              exact ih (j + 1) (by omega) h287 x283 x284 x285 x288
                          · refine go_ite (fun hc289 => ?_) (fun hc289 => ?_)
                            · refine go_tsw (pc := 39) C 688 11 hc289 dL_law_39 (by decide) (by decide) rfl (by decide) ?_
                              refine go_sub (ls' := [(0, .retAddr 11), (1, .ref v1), (2, .ref v2), (3, .ref v3), (4, .int v4)]) [0, 1, 2, 3, 4] rfl ?_
                              refine gL_law_J688 hj C O E (fun h294 x290 x291 x292 x293 => ?_) h v1 v2 v3 v4
                              · refine go_iincL (pc := 1617) C 4 dL_law_1617 rfl ki_5 (by decide) (fun x295 => [(4, .int x295), (0, .retAddr 11), (1, .ref x290), (2, .ref x291), (3, .ref x292)]) (fun _ => rfl) (fun x295 => ?_)
                                refine go_goto (pc := 1620) C 23 dL_law_1620 (by decide) ?_
                                refine go_widen (c2 := (167 + 2 * (j + 1) + 0)) (s2 := (10310 + 8 * (j + 1) + 0)) (by omega) (by omega) ?_
                                refine go_sub (ls' := [(0, .retAddr 11), (1, .ref x290), (2, .ref x291), (3, .ref x292), (4, .int x295)]) [1, 2, 3, 4, 0] rfl ?_
                                exact ih (j + 1) (by omega) h294 x290 x291 x292 x295
                            · refine go_ite (fun hc296 => ?_) (fun hc296 => ?_)
                              · refine go_tsw (pc := 39) C 713 12 hc296 dL_law_39 (by decide) (by decide) rfl (by decide) ?_
                                refine go_sub (ls' := [(0, .retAddr 11), (1, .ref v1), (2, .ref v2), (3, .ref v3), (4, .int v4)]) [0, 1, 2, 3, 4] rfl ?_
                                refine gL_law_J713 hj C O E (fun h301 x297 x298 x299 x300 => ?_) h v1 v2 v3 v4
                                · refine go_iincL (pc := 1617) C 4 dL_law_1617 rfl ki_5 (by decide) (fun x302 => [(4, .int x302), (0, .retAddr 11), (1, .ref x297), (2, .ref x298), (3, .ref x299)]) (fun _ => rfl) (fun x302 => ?_)
                                  refine go_goto (pc := 1620) C 23 dL_law_1620 (by decide) ?_
                                  refine go_widen (c2 := (167 + 2 * (j + 1) + 0)) (s2 := (10310 + 8 * (j + 1) + 0)) (by omega) (by omega) ?_
                                  refine go_sub (ls' := [(0, .retAddr 11), (1, .ref x297), (2, .ref x298), (3, .ref x299), (4, .int x302)]) [1, 2, 3, 4, 0] rfl ?_
                                  exact ih (j + 1) (by omega) h301 x297 x298 x299 x302
                              · refine go_ite (fun hc303 => ?_) (fun hc303 => ?_)
                                · refine go_tsw (pc := 39) C 762 13 hc303 dL_law_39 (by decide) (by decide) rfl (by decide) ?_
                                  refine go_sub (ls' := [(0, .retAddr 11), (1, .ref v1), (2, .ref v2), (3, .ref v3), (4, .int v4)]) [0, 1, 2, 3, 4] rfl ?_
                                  refine gL_law_J762 hj C O E (fun h308 x304 x305 x306 x307 => ?_) h v1 v2 v3 v4
                                  · refine go_iincL (pc := 1617) C 4 dL_law_1617 rfl ki_5 (by decide) (fun x309 => [(4, .int x309), (0, .retAddr 11), (1, .ref x304), (2, .ref x305), (3, .ref x306)]) (fun _ => rfl) (fun x309 => ?_)
                                    refine go_goto (pc := 1620) C 23 dL_law_1620 (by decide) ?_
                                    refine go_widen (c2 := (167 + 2 * (j + 1) + 0)) (s2 := (10310 + 8 * (j + 1) + 0)) (by omega) (by omega) ?_
                                    refine go_sub (ls' := [(0, .retAddr 11), (1, .ref x304), (2, .ref x305), (3, .ref x306), (4, .int x309)]) [1, 2, 3, 4, 0] rfl ?_
                                    exact ih (j + 1) (by omega) h308 x304 x305 x306 x309
                                · refine go_ite (fun hc310 => ?_) (fun hc310 => ?_)
                                  · refine go_tsw (pc := 39) C 787 14 hc310 dL_law_39 (by decide) (by decide) rfl (by decide) ?_
                                    refine go_sub (ls' := [(0, .retAddr 11), (1, .ref v1), (2, .ref v2), (3, .ref v3), (4, .int v4)]) [0, 1, 2, 3, 4] rfl ?_
                                    refine gL_law_J787 hj C O E (fun h315 x311 x312 x313 x314 => ?_) h v1 v2 v3 v4
                                    · refine go_iincL (pc := 1617) C 4 dL_law_1617 rfl ki_5 (by decide) (fun x316 => [(4, .int x316), (0, .retAddr 11), (1, .ref x311), (2, .ref x312), (3, .ref x313)]) (fun _ => rfl) (fun x316 => ?_)
                                      refine go_goto (pc := 1620) C 23 dL_law_1620 (by decide) ?_
                                      refine go_widen (c2 := (167 + 2 * (j + 1) + 0)) (s2 := (10310 + 8 * (j + 1) + 0)) (by omega) (by omega) ?_
                                      refine go_sub (ls' := [(0, .retAddr 11), (1, .ref x311), (2, .ref x312), (3, .ref x313), (4, .int x316)]) [1, 2, 3, 4, 0] rfl ?_
                                      exact ih (j + 1) (by omega) h315 x311 x312 x313 x316
                                  · refine go_ite (fun hc317 => ?_) (fun hc317 => ?_)
                                    · refine go_tsw (pc := 39) C 800 15 hc317 dL_law_39 (by decide) (by decide) rfl (by decide) ?_
                                      refine go_sub (ls' := [(0, .retAddr 11), (1, .ref v1), (2, .ref v2), (3, .ref v3), (4, .int v4)]) [0, 1, 2, 3, 4] rfl ?_
                                      refine gL_law_J800 hj C O E (fun h322 x318 x319 x320 x321 => ?_) h v1 v2 v3 v4
                                      · refine go_iincL (pc := 1617) C 4 dL_law_1617 rfl ki_5 (by decide) (fun x323 => [(4, .int x323), (0, .retAddr 11), (1, .ref x318), (2, .ref x319), (3, .ref x320)]) (fun _ => rfl) (fun x323 => ?_)
                                        refine go_goto (pc := 1620) C 23 dL_law_1620 (by decide) ?_
                                        refine go_widen (c2 := (167 + 2 * (j + 1) + 0)) (s2 := (10310 + 8 * (j + 1) + 0)) (by omega) (by omega) ?_
                                        refine go_sub (ls' := [(0, .retAddr 11), (1, .ref x318), (2, .ref x319), (3, .ref x320), (4, .int x323)]) [1, 2, 3, 4, 0] rfl ?_
                                        exact ih (j + 1) (by omega) h322 x318 x319 x320 x323
                                    · refine go_ite (fun hc324 => ?_) (fun hc324 => ?_)
                                      · refine go_tsw (pc := 39) C 813 16 hc324 dL_law_39 (by decide) (by decide) rfl (by decide) ?_
                                        refine go_sub (ls' := [(0, .retAddr 11), (1, .ref v1), (2, .ref v2), (3, .ref v3), (4, .int v4)]) [0, 1, 2, 3, 4] rfl ?_
                                        refine gL_law_J813 hj C O E (fun h329 x325 x326 x327 x328 => ?_) h v1 v2 v3 v4
                                        · refine go_iincL (pc := 1617) C 4 dL_law_1617 rfl ki_5 (by decide) (fun x330 => [(4, .int x330), (0, .retAddr 11), (1, .ref x325), (2, .ref x326), (3, .ref x327)]) (fun _ => rfl) (fun x330 => ?_)
                                          refine go_goto (pc := 1620) C 23 dL_law_1620 (by decide) ?_
                                          refine go_widen (c2 := (167 + 2 * (j + 1) + 0)) (s2 := (10310 + 8 * (j + 1) + 0)) (by omega) (by omega) ?_
                                          refine go_sub (ls' := [(0, .retAddr 11), (1, .ref x325), (2, .ref x326), (3, .ref x327), (4, .int x330)]) [1, 2, 3, 4, 0] rfl ?_
                                          exact ih (j + 1) (by omega) h329 x325 x326 x327 x330
                                      · refine go_ite (fun hc331 => ?_) (fun hc331 => ?_)
                                        · refine go_tsw (pc := 39) C 838 17 hc331 dL_law_39 (by decide) (by decide) rfl (by decide) ?_
                                          refine go_sub (ls' := [(0, .retAddr 11), (1, .ref v1), (2, .ref v2), (3, .ref v3), (4, .int v4)]) [0, 1, 2, 3, 4] rfl ?_
                                          refine gL_law_J838 hj C O E (fun h336 x332 x333 x334 x335 => ?_) h v1 v2 v3 v4
                                          · refine go_iincL (pc := 1617) C 4 dL_law_1617 rfl ki_5 (by decide) (fun x337 => [(4, .int x337), (0, .retAddr 11), (1, .ref x332), (2, .ref x333), (3, .ref x334)]) (fun _ => rfl) (fun x337 => ?_)
                                            refine go_goto (pc := 1620) C 23 dL_law_1620 (by decide) ?_
                                            refine go_widen (c2 := (167 + 2 * (j + 1) + 0)) (s2 := (10310 + 8 * (j + 1) + 0)) (by omega) (by omega) ?_
                                            refine go_sub (ls' := [(0, .retAddr 11), (1, .ref x332), (2, .ref x333), (3, .ref x334), (4, .int x337)]) [1, 2, 3, 4, 0] rfl ?_
                                            exact ih (j + 1) (by omega) h336 x332 x333 x334 x337
                                        · refine go_ite (fun hc338 => ?_) (fun hc338 => ?_)
                                          · refine go_tsw (pc := 39) C 875 18 hc338 dL_law_39 (by decide) (by decide) rfl (by decide) ?_
                                            refine go_sub (ls' := [(0, .retAddr 11), (1, .ref v1), (2, .ref v2), (3, .ref v3), (4, .int v4)]) [0, 1, 2, 3, 4] rfl ?_
                                            refine gL_law_J875 hj C O E (fun h343 x339 x340 x341 x342 => ?_) h v1 v2 v3 v4
                                            · refine go_iincL (pc := 1617) C 4 dL_law_1617 rfl ki_5 (by decide) (fun x344 => [(4, .int x344), (0, .retAddr 11), (1, .ref x339), (2, .ref x340), (3, .ref x341)]) (fun _ => rfl) (fun x344 => ?_)
                                              refine go_goto (pc := 1620) C 23 dL_law_1620 (by decide) ?_
                                              refine go_widen (c2 := (167 + 2 * (j + 1) + 0)) (s2 := (10310 + 8 * (j + 1) + 0)) (by omega) (by omega) ?_
                                              refine go_sub (ls' := [(0, .retAddr 11), (1, .ref x339), (2, .ref x340), (3, .ref x341), (4, .int x344)]) [1, 2, 3, 4, 0] rfl ?_
                                              exact ih (j + 1) (by omega) h343 x339 x340 x341 x344
                                          · refine go_ite (fun hc345 => ?_) (fun hc345 => ?_)
                                            · refine go_tsw (pc := 39) C 900 19 hc345 dL_law_39 (by decide) (by decide) rfl (by decide) ?_
                                              refine go_sub (ls' := [(0, .retAddr 11), (1, .ref v1), (2, .ref v2), (3, .ref v3), (4, .int v4)]) [0, 1, 2, 3, 4] rfl ?_
                                              refine gL_law_J900 hj C O E (fun h350 x346 x347 x348 x349 => ?_) h v1 v2 v3 v4
                                              · refine go_iincL (pc := 1617) C 4 dL_law_1617 rfl ki_5 (by decide) (fun x351 => [(4, .int x351), (0, .retAddr 11), (1, .ref x346), (2, .ref x347), (3, .ref x348)]) (fun _ => rfl) (fun x351 => ?_)
                                                refine go_goto (pc := 1620) C 23 dL_law_1620 (by decide) ?_
                                                refine go_widen (c2 := (167 + 2 * (j + 1) + 0)) (s2 := (10310 + 8 * (j + 1) + 0)) (by omega) (by omega) ?_
                                                refine go_sub (ls' := [(0, .retAddr 11), (1, .ref x346), (2, .ref x347), (3, .ref x348), (4, .int x351)]) [1, 2, 3, 4, 0] rfl ?_
                                                exact ih (j + 1) (by omega) h350 x346 x347 x348 x351
                                            · refine go_ite (fun hc352 => ?_) (fun hc352 => ?_)
                                              · refine go_tsw (pc := 39) C 937 20 hc352 dL_law_39 (by decide) (by decide) rfl (by decide) ?_
                                                refine go_sub (ls' := [(0, .retAddr 11), (1, .ref v1), (2, .ref v2), (3, .ref v3), (4, .int v4)]) [0, 1, 2, 3, 4] rfl ?_
                                                refine gL_law_J937 hj C O E (fun h357 x353 x354 x355 x356 => ?_) h v1 v2 v3 v4
                                                · refine go_iincL (pc := 1617) C 4 dL_law_1617 rfl ki_5 (by decide) (fun x358 => [(4, .int x358), (0, .retAddr 11), (1, .ref x353), (2, .ref x354), (3, .ref x355)]) (fun _ => rfl) (fun x358 => ?_)
                                                  refine go_goto (pc := 1620) C 23 dL_law_1620 (by decide) ?_
                                                  refine go_widen (c2 := (167 + 2 * (j + 1) + 0)) (s2 := (10310 + 8 * (j + 1) + 0)) (by omega) (by omega) ?_
                                                  refine go_sub (ls' := [(0, .retAddr 11), (1, .ref x353), (2, .ref x354), (3, .ref x355), (4, .int x358)]) [1, 2, 3, 4, 0] rfl ?_
                                                  exact ih (j + 1) (by omega) h357 x353 x354 x355 x358
                                              · refine go_ite (fun hc359 => ?_) (fun hc359 => ?_)
                                                · refine go_tsw (pc := 39) C 974 21 hc359 dL_law_39 (by decide) (by decide) rfl (by decide) ?_
                                                  refine go_sub (ls' := [(0, .retAddr 11), (1, .ref v1), (2, .ref v2), (3, .ref v3), (4, .int v4)]) [0, 1, 2, 3, 4] rfl ?_
                                                  refine gL_law_J974 hj C O E (fun h364 x360 x361 x362 x363 => ?_) h v1 v2 v3 v4
                                                  · refine go_iincL (pc := 1617) C 4 dL_law_1617 rfl ki_5 (by decide) (fun x365 => [(4, .int x365), (0, .retAddr 11), (1, .ref x360), (2, .ref x361), (3, .ref x362)]) (fun _ => rfl) (fun x365 => ?_)
                                                    refine go_goto (pc := 1620) C 23 dL_law_1620 (by decide) ?_
                                                    refine go_widen (c2 := (167 + 2 * (j + 1) + 0)) (s2 := (10310 + 8 * (j + 1) + 0)) (by omega) (by omega) ?_
                                                    refine go_sub (ls' := [(0, .retAddr 11), (1, .ref x360), (2, .ref x361), (3, .ref x362), (4, .int x365)]) [1, 2, 3, 4, 0] rfl ?_
                                                    exact ih (j + 1) (by omega) h364 x360 x361 x362 x365
                                                · refine go_ite (fun hc366 => ?_) (fun hc366 => ?_)
                                                  · refine go_tsw (pc := 39) C 1011 22 hc366 dL_law_39 (by decide) (by decide) rfl (by decide) ?_
                                                    refine go_sub (ls' := [(0, .retAddr 11), (1, .ref v1), (2, .ref v2), (3, .ref v3), (4, .int v4)]) [0, 1, 2, 3, 4] rfl ?_
                                                    refine gL_law_J1011 hj C O E (fun h371 x367 x368 x369 x370 => ?_) h v1 v2 v3 v4
                                                    · refine go_iincL (pc := 1617) C 4 dL_law_1617 rfl ki_5 (by decide) (fun x372 => [(4, .int x372), (0, .retAddr 11), (1, .ref x367), (2, .ref x368), (3, .ref x369)]) (fun _ => rfl) (fun x372 => ?_)
                                                      refine go_goto (pc := 1620) C 23 dL_law_1620 (by decide) ?_
                                                      refine go_widen (c2 := (167 + 2 * (j + 1) + 0)) (s2 := (10310 + 8 * (j + 1) + 0)) (by omega) (by omega) ?_
                                                      refine go_sub (ls' := [(0, .retAddr 11), (1, .ref x367), (2, .ref x368), (3, .ref x369), (4, .int x372)]) [1, 2, 3, 4, 0] rfl ?_
                                                      exact ih (j + 1) (by omega) h371 x367 x368 x369 x372
                                                  · refine go_ite (fun hc373 => ?_) (fun hc373 => ?_)
                                                    · refine go_tsw (pc := 39) C 1024 23 hc373 dL_law_39 (by decide) (by decide) rfl (by decide) ?_
                                                      refine go_sub (ls' := [(0, .retAddr 11), (1, .ref v1), (2, .ref v2), (3, .ref v3), (4, .int v4)]) [0, 1, 2, 3, 4] rfl ?_
                                                      refine gL_law_J1024 hj C O E (fun h378 x374 x375 x376 x377 => ?_) h v1 v2 v3 v4
                                                      · refine go_iincL (pc := 1617) C 4 dL_law_1617 rfl ki_5 (by decide) (fun x379 => [(4, .int x379), (0, .retAddr 11), (1, .ref x374), (2, .ref x375), (3, .ref x376)]) (fun _ => rfl) (fun x379 => ?_)
                                                        refine go_goto (pc := 1620) C 23 dL_law_1620 (by decide) ?_
                                                        refine go_widen (c2 := (167 + 2 * (j + 1) + 0)) (s2 := (10310 + 8 * (j + 1) + 0)) (by omega) (by omega) ?_
                                                        refine go_sub (ls' := [(0, .retAddr 11), (1, .ref x374), (2, .ref x375), (3, .ref x376), (4, .int x379)]) [1, 2, 3, 4, 0] rfl ?_
                                                        exact ih (j + 1) (by omega) h378 x374 x375 x376 x379
                                                    · refine go_ite (fun hc380 => ?_) (fun hc380 => ?_)
                                                      · refine go_tsw (pc := 39) C 1037 24 hc380 dL_law_39 (by decide) (by decide) rfl (by decide) ?_
                                                        refine go_sub (ls' := [(0, .retAddr 11), (1, .ref v1), (2, .ref v2), (3, .ref v3), (4, .int v4)]) [0, 1, 2, 3, 4] rfl ?_
                                                        refine gL_law_J1037 hj C O E (fun h385 x381 x382 x383 x384 => ?_) h v1 v2 v3 v4
                                                        · refine go_iincL (pc := 1617) C 4 dL_law_1617 rfl ki_5 (by decide) (fun x386 => [(4, .int x386), (0, .retAddr 11), (1, .ref x381), (2, .ref x382), (3, .ref x383)]) (fun _ => rfl) (fun x386 => ?_)
                                                          refine go_goto (pc := 1620) C 23 dL_law_1620 (by decide) ?_
                                                          refine go_widen (c2 := (167 + 2 * (j + 1) + 0)) (s2 := (10310 + 8 * (j + 1) + 0)) (by omega) (by omega) ?_
                                                          refine go_sub (ls' := [(0, .retAddr 11), (1, .ref x381), (2, .ref x382), (3, .ref x383), (4, .int x386)]) [1, 2, 3, 4, 0] rfl ?_
                                                          exact ih (j + 1) (by omega) h385 x381 x382 x383 x386
                                                      · refine go_ite (fun hc387 => ?_) (fun hc387 => ?_)
                                                        · refine go_tsw (pc := 39) C 1050 25 hc387 dL_law_39 (by decide) (by decide) rfl (by decide) ?_
                                                          refine go_sub (ls' := [(0, .retAddr 11), (1, .ref v1), (2, .ref v2), (3, .ref v3), (4, .int v4)]) [0, 1, 2, 3, 4] rfl ?_
                                                          refine gL_law_J1050 hj C O E (fun h392 x388 x389 x390 x391 => ?_) h v1 v2 v3 v4
                                                          · refine go_iincL (pc := 1617) C 4 dL_law_1617 rfl ki_5 (by decide) (fun x393 => [(4, .int x393), (0, .retAddr 11), (1, .ref x388), (2, .ref x389), (3, .ref x390)]) (fun _ => rfl) (fun x393 => ?_)
                                                            refine go_goto (pc := 1620) C 23 dL_law_1620 (by decide) ?_
                                                            refine go_widen (c2 := (167 + 2 * (j + 1) + 0)) (s2 := (10310 + 8 * (j + 1) + 0)) (by omega) (by omega) ?_
                                                            refine go_sub (ls' := [(0, .retAddr 11), (1, .ref x388), (2, .ref x389), (3, .ref x390), (4, .int x393)]) [1, 2, 3, 4, 0] rfl ?_
                                                            exact ih (j + 1) (by omega) h392 x388 x389 x390 x393
                                                        · refine go_ite (fun hc394 => ?_) (fun hc394 => ?_)
                                                          · refine go_tsw (pc := 39) C 1075 26 hc394 dL_law_39 (by decide) (by decide) rfl (by decide) ?_
                                                            refine go_sub (ls' := [(0, .retAddr 11), (1, .ref v1), (2, .ref v2), (3, .ref v3), (4, .int v4)]) [0, 1, 2, 3, 4] rfl ?_
                                                            refine gL_law_J1075 hj C O E (fun h399 x395 x396 x397 x398 => ?_) h v1 v2 v3 v4
                                                            · refine go_iincL (pc := 1617) C 4 dL_law_1617 rfl ki_5 (by decide) (fun x400 => [(4, .int x400), (0, .retAddr 11), (1, .ref x395), (2, .ref x396), (3, .ref x397)]) (fun _ => rfl) (fun x400 => ?_)
                                                              refine go_goto (pc := 1620) C 23 dL_law_1620 (by decide) ?_
                                                              refine go_widen (c2 := (167 + 2 * (j + 1) + 0)) (s2 := (10310 + 8 * (j + 1) + 0)) (by omega) (by omega) ?_
                                                              refine go_sub (ls' := [(0, .retAddr 11), (1, .ref x395), (2, .ref x396), (3, .ref x397), (4, .int x400)]) [1, 2, 3, 4, 0] rfl ?_
                                                              exact ih (j + 1) (by omega) h399 x395 x396 x397 x400
                                                          · refine go_ite (fun hc401 => ?_) (fun hc401 => ?_)
                                                            · refine go_tsw (pc := 39) C 1100 27 hc401 dL_law_39 (by decide) (by decide) rfl (by decide) ?_
                                                              refine go_sub (ls' := [(0, .retAddr 11), (1, .ref v1), (2, .ref v2), (3, .ref v3), (4, .int v4)]) [0, 1, 2, 3, 4] rfl ?_
                                                              refine gL_law_J1100 hj C O E (fun h406 x402 x403 x404 x405 => ?_) h v1 v2 v3 v4
                                                              · refine go_iincL (pc := 1617) C 4 dL_law_1617 rfl ki_5 (by decide) (fun x407 => [(4, .int x407), (0, .retAddr 11), (1, .ref x402), (2, .ref x403), (3, .ref x404)]) (fun _ => rfl) (fun x407 => ?_)
                                                                refine go_goto (pc := 1620) C 23 dL_law_1620 (by decide) ?_
                                                                refine go_widen (c2 := (167 + 2 * (j + 1) + 0)) (s2 := (10310 + 8 * (j + 1) + 0)) (by omega) (by omega) ?_
                                                                refine go_sub (ls' := [(0, .retAddr 11), (1, .ref x402), (2, .ref x403), (3, .ref x404), (4, .int x407)]) [1, 2, 3, 4, 0] rfl ?_
                                                                exact ih (j + 1) (by omega) h406 x402 x403 x404 x407
                                                            · refine go_ite (fun hc408 => ?_) (fun hc408 => ?_)
                                                              · refine go_tsw (pc := 39) C 1137 28 hc408 dL_law_39 (by decide) (by decide) rfl (by decide) ?_
                                                                refine go_sub (ls' := [(0, .retAddr 11), (1, .ref v1), (2, .ref v2), (3, .ref v3), (4, .int v4)]) [0, 1, 2, 3, 4] rfl ?_
                                                                refine gL_law_J1137 hj C O E (fun h413 x409 x410 x411 x412 => ?_) h v1 v2 v3 v4
                                                                · refine go_iincL (pc := 1617) C 4 dL_law_1617 rfl ki_5 (by decide) (fun x414 => [(4, .int x414), (0, .retAddr 11), (1, .ref x409), (2, .ref x410), (3, .ref x411)]) (fun _ => rfl) (fun x414 => ?_)
                                                                  refine go_goto (pc := 1620) C 23 dL_law_1620 (by decide) ?_
                                                                  refine go_widen (c2 := (167 + 2 * (j + 1) + 0)) (s2 := (10310 + 8 * (j + 1) + 0)) (by omega) (by omega) ?_
                                                                  refine go_sub (ls' := [(0, .retAddr 11), (1, .ref x409), (2, .ref x410), (3, .ref x411), (4, .int x414)]) [1, 2, 3, 4, 0] rfl ?_
                                                                  exact ih (j + 1) (by omega) h413 x409 x410 x411 x414
                                                              · refine go_ite (fun hc415 => ?_) (fun hc415 => ?_)
                                                                · refine go_tsw (pc := 39) C 1174 29 hc415 dL_law_39 (by decide) (by decide) rfl (by decide) ?_
                                                                  refine go_sub (ls' := [(0, .retAddr 11), (1, .ref v1), (2, .ref v2), (3, .ref v3), (4, .int v4)]) [0, 1, 2, 3, 4] rfl ?_
                                                                  refine gL_law_J1174 hj C O E (fun h420 x416 x417 x418 x419 => ?_) h v1 v2 v3 v4
                                                                  · refine go_iincL (pc := 1617) C 4 dL_law_1617 rfl ki_5 (by decide) (fun x421 => [(4, .int x421), (0, .retAddr 11), (1, .ref x416), (2, .ref x417), (3, .ref x418)]) (fun _ => rfl) (fun x421 => ?_)
                                                                    refine go_goto (pc := 1620) C 23 dL_law_1620 (by decide) ?_
                                                                    refine go_widen (c2 := (167 + 2 * (j + 1) + 0)) (s2 := (10310 + 8 * (j + 1) + 0)) (by omega) (by omega) ?_
                                                                    refine go_sub (ls' := [(0, .retAddr 11), (1, .ref x416), (2, .ref x417), (3, .ref x418), (4, .int x421)]) [1, 2, 3, 4, 0] rfl ?_
                                                                    exact ih (j + 1) (by omega) h420 x416 x417 x418 x421
                                                                · refine go_ite (fun hc422 => ?_) (fun hc422 => ?_)
                                                                  · refine go_tsw (pc := 39) C 1223 30 hc422 dL_law_39 (by decide) (by decide) rfl (by decide) ?_
                                                                    refine go_sub (ls' := [(0, .retAddr 11), (1, .ref v1), (2, .ref v2), (3, .ref v3), (4, .int v4)]) [0, 1, 2, 3, 4] rfl ?_
                                                                    refine gL_law_J1223 hj C O E (fun h427 x423 x424 x425 x426 => ?_) h v1 v2 v3 v4
                                                                    · refine go_iincL (pc := 1617) C 4 dL_law_1617 rfl ki_5 (by decide) (fun x428 => [(4, .int x428), (0, .retAddr 11), (1, .ref x423), (2, .ref x424), (3, .ref x425)]) (fun _ => rfl) (fun x428 => ?_)
                                                                      refine go_goto (pc := 1620) C 23 dL_law_1620 (by decide) ?_
                                                                      refine go_widen (c2 := (167 + 2 * (j + 1) + 0)) (s2 := (10310 + 8 * (j + 1) + 0)) (by omega) (by omega) ?_
                                                                      refine go_sub (ls' := [(0, .retAddr 11), (1, .ref x423), (2, .ref x424), (3, .ref x425), (4, .int x428)]) [1, 2, 3, 4, 0] rfl ?_
                                                                      exact ih (j + 1) (by omega) h427 x423 x424 x425 x428
                                                                  · refine go_ite (fun hc429 => ?_) (fun hc429 => ?_)
                                                                    · refine go_tsw (pc := 39) C 1260 31 hc429 dL_law_39 (by decide) (by decide) rfl (by decide) ?_
                                                                      refine go_sub (ls' := [(0, .retAddr 11), (1, .ref v1), (2, .ref v2), (3, .ref v3), (4, .int v4)]) [0, 1, 2, 3, 4] rfl ?_
                                                                      refine gL_law_J1260 hj C O E (fun h434 x430 x431 x432 x433 => ?_) h v1 v2 v3 v4
                                                                      · refine go_iincL (pc := 1617) C 4 dL_law_1617 rfl ki_5 (by decide) (fun x435 => [(4, .int x435), (0, .retAddr 11), (1, .ref x430), (2, .ref x431), (3, .ref x432)]) (fun _ => rfl) (fun x435 => ?_)
                                                                        refine go_goto (pc := 1620) C 23 dL_law_1620 (by decide) ?_
                                                                        refine go_widen (c2 := (167 + 2 * (j + 1) + 0)) (s2 := (10310 + 8 * (j + 1) + 0)) (by omega) (by omega) ?_
                                                                        refine go_sub (ls' := [(0, .retAddr 11), (1, .ref x430), (2, .ref x431), (3, .ref x432), (4, .int x435)]) [1, 2, 3, 4, 0] rfl ?_
                                                                        exact ih (j + 1) (by omega) h434 x430 x431 x432 x435
                                                                    · refine go_ite (fun hc436 => ?_) (fun hc436 => ?_)
                                                                      · refine go_tsw (pc := 39) C 1273 32 hc436 dL_law_39 (by decide) (by decide) rfl (by decide) ?_
                                                                        refine go_sub (ls' := [(0, .retAddr 11), (1, .ref v1), (2, .ref v2), (3, .ref v3), (4, .int v4)]) [0, 1, 2, 3, 4] rfl ?_
                                                                        refine gL_law_J1273 hj C O E (fun h441 x437 x438 x439 x440 => ?_) h v1 v2 v3 v4
                                                                        · refine go_iincL (pc := 1617) C 4 dL_law_1617 rfl ki_5 (by decide) (fun x442 => [(4, .int x442), (0, .retAddr 11), (1, .ref x437), (2, .ref x438), (3, .ref x439)]) (fun _ => rfl) (fun x442 => ?_)
                                                                          refine go_goto (pc := 1620) C 23 dL_law_1620 (by decide) ?_
                                                                          refine go_widen (c2 := (167 + 2 * (j + 1) + 0)) (s2 := (10310 + 8 * (j + 1) + 0)) (by omega) (by omega) ?_
                                                                          refine go_sub (ls' := [(0, .retAddr 11), (1, .ref x437), (2, .ref x438), (3, .ref x439), (4, .int x442)]) [1, 2, 3, 4, 0] rfl ?_
                                                                          exact ih (j + 1) (by omega) h441 x437 x438 x439 x442
                                                                      · refine go_ite (fun hc443 => ?_) (fun hc443 => ?_)
                                                                        · refine go_tsw (pc := 39) C 1286 33 hc443 dL_law_39 (by decide) (by decide) rfl (by decide) ?_
                                                                          refine go_sub (ls' := [(0, .retAddr 11), (1, .ref v1), (2, .ref v2), (3, .ref v3), (4, .int v4)]) [0, 1, 2, 3, 4] rfl ?_
                                                                          refine gL_law_J1286 hj C O E (fun h448 x444 x445 x446 x447 => ?_) h v1 v2 v3 v4
                                                                          · refine go_iincL (pc := 1617) C 4 dL_law_1617 rfl ki_5 (by decide) (fun x449 => [(4, .int x449), (0, .retAddr 11), (1, .ref x444), (2, .ref x445), (3, .ref x446)]) (fun _ => rfl) (fun x449 => ?_)
                                                                            refine go_goto (pc := 1620) C 23 dL_law_1620 (by decide) ?_
                                                                            refine go_widen (c2 := (167 + 2 * (j + 1) + 0)) (s2 := (10310 + 8 * (j + 1) + 0)) (by omega) (by omega) ?_
                                                                            refine go_sub (ls' := [(0, .retAddr 11), (1, .ref x444), (2, .ref x445), (3, .ref x446), (4, .int x449)]) [1, 2, 3, 4, 0] rfl ?_
                                                                            exact ih (j + 1) (by omega) h448 x444 x445 x446 x449
                                                                        · refine go_ite (fun hc450 => ?_) (fun hc450 => ?_)
                                                                          · refine go_tsw (pc := 39) C 1299 34 hc450 dL_law_39 (by decide) (by decide) rfl (by decide) ?_
                                                                            refine go_sub (ls' := [(0, .retAddr 11), (1, .ref v1), (2, .ref v2), (3, .ref v3), (4, .int v4)]) [0, 1, 2, 3, 4] rfl ?_
                                                                            refine gL_law_J1299 hj C O E (fun h455 x451 x452 x453 x454 => ?_) h v1 v2 v3 v4
                                                                            · refine go_iincL (pc := 1617) C 4 dL_law_1617 rfl ki_5 (by decide) (fun x456 => [(4, .int x456), (0, .retAddr 11), (1, .ref x451), (2, .ref x452), (3, .ref x453)]) (fun _ => rfl) (fun x456 => ?_)
                                                                              refine go_goto (pc := 1620) C 23 dL_law_1620 (by decide) ?_
                                                                              refine go_widen (c2 := (167 + 2 * (j + 1) + 0)) (s2 := (10310 + 8 * (j + 1) + 0)) (by omega) (by omega) ?_
                                                                              refine go_sub (ls' := [(0, .retAddr 11), (1, .ref x451), (2, .ref x452), (3, .ref x453), (4, .int x456)]) [1, 2, 3, 4, 0] rfl ?_
                                                                              exact ih (j + 1) (by omega) h455 x451 x452 x453 x456
                                                                          · refine go_ite (fun hc457 => ?_) (fun hc457 => ?_)
                                                                            · refine go_tsw (pc := 39) C 1348 35 hc457 dL_law_39 (by decide) (by decide) rfl (by decide) ?_
                                                                              refine go_sub (ls' := [(0, .retAddr 11), (1, .ref v1), (2, .ref v2), (3, .ref v3), (4, .int v4)]) [0, 1, 2, 3, 4] rfl ?_
                                                                              refine gL_law_J1348 hj C O E (fun h462 x458 x459 x460 x461 => ?_) h v1 v2 v3 v4
                                                                              · refine go_iincL (pc := 1617) C 4 dL_law_1617 rfl ki_5 (by decide) (fun x463 => [(4, .int x463), (0, .retAddr 11), (1, .ref x458), (2, .ref x459), (3, .ref x460)]) (fun _ => rfl) (fun x463 => ?_)
                                                                                refine go_goto (pc := 1620) C 23 dL_law_1620 (by decide) ?_
                                                                                refine go_widen (c2 := (167 + 2 * (j + 1) + 0)) (s2 := (10310 + 8 * (j + 1) + 0)) (by omega) (by omega) ?_
                                                                                refine go_sub (ls' := [(0, .retAddr 11), (1, .ref x458), (2, .ref x459), (3, .ref x460), (4, .int x463)]) [1, 2, 3, 4, 0] rfl ?_
                                                                                exact ih (j + 1) (by omega) h462 x458 x459 x460 x463
                                                                            · refine go_ite (fun hc464 => ?_) (fun hc464 => ?_)
                                                                              · refine go_tsw (pc := 39) C 1361 36 hc464 dL_law_39 (by decide) (by decide) rfl (by decide) ?_
                                                                                refine go_sub (ls' := [(0, .retAddr 11), (1, .ref v1), (2, .ref v2), (3, .ref v3), (4, .int v4)]) [0, 1, 2, 3, 4] rfl ?_
                                                                                refine gL_law_J1361 hj C O E (fun h469 x465 x466 x467 x468 => ?_) h v1 v2 v3 v4
                                                                                · refine go_iincL (pc := 1617) C 4 dL_law_1617 rfl ki_5 (by decide) (fun x470 => [(4, .int x470), (0, .retAddr 11), (1, .ref x465), (2, .ref x466), (3, .ref x467)]) (fun _ => rfl) (fun x470 => ?_)
                                                                                  refine go_goto (pc := 1620) C 23 dL_law_1620 (by decide) ?_
                                                                                  refine go_widen (c2 := (167 + 2 * (j + 1) + 0)) (s2 := (10310 + 8 * (j + 1) + 0)) (by omega) (by omega) ?_
                                                                                  refine go_sub (ls' := [(0, .retAddr 11), (1, .ref x465), (2, .ref x466), (3, .ref x467), (4, .int x470)]) [1, 2, 3, 4, 0] rfl ?_
                                                                                  exact ih (j + 1) (by omega) h469 x465 x466 x467 x470
                                                                              · refine go_ite (fun hc471 => ?_) (fun hc471 => ?_)
                                                                                · refine go_tsw (pc := 39) C 1374 37 hc471 dL_law_39 (by decide) (by decide) rfl (by decide) ?_
                                                                                  refine go_sub (ls' := [(0, .retAddr 11), (1, .ref v1), (2, .ref v2), (3, .ref v3), (4, .int v4)]) [0, 1, 2, 3, 4] rfl ?_
                                                                                  refine gL_law_J1374 hj C O E (fun h476 x472 x473 x474 x475 => ?_) h v1 v2 v3 v4
                                                                                  · refine go_iincL (pc := 1617) C 4 dL_law_1617 rfl ki_5 (by decide) (fun x477 => [(4, .int x477), (0, .retAddr 11), (1, .ref x472), (2, .ref x473), (3, .ref x474)]) (fun _ => rfl) (fun x477 => ?_)
                                                                                    refine go_goto (pc := 1620) C 23 dL_law_1620 (by decide) ?_
                                                                                    refine go_widen (c2 := (167 + 2 * (j + 1) + 0)) (s2 := (10310 + 8 * (j + 1) + 0)) (by omega) (by omega) ?_
                                                                                    refine go_sub (ls' := [(0, .retAddr 11), (1, .ref x472), (2, .ref x473), (3, .ref x474), (4, .int x477)]) [1, 2, 3, 4, 0] rfl ?_
                                                                                    exact ih (j + 1) (by omega) h476 x472 x473 x474 x477
                                                                                · refine go_ite (fun hc478 => ?_) (fun hc478 => ?_)
                                                                                  · refine go_tsw (pc := 39) C 1387 38 hc478 dL_law_39 (by decide) (by decide) rfl (by decide) ?_
                                                                                    refine go_sub (ls' := [(0, .retAddr 11), (1, .ref v1), (2, .ref v2), (3, .ref v3), (4, .int v4)]) [0, 1, 2, 3, 4] rfl ?_
                                                                                    refine gL_law_J1387 hj C O E (fun h483 x479 x480 x481 x482 => ?_) h v1 v2 v3 v4
                                                                                    · refine go_iincL (pc := 1617) C 4 dL_law_1617 rfl ki_5 (by decide) (fun x484 => [(4, .int x484), (0, .retAddr 11), (1, .ref x479), (2, .ref x480), (3, .ref x481)]) (fun _ => rfl) (fun x484 => ?_)
                                                                                      refine go_goto (pc := 1620) C 23 dL_law_1620 (by decide) ?_
                                                                                      refine go_widen (c2 := (167 + 2 * (j + 1) + 0)) (s2 := (10310 + 8 * (j + 1) + 0)) (by omega) (by omega) ?_
                                                                                      refine go_sub (ls' := [(0, .retAddr 11), (1, .ref x479), (2, .ref x480), (3, .ref x481), (4, .int x484)]) [1, 2, 3, 4, 0] rfl ?_
                                                                                      exact ih (j + 1) (by omega) h483 x479 x480 x481 x484
                                                                                  · refine go_ite (fun hc485 => ?_) (fun hc485 => ?_)
                                                                                    · refine go_tsw (pc := 39) C 1412 39 hc485 dL_law_39 (by decide) (by decide) rfl (by decide) ?_
                                                                                      refine go_sub (ls' := [(0, .retAddr 11), (1, .ref v1), (2, .ref v2), (3, .ref v3), (4, .int v4)]) [0, 1, 2, 3, 4] rfl ?_
                                                                                      refine gL_law_J1412 hj C O E (fun h490 x486 x487 x488 x489 => ?_) h v1 v2 v3 v4
                                                                                      · refine go_iincL (pc := 1617) C 4 dL_law_1617 rfl ki_5 (by decide) (fun x491 => [(4, .int x491), (0, .retAddr 11), (1, .ref x486), (2, .ref x487), (3, .ref x488)]) (fun _ => rfl) (fun x491 => ?_)
                                                                                        refine go_goto (pc := 1620) C 23 dL_law_1620 (by decide) ?_
                                                                                        refine go_widen (c2 := (167 + 2 * (j + 1) + 0)) (s2 := (10310 + 8 * (j + 1) + 0)) (by omega) (by omega) ?_
                                                                                        refine go_sub (ls' := [(0, .retAddr 11), (1, .ref x486), (2, .ref x487), (3, .ref x488), (4, .int x491)]) [1, 2, 3, 4, 0] rfl ?_
                                                                                        exact ih (j + 1) (by omega) h490 x486 x487 x488 x491
                                                                                    · refine go_ite (fun hc492 => ?_) (fun hc492 => ?_)
                                                                                      · refine go_tsw (pc := 39) C 1437 40 hc492 dL_law_39 (by decide) (by decide) rfl (by decide) ?_
                                                                                        refine go_sub (ls' := [(0, .retAddr 11), (1, .ref v1), (2, .ref v2), (3, .ref v3), (4, .int v4)]) [0, 1, 2, 3, 4] rfl ?_
                                                                                        refine gL_law_J1437 hj C O E (fun h497 x493 x494 x495 x496 => ?_) h v1 v2 v3 v4
                                                                                        · refine go_iincL (pc := 1617) C 4 dL_law_1617 rfl ki_5 (by decide) (fun x498 => [(4, .int x498), (0, .retAddr 11), (1, .ref x493), (2, .ref x494), (3, .ref x495)]) (fun _ => rfl) (fun x498 => ?_)
                                                                                          refine go_goto (pc := 1620) C 23 dL_law_1620 (by decide) ?_
                                                                                          refine go_widen (c2 := (167 + 2 * (j + 1) + 0)) (s2 := (10310 + 8 * (j + 1) + 0)) (by omega) (by omega) ?_
                                                                                          refine go_sub (ls' := [(0, .retAddr 11), (1, .ref x493), (2, .ref x494), (3, .ref x495), (4, .int x498)]) [1, 2, 3, 4, 0] rfl ?_
                                                                                          exact ih (j + 1) (by omega) h497 x493 x494 x495 x498
                                                                                      · refine go_ite (fun hc499 => ?_) (fun hc499 => ?_)
                                                                                        · refine go_tsw (pc := 39) C 1450 41 hc499 dL_law_39 (by decide) (by decide) rfl (by decide) ?_
                                                                                          refine go_sub (ls' := [(0, .retAddr 11), (1, .ref v1), (2, .ref v2), (3, .ref v3), (4, .int v4)]) [0, 1, 2, 3, 4] rfl ?_
                                                                                          refine gL_law_J1450 hj C O E (fun h504 x500 x501 x502 x503 => ?_) h v1 v2 v3 v4
                                                                                          · refine go_iincL (pc := 1617) C 4 dL_law_1617 rfl ki_5 (by decide) (fun x505 => [(4, .int x505), (0, .retAddr 11), (1, .ref x500), (2, .ref x501), (3, .ref x502)]) (fun _ => rfl) (fun x505 => ?_)
                                                                                            refine go_goto (pc := 1620) C 23 dL_law_1620 (by decide) ?_
                                                                                            refine go_widen (c2 := (167 + 2 * (j + 1) + 0)) (s2 := (10310 + 8 * (j + 1) + 0)) (by omega) (by omega) ?_
                                                                                            refine go_sub (ls' := [(0, .retAddr 11), (1, .ref x500), (2, .ref x501), (3, .ref x502), (4, .int x505)]) [1, 2, 3, 4, 0] rfl ?_
                                                                                            exact ih (j + 1) (by omega) h504 x500 x501 x502 x505
                                                                                        · refine go_ite (fun hc506 => ?_) (fun hc506 => ?_)
                                                                                          · refine go_tsw (pc := 39) C 1487 42 hc506 dL_law_39 (by decide) (by decide) rfl (by decide) ?_
                                                                                            refine go_sub (ls' := [(0, .retAddr 11), (1, .ref v1), (2, .ref v2), (3, .ref v3), (4, .int v4)]) [0, 1, 2, 3, 4] rfl ?_
                                                                                            refine gL_law_J1487 hj C O E (fun h511 x507 x508 x509 x510 => ?_) h v1 v2 v3 v4
                                                                                            · refine go_iincL (pc := 1617) C 4 dL_law_1617 rfl ki_5 (by decide) (fun x512 => [(4, .int x512), (0, .retAddr 11), (1, .ref x507), (2, .ref x508), (3, .ref x509)]) (fun _ => rfl) (fun x512 => ?_)
                                                                                              refine go_goto (pc := 1620) C 23 dL_law_1620 (by decide) ?_
                                                                                              refine go_widen (c2 := (167 + 2 * (j + 1) + 0)) (s2 := (10310 + 8 * (j + 1) + 0)) (by omega) (by omega) ?_
                                                                                              refine go_sub (ls' := [(0, .retAddr 11), (1, .ref x507), (2, .ref x508), (3, .ref x509), (4, .int x512)]) [1, 2, 3, 4, 0] rfl ?_
                                                                                              exact ih (j + 1) (by omega) h511 x507 x508 x509 x512
                                                                                          · refine go_ite (fun hc513 => ?_) (fun hc513 => ?_)
                                                                                            · refine go_tsw (pc := 39) C 1512 43 hc513 dL_law_39 (by decide) (by decide) rfl (by decide) ?_
                                                                                              refine go_sub (ls' := [(0, .retAddr 11), (1, .ref v1), (2, .ref v2), (3, .ref v3), (4, .int v4)]) [0, 1, 2, 3, 4] rfl ?_
                                                                                              refine gL_law_J1512 hj C O E (fun h518 x514 x515 x516 x517 => ?_) h v1 v2 v3 v4
                                                                                              · refine go_iincL (pc := 1617) C 4 dL_law_1617 rfl ki_5 (by decide) (fun x519 => [(4, .int x519), (0, .retAddr 11), (1, .ref x514), (2, .ref x515), (3, .ref x516)]) (fun _ => rfl) (fun x519 => ?_)
                                                                                                refine go_goto (pc := 1620) C 23 dL_law_1620 (by decide) ?_
                                                                                                refine go_widen (c2 := (167 + 2 * (j + 1) + 0)) (s2 := (10310 + 8 * (j + 1) + 0)) (by omega) (by omega) ?_
                                                                                                refine go_sub (ls' := [(0, .retAddr 11), (1, .ref x514), (2, .ref x515), (3, .ref x516), (4, .int x519)]) [1, 2, 3, 4, 0] rfl ?_
                                                                                                exact ih (j + 1) (by omega) h518 x514 x515 x516 x519
                                                                                            · refine go_ite (fun hc520 => ?_) (fun hc520 => ?_)
                                                                                              · refine go_tsw (pc := 39) C 1537 44 hc520 dL_law_39 (by decide) (by decide) rfl (by decide) ?_
                                                                                                refine go_sub (ls' := [(0, .retAddr 11), (1, .ref v1), (2, .ref v2), (3, .ref v3), (4, .int v4)]) [0, 1, 2, 3, 4] rfl ?_
                                                                                                refine gL_law_J1537 hj C O E (fun h525 x521 x522 x523 x524 => ?_) h v1 v2 v3 v4
                                                                                                · refine go_iincL (pc := 1617) C 4 dL_law_1617 rfl ki_5 (by decide) (fun x526 => [(4, .int x526), (0, .retAddr 11), (1, .ref x521), (2, .ref x522), (3, .ref x523)]) (fun _ => rfl) (fun x526 => ?_)
                                                                                                  refine go_goto (pc := 1620) C 23 dL_law_1620 (by decide) ?_
                                                                                                  refine go_widen (c2 := (167 + 2 * (j + 1) + 0)) (s2 := (10310 + 8 * (j + 1) + 0)) (by omega) (by omega) ?_
                                                                                                  refine go_sub (ls' := [(0, .retAddr 11), (1, .ref x521), (2, .ref x522), (3, .ref x523), (4, .int x526)]) [1, 2, 3, 4, 0] rfl ?_
                                                                                                  exact ih (j + 1) (by omega) h525 x521 x522 x523 x526
                                                                                              · refine go_ite (fun hc527 => ?_) (fun hc527 => ?_)
                                                                                                · refine go_tsw (pc := 39) C 1562 45 hc527 dL_law_39 (by decide) (by decide) rfl (by decide) ?_
                                                                                                  refine go_sub (ls' := [(0, .retAddr 11), (1, .ref v1), (2, .ref v2), (3, .ref v3), (4, .int v4)]) [0, 1, 2, 3, 4] rfl ?_
                                                                                                  refine gL_law_J1562 hj C O E (fun h532 x528 x529 x530 x531 => ?_) h v1 v2 v3 v4
                                                                                                  · refine go_iincL (pc := 1617) C 4 dL_law_1617 rfl ki_5 (by decide) (fun x533 => [(4, .int x533), (0, .retAddr 11), (1, .ref x528), (2, .ref x529), (3, .ref x530)]) (fun _ => rfl) (fun x533 => ?_)
                                                                                                    refine go_goto (pc := 1620) C 23 dL_law_1620 (by decide) ?_
                                                                                                    refine go_widen (c2 := (167 + 2 * (j + 1) + 0)) (s2 := (10310 + 8 * (j + 1) + 0)) (by omega) (by omega) ?_
                                                                                                    refine go_sub (ls' := [(0, .retAddr 11), (1, .ref x528), (2, .ref x529), (3, .ref x530), (4, .int x533)]) [1, 2, 3, 4, 0] rfl ?_
                                                                                                    exact ih (j + 1) (by omega) h532 x528 x529 x530 x533
                                                                                                · refine go_tsw_else (pc := 39) C 1617 [0, 1, 2, 3, 4, 5, 6, 7, 8, 9, 10, 11, 12, 13, 14, 15, 16, 17, 18, 19, 20, 21, 22, 23, 24, 25, 26, 27, 28, 29, 30, 31, 32, 33, 34, 35, 36, 37, 38, 39, 40, 41, 42, 43, 44, 45] dL_law_39 (fun v hv => by simp only [List.mem_cons, List.not_mem_nil, or_false] at hv; rcases hv with rfl | rfl | rfl | rfl | rfl | rfl | rfl | rfl | rfl | rfl | rfl | rfl | rfl | rfl | rfl | rfl | rfl | rfl | rfl | rfl | rfl | rfl | rfl | rfl | rfl | rfl | rfl | rfl | rfl | rfl | rfl | rfl | rfl | rfl | rfl | rfl | rfl | rfl | rfl | rfl | rfl | rfl | rfl | rfl | rfl | rfl <;> first | exact i32_ne hc212 (by decide) | exact i32_ne hc219 (by decide) | exact i32_ne hc226 (by decide) | exact i32_ne hc233 (by decide) | exact i32_ne hc240 (by decide) | exact i32_ne hc247 (by decide) | exact i32_ne hc254 (by decide) | exact i32_ne hc261 (by decide) | exact i32_ne hc268 (by decide) | exact i32_ne hc275 (by decide) | exact i32_ne hc282 (by decide) | exact i32_ne hc289 (by decide) | exact i32_ne hc296 (by decide) | exact i32_ne hc303 (by decide) | exact i32_ne hc310 (by decide) | exact i32_ne hc317 (by decide) | exact i32_ne hc324 (by decide) | exact i32_ne hc331 (by decide) | exact i32_ne hc338 (by decide) | exact i32_ne hc345 (by decide) | exact i32_ne hc352 (by decide) | exact i32_ne hc359 (by decide) | exact i32_ne hc366 (by decide) | exact i32_ne hc373 (by decide) | exact i32_ne hc380 (by decide) | exact i32_ne hc387 (by decide) | exact i32_ne hc394 (by decide) | exact i32_ne hc401 (by decide) | exact i32_ne hc408 (by decide) | exact i32_ne hc415 (by decide) | exact i32_ne hc422 (by decide) | exact i32_ne hc429 (by decide) | exact i32_ne hc436 (by decide) | exact i32_ne hc443 (by decide) | exact i32_ne hc450 (by decide) | exact i32_ne hc457 (by decide) | exact i32_ne hc464 (by decide) | exact i32_ne hc471 (by decide) | exact i32_ne hc478 (by decide) | exact i32_ne hc485 (by decide) | exact i32_ne hc492 (by decide) | exact i32_ne hc499 (by decide) | exact i32_ne hc506 (by decide) | exact i32_ne hc513 (by decide) | exact i32_ne hc520 (by decide) | exact i32_ne hc527 (by decide)) (by decide) (by decide) (by decide) ?_
                                                                                                  refine go_iincL (pc := 1617) C 4 dL_law_1617 rfl ki_5 (by decide) (fun x534 => [(4, .int x534), (0, .retAddr 11), (1, .ref v1), (2, .ref v2), (3, .ref v3)]) (fun _ => rfl) (fun x534 => ?_)
                                                                                                  refine go_goto (pc := 1620) C 23 dL_law_1620 (by decide) ?_
                                                                                                  refine go_widen (c2 := (167 + 2 * (j + 1) + 0)) (s2 := (10310 + 8 * (j + 1) + 0)) (by omega) (by omega) ?_
                                                                                                  refine go_sub (ls' := [(0, .retAddr 11), (1, .ref v1), (2, .ref v2), (3, .ref v3), (4, .int x534)]) [1, 2, 3, 4, 0] rfl ?_
                                                                                                  exact ih (j + 1) (by omega) h v1 v2 v3 x534
set_option maxHeartbeats 4000000 in
theorem mL_law {Y : YT} {X : XT} (C : CT Y X RL cL_law 8) (O : RO X 1000 601024 7293034) {b L : Nat} {xs : Nat → Int32} (E : LX Y X b L xs) {h : AH} {r : Unit} : GO Y X 8 r h 0 0 0 [(0, .retAddr 11)] [] (fL_law xs L h) := by
  unfold fL_law
  refine go_new (c' := 1) (s' := 12) (pc := 0) C O clL_8 dL_law_0 ⟨by decide, by decide⟩ ⟨rfl, rfl⟩ (fun h535 => ?_)
  refine go_dup (pc := 3) C dL_law_3 rfl ?_
  refine go_bind (fun q536 hq536 => ?_)
  refine go_callI (rest := [.ref h.2]) (st' := [.ref h.2]) (c' := 145) (s' := 5220) (pc := 4) C O miL_25 rfl w_117 [] rfl (mX10_init hq536) dL_law_4 ⟨by decide, by decide, by omega, by omega⟩ rfl (Nat.le_of_ble_eq_true rfl) rfl ⟨by omega, by omega⟩ ?_
  refine go_astore_n (ls' := [(1, .ref h.2), (0, .retAddr 11)]) (pc := 7) C dL_law_7 (by decide) rfl ?_
  refine go_new (c' := 146) (s' := 5256) (pc := 8) C O clL_26 dL_law_8 ⟨by decide, by decide⟩ ⟨rfl, rfl⟩ (fun h537 => ?_)
  refine go_dup (pc := 11) C dL_law_11 rfl ?_
  refine go_bind (fun q538 hq538 => ?_)
  refine go_callI (rest := [.ref q536.2]) (st' := [.ref q536.2]) (c' := 166) (s' := 10309) (pc := 12) C O miL_28 rfl w_1309 [] rfl (mX11_init hq538) dL_law_12 ⟨by decide, by decide, by omega, by omega⟩ rfl (Nat.le_of_ble_eq_true rfl) rfl ⟨by omega, by omega⟩ ?_
  refine go_astore_n (ls' := [(2, .ref q536.2), (1, .ref h.2), (0, .retAddr 11)]) (pc := 15) C dL_law_15 (by decide) rfl ?_
  refine go_iconst (pc := 16) C dL_law_16 ki_1 ?_
  refine go_newa (atype := .long) (t := 1) (c' := 167) (s' := 10310) (pc := 17) 1 C O ⟨rfl, by decide⟩ w_253 (by decide) (by decide) (by decide) dL_law_17 ⟨by decide, by decide⟩ ⟨rfl, rfl⟩ (fun h539 => ?_)
  refine go_astore_n (ls' := [(3, .ref q538.2), (2, .ref q536.2), (1, .ref h.2), (0, .retAddr 11)]) (pc := 19) C dL_law_19 (by decide) rfl ?_
  refine go_iconst (pc := 20) C dL_law_20 ki_0 ?_
  refine go_istore (ls' := [(4, .int 0), (3, .ref q538.2), (2, .ref q536.2), (1, .ref h.2), (0, .retAddr 11)]) (pc := 21) C dL_law_21 (by decide) rfl ?_
  refine go_sub (ls' := [(0, .retAddr 11), (1, .ref h.2), (2, .ref q536.2), (3, .ref q538.2), (4, .int 0)]) [4, 3, 2, 1, 0] rfl ?_
  refine gL_law_L23 C O E 600 0 (by decide) h539 h.2 q536.2 q538.2 0
