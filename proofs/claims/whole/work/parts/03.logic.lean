/-! THE ABSTRACT HEAP: cells by number (the cell number k lies at the address z + k), and a judgement over it (GO).
A method's walk is a chain of its rows; what it computes is a term of Option. -/
abbrev AE : Type := (Nat × vp_A) ⊕ (Nat × List Value)
abbrev AH : Type := (Nat → Option AE) × Nat
/-- where the world begins; the literals, their bytes; the classes, the array classes -/
abbrev YT : Type := Nat × (Nat → Nat) × (Nat → Nat) × va_G × (Nat → ClassId)
abbrev XT : Type := Program × Launch × Env × Room × State × MethodId × Array Value × List Frame × Method × Code × (State → Prop)
/-- the tables' words that stay true -/
def TBL : List Cond := lw_tbl.filter goodWord
theorem tinP {w : Cond} (i : Nat) (h : (k2_sels lw_privs)[i]? = some w) (g : goodWord w = true) : w ∈ TBL := List.mem_filter.mpr ⟨List.mem_append_left _ (List.mem_of_getElem? h), g⟩
theorem tin1 {w : Cond} (i : Nat) (h : tables_1_1[i]? = some w) (g : goodWord w = true) : w ∈ TBL := List.mem_filter.mpr ⟨List.mem_append_right _ (show w ∈ tables_1 from List.mem_append_left _ (List.mem_of_getElem? h)), g⟩
theorem tin2 {w : Cond} (i : Nat) (h : tables_1_2[i]? = some w) (g : goodWord w = true) : w ∈ TBL := List.mem_filter.mpr ⟨List.mem_append_right _ (show w ∈ tables_1 from List.mem_append_right _ (List.mem_append_left _ (List.mem_of_getElem? h))), g⟩
theorem tin3 {w : Cond} (i : Nat) (h : tables_1_3[i]? = some w) (g : goodWord w = true) : w ∈ TBL := List.mem_filter.mpr ⟨List.mem_append_right _ (show w ∈ tables_1 from List.mem_append_right _ (List.mem_append_right _ (List.mem_append_left _ (List.mem_of_getElem? h)))), g⟩
theorem tin4 {w : Cond} (i : Nat) (h : tables_1_4[i]? = some w) (g : goodWord w = true) : w ∈ TBL := List.mem_filter.mpr ⟨List.mem_append_right _ (show w ∈ tables_1 from List.mem_append_right _ (List.mem_append_right _ (List.mem_append_right _ (List.mem_append_left _ (List.mem_of_getElem? h))))), g⟩
theorem tin5 {w : Cond} (i : Nat) (h : tables_1_5[i]? = some w) (g : goodWord w = true) : w ∈ TBL := List.mem_filter.mpr ⟨List.mem_append_right _ (show w ∈ tables_1 from List.mem_append_right _ (List.mem_append_right _ (List.mem_append_right _ (List.mem_append_right _ (List.mem_append_left _ (List.mem_of_getElem? h)))))), g⟩
theorem tin6 {w : Cond} (i : Nat) (h : tables_1_6[i]? = some w) (g : goodWord w = true) : w ∈ TBL := List.mem_filter.mpr ⟨List.mem_append_right _ (show w ∈ tables_1 from List.mem_append_right _ (List.mem_append_right _ (List.mem_append_right _ (List.mem_append_right _ (List.mem_append_right _ (List.mem_append_left _ (List.mem_of_getElem? h))))))), g⟩
theorem tin7 {w : Cond} (i : Nat) (h : tables_1_7[i]? = some w) (g : goodWord w = true) : w ∈ TBL := List.mem_filter.mpr ⟨List.mem_append_right _ (show w ∈ tables_1 from List.mem_append_right _ (List.mem_append_right _ (List.mem_append_right _ (List.mem_append_right _ (List.mem_append_right _ (List.mem_append_right _ (List.mem_append_left _ (List.mem_of_getElem? h)))))))), g⟩
theorem tin8 {w : Cond} (i : Nat) (h : tables_1_8[i]? = some w) (g : goodWord w = true) : w ∈ TBL := List.mem_filter.mpr ⟨List.mem_append_right _ (show w ∈ tables_1 from List.mem_append_right _ (List.mem_append_right _ (List.mem_append_right _ (List.mem_append_right _ (List.mem_append_right _ (List.mem_append_right _ (List.mem_append_right _ (List.mem_of_getElem? h)))))))), g⟩
/-- the links between nest mates -/
abbrev nestL : List (String × Nat × MethodName × String) := [(RX10, 32, yX6_init, RX10), (RX10, 42, yX7_init, RX10), (RX10, 49, yX5_init, RX10), (RX10, 56, yX1_init, RX10), (RX10, 63, yX8_init, RX10), (RX10, 70, yX3_init, RX10), (RX9, 59, yX10_isPage, RX10), (RX7, 63, yX10_isDigit, RX10), (RX9, 62, yX10_isIn, RX10), (RX9, 146, yX10_isValue, RX10)]
def cv (Y : YT) : Value → Value
  | .ref k => .ref (Y.1 + k)
  | .retAddr k => .ref (Y.2.1 k)
  | v => v
def cD (Y : YT) : vp_A → vp_A
  | (n, .inr (.inr (.inr (.inr f)))) => (n, .inr (.inr (.inr (.inr (fun j => (f j).map (fun k => Y.1 + k))))))
  | x => x
def cE (Y : YT) : AE → va_E
  | .inl (t, d) => .inl (Y.2.2.2.2 t, cD Y d)
  | .inr (c, fs) => .inr (c, fs.map (cv Y))
abbrev AA (Y : YT) : Nat → Prop := fun q => Y.1 ≤ q
abbrev classes : List vw_C := [(RX0, TX0, 1), (RX1, TX1, 5), (RX2, TX2, 5), (RX3, TX3, 1), (RX5, TX5, 2), (RX5, TX5, 2), (RX6, TX6, 3), (RX7, TX7, 6), (RX8, TX8, 5), (RX9, TX9, 14), (RX10, TX10, 12), (RX11, TX11, 36)]
def tyA : Nat → FieldType
  | 0 => .int
  | 1 => .long
  | 2 => .char
  | 3 => .byte
  | 4 => .boolean
  | _ => .object RX9
abbrev tysA (Y : YT) : List (ClassId × FieldType) := [(Y.2.2.2.2 0, .int), (Y.2.2.2.2 1, .long), (Y.2.2.2.2 2, .char), (Y.2.2.2.2 3, .byte), (Y.2.2.2.2 4, .boolean), (Y.2.2.2.2 5, .object RX9)]
def HR (Y : YT) (h : AH) (H : Heap) : Prop := H.size = Y.1 + h.2 ∧ ∀ (k : Nat) (e : AE), h.1 k = some e → va_at Y.2.2.2.1 classes (Y.1 + k, cE Y e) H
def stI : Nat → Nat
  | 0 => 426
  | 1 => 418
  | 2 => 420
  | 3 => 422
  | _ => 424
def stX : Nat → String
  | 0 => ""
  | 1 => "97"
  | 2 => "9799"
  | 3 => "9"
  | _ => "99799"
def stL : List Nat := [0, 2, 4, 1, 5]
def stB : List (List Int32) := [[], [57, 55], [57, 55, 57, 57], [57], [57, 57, 55, 57, 57]]
def SX (Y : YT) (U : State) (H : Heap) : Prop := va_Z "java/lang/String" "COMPACT_STRINGS" "Z" (.int 1) (AA Y) U H ∧ vk_S 5 stL stB Y.2.1 (fun i => Y.2.1 (5 + i)) (AA Y) U H ∧ (∀ i, i < 5 → vk_R "ShadowSpaces" (stI i) (stX i) (Y.2.1 i) U) ∧ (∀ q ∈ nestL, va_Nw (.methodLinkNest q.1 q.2.1 q.2.2.1 q.2.2.2) U) ∧ va_AO RX9 U ∧ (va_Z "jdk/internal/util/Preconditions" "SIOOBE_FORMATTER" "Ljava/util/function/BiFunction;" .null (AA Y) U H ∨ va_Z "jdk/internal/util/Preconditions" "SIOOBE_FORMATTER" "Ljava/util/function/BiFunction;" (.ref (Y.2.1 10)) (AA Y) U H)
theorem SX.warm {Y : YT} {s U : State} {H : Heap} (hW : s.WarmedH U.vm) (h : SX Y s H) : SX Y U H := ⟨va_Z.moved hW.alike h.1, vk_S.moved hW.alike h.2.1, fun i hi => vk_R.warm hW (h.2.2.1 i hi), fun q hq => va_Nw.warmM hW (h.2.2.2.1 q hq), va_AO.moved hW.alike h.2.2.2.2.1, h.2.2.2.2.2.imp (va_Z.moved hW.alike) (va_Z.moved hW.alike)⟩
theorem SX.same {Y : YT} {u U : State} {H : Heap} (hv : U.vm = u.vm) (h : SX Y u H) : SX Y U H := ⟨va_Z.moved (by rw [hv]; exact Vm.Alike.refl _) h.1, vk_S.moved (by rw [hv]; exact Vm.Alike.refl _) h.2.1, fun i hi => vk_R.same hv (h.2.2.1 i hi), fun q hq => va_Nw.same rfl hv.symm (h.2.2.2.1 q hq), va_AO.moved (by rw [hv]; exact Vm.Alike.refl _) h.2.2.2.2.1, h.2.2.2.2.2.imp (va_Z.moved (by rw [hv]; exact Vm.Alike.refl _)) (va_Z.moved (by rw [hv]; exact Vm.Alike.refl _))⟩
theorem SX.kept {Y : YT} {U : State} {H H1 : Heap} (h : SX Y U H) (hq : ∀ a : Nat, a < H.size → ¬ AA Y a → H1[a]? = H[a]?) : SX Y U H1 := ⟨h.1.kept hq, h.2.1.kept hq, h.2.2.1, h.2.2.2.1, h.2.2.2.2.1, h.2.2.2.2.2.imp (fun z => z.kept hq) (fun z => z.kept hq)⟩
/-- a method's stand: the machine, its code, the tables' words, the classes, the literals -/
def CT (Y : YT) (X : XT) (own : String) (cc : ByteArray) (nL : Nat) : Prop :=
  X.1.tables.exec = Jvm.exec ∧ X.2.2.2.2.2.2.2.2.2.1.code = cc ∧ X.2.2.2.2.2.2.2.2.2.1.maxLocals = nL ∧ X.2.2.2.2.1.vm.findClass own = some X.2.2.2.2.2.1.cls ∧ (∀ w ∈ TBL, w.before X.2.2.2.2.2.2.1 X.2.2.2.2.1 = true) ∧
  va_K Y.2.2.2.1 classes (tysA Y) X.2.2.2.2.1 ∧ X.2.2.2.2.2.2.2.2.1.locks = false ∧ Y.1 ≤ X.2.2.2.2.1.heap.size ∧ SX Y X.2.2.2.2.1 X.2.2.2.2.1.heap ∧ X.2.1.flags = flags0
def cL (Y : YT) (ls : List (Nat × Value)) : List (Nat × Value) := ls.map (fun q => (q.1, cv Y q.2))
/-- the walk from here, over a heap that holds h -/
def AW (Y : YT) (X : XT) (nL : Nat) (h : AH) (cells slots : Nat) (pc : Nat) (ls : List (Nat × Value)) (st : List Value) : Prop :=
  ∀ (H : Heap) (locs : List Loc) (la : Array Slot), HR Y h H → va_S (AA Y) X.2.2.2.2.1.heap H locs → lv_has la nL (cL Y ls) →
    W X.1 X.2.1 X.2.2.1 X.2.2.2.1 X.2.2.2.2.1 X.2.2.2.2.2.1 X.2.2.2.2.2.2.1 X.2.2.2.2.2.2.2.1 X.2.2.2.2.2.2.2.2.1 X.2.2.2.2.2.2.2.2.2.1 H locs cells slots X.2.2.2.2.2.2.2.2.2.2 (F0 X.2.2.2.2.2.1 pc la (st.map (cv Y)))
/-- the walk from here, if what is left to compute is the answer -/
def GO {α : Type} (Y : YT) (X : XT) (nL : Nat) (a : α) (h : AH) (cells slots : Nat) (pc : Nat) (ls : List (Nat × Value)) (st : List Value) (res : Option α) : Prop :=
  res = some a → AW Y X nL h cells slots pc ls st
def letF {α β : Type} (e : α) (k : α → β) : β := k e
def b2i (b : Bool) : Int32 := if b = true then 1 else 0
def i2z (x : Int32) : Option Bool := if x = 0 then some false else if x = 1 then some true else none
theorem b2i_0 {b : Bool} : b2i b = 0 ↔ b = false := by cases b <;> decide
theorem b2i_n {b : Bool} : ¬ b2i b = 0 ↔ b = true := by cases b <;> decide
theorem i2z_b {x : Int32} {b : Bool} (h : i2z x = some b) : x = b2i b := by
  unfold i2z at h
  split at h
  · cases h; assumption
  · split at h
    · cases h; assumption
    · cases h
/-! reading and writing the abstract heap -/
def hset (h : AH) (k : Nat) (e : AE) : AH := (va_up h.1 k (some e), h.2)
def hnew (h : AH) (e : AE) : AH := (va_up h.1 h.2 (some e), h.2 + 1)
def gF (h : AH) (c a k : Nat) : Option Value := match h.1 a with
  | some (.inr (c', fs)) => if c' = c then fs[k]? else none
  | _ => none
def gI (h : AH) (c a k : Nat) : Option Int32 := match gF h c a k with
  | some (.int x) => some x
  | _ => none
def gZ (h : AH) (c a k : Nat) : Option Bool := match gF h c a k with
  | some (.int x) => i2z x
  | _ => none
def gR (h : AH) (c a k : Nat) : Option Nat := match gF h c a k with
  | some (.ref x) => some x
  | _ => none
def pF (h : AH) (c a k : Nat) (v : Value) : Option AH := match h.1 a with
  | some (.inr (c', fs)) => if c' = c ∧ k < fs.length then some (hset h a (.inr (c, fs.set k v))) else none
  | _ => none
def aI (h : AH) (t a : Nat) (i : Int32) : Option Int32 := match h.1 a with
  | some (.inl (t', n, .inl f)) => if t' = t ∧ ¬ (i < 0 ∨ n ≤ i.toNatClampNeg) then some (f i.toNatClampNeg) else none
  | _ => none
def aZ (h : AH) (a : Nat) (i : Int32) : Option Bool := (aI h 4 a i).bind i2z
def aJ (h : AH) (a : Nat) (i : Int32) : Option Int64 := match h.1 a with
  | some (.inl (t', n, .inr (.inl f))) => if t' = 1 ∧ ¬ (i < 0 ∨ n ≤ i.toNatClampNeg) then some (f i.toNatClampNeg) else none
  | _ => none
def aR (h : AH) (a : Nat) (i : Int32) : Option Nat := match h.1 a with
  | some (.inl (t', n, .inr (.inr (.inr (.inr f))))) => if t' = 5 ∧ ¬ (i < 0 ∨ n ≤ i.toNatClampNeg) then f i.toNatClampNeg else none
  | _ => none
def aL (h : AH) (t a : Nat) : Option Int32 := match h.1 a with
  | some (.inl (t', n, _)) => if t' = t then some (Int32.ofNat n) else none
  | _ => none
def sI (h : AH) (t a : Nat) (i x : Int32) : Option AH := match h.1 a with
  | some (.inl (t', n, .inl f)) => if t' = t ∧ ¬ (i < 0 ∨ n ≤ i.toNatClampNeg) then some (hset h a (.inl (t, n, .inl (upd f i.toNatClampNeg (vp_nar (tyA t) x))))) else none
  | _ => none
def sJ (h : AH) (a : Nat) (i : Int32) (x : Int64) : Option AH := match h.1 a with
  | some (.inl (t', n, .inr (.inl f))) => if t' = 1 ∧ ¬ (i < 0 ∨ n ≤ i.toNatClampNeg) then some (hset h a (.inl (1, n, .inr (.inl (vp_updL f i.toNatClampNeg x))))) else none
  | _ => none
def sR (h : AH) (a : Nat) (i : Int32) (x : Nat) : Option AH := match h.1 a with
  | some (.inl (t', n, .inr (.inr (.inr (.inr f))))) => match h.1 x with
    | some (.inr (9, _)) => if t' = 5 ∧ ¬ (i < 0 ∨ n ≤ i.toNatClampNeg) then some (hset h a (.inl (5, n, .inr (.inr (.inr (.inr (va_up f i.toNatClampNeg (some x)))))))) else none
    | _ => none
  | _ => none

theorem HR.set {Y : YT} {h : AH} {H H1 : Heap} {k : Nat} {e0 e : AE} (hH : HR Y h H) (h0 : h.1 k = some e0) (h1 : va_at Y.2.2.2.1 classes (Y.1 + k, cE Y e) H1) (h2 : H1.size = H.size) (h3 : ∀ q : Nat, q ≠ Y.1 + k → H1[q]? = H[q]?) : HR Y (hset h k e) H1 := by
  refine ⟨h2.trans hH.1, fun j e' hj => ?_⟩
  by_cases hjk : j = k
  · subst hjk
    simp only [hset, va_up, if_true] at hj
    cases hj
    exact h1
  · simp only [hset, va_up, if_neg hjk] at hj
    exact (hH.2 j e' hj).kept (h3 _ (by show Y.1 + j ≠ Y.1 + k; omega))
theorem HR.lt {Y : YT} {h : AH} {H : Heap} {k : Nat} {e : AE} (hH : HR Y h H) (h0 : h.1 k = some e) : Y.1 + k < H.size := (hH.2 k e h0).lt
theorem HR.new {Y : YT} {h : AH} {H H1 : Heap} {e : AE} (hH : HR Y h H) (h1 : va_at Y.2.2.2.1 classes (Y.1 + h.2, cE Y e) H1) (h2 : H1.size = H.size + 1) (h3 : ∀ q : Nat, q < H.size → H1[q]? = H[q]?) : HR Y (hnew h e) H1 := by
  refine ⟨by rw [h2, hH.1]; rfl, fun j e' hj => ?_⟩
  by_cases hjk : j = h.2
  · subst hjk
    simp only [hnew, va_up, if_true] at hj
    cases hj
    exact h1
  · simp only [hnew, va_up, if_neg hjk] at hj
    exact (hH.2 j e' hj).kept (h3 _ (hH.lt hj))
theorem cL_at {Y : YT} {ls : List (Nat × Value)} {k i : Nat} {v : Value} (h : ls[k]? = some (i, v)) : (cL Y ls)[k]? = some (i, cv Y v) := by
  unfold cL
  rw [List.getElem?_map, h]
  rfl
theorem cv_cat {Y : YT} {v : Value} (h : ∀ k, v ≠ .retAddr k) : (cv Y v).category = v.category := by
  cases v <;> rfl
theorem cv_cat' {Y : YT} (v : Value) : (cv Y v).category = v.category := by
  cases v <;> rfl
theorem cL_pick {Y : YT} {ls ls' : List (Nat × Value)} (ks : List Nat) (h : lv_pick ls ks = ls') : lv_pick (cL Y ls) ks = cL Y ls' := by
  subst h
  unfold lv_pick cL
  rw [List.map_filterMap]
  congr 1
  funext k
  rw [List.getElem?_map]
theorem cL_filter {Y : YT} (ls : List (Nat × Value)) (f : Nat → Bool) (g : Nat → Nat → Bool) : (cL Y ls).filter (fun q => f q.1 && g q.1 q.2.category) = cL Y (ls.filter (fun q => f q.1 && g q.1 q.2.category)) := by
  unfold cL
  rw [List.filter_map]
  congr 2
  funext q
  simp only [Function.comp, cv_cat']
def lset (i : Nat) (v : Value) (ls : List (Nat × Value)) : List (Nat × Value) := (i, v) :: ls.filter (fun q => !(q.1 == i) && !(q.1 + 1 == i && q.2.category == 2))
def lset2 (i : Nat) (v : Value) (ls : List (Nat × Value)) : List (Nat × Value) := (i, v) :: ls.filter (fun q => !(q.1 == i) && (!(q.1 == i + 1) && !(q.1 + 1 == i && q.2.category == 2)))
theorem cL_set {Y : YT} {i : Nat} {v : Value} {ls ls' : List (Nat × Value)} (h : lset i v ls = ls') : (i, cv Y v) :: (cL Y ls).filter (fun q => !(q.1 == i) && !(q.1 + 1 == i && q.2.category == 2)) = cL Y ls' := by
  subst h
  unfold lset
  rw [cL_filter ls (fun x => !(x == i)) (fun x c => !(x + 1 == i && c == 2))]
  rfl
theorem cL_set2 {Y : YT} {i : Nat} {v : Value} {ls ls' : List (Nat × Value)} (h : lset2 i v ls = ls') : (i, cv Y v) :: (cL Y ls).filter (fun q => !(q.1 == i) && (!(q.1 == i + 1) && !(q.1 + 1 == i && q.2.category == 2))) = cL Y ls' := by
  subst h
  unfold lset2
  rw [cL_filter ls (fun x => !(x == i)) (fun x c => (!(x == i + 1) && !(x + 1 == i && c == 2)))]
  rfl
section GOR
variable {α : Type} {Y : YT} {X : XT} {own : String} {cc : ByteArray} {nL : Nat} {a : α} {h : AH} {cells slots : Nat} {pc : Nat} {ls ls' : List (Nat × Value)} {st : List Value} {res : Option α}
theorem go_sub (ks : List Nat) (hl : lv_pick ls ks = ls') (k : GO Y X nL a h cells slots pc ls' st res) : GO Y X nL a h cells slots pc ls st res := fun hr H locs la hH hS hv => k hr H locs la hH hS (lv_sub hv ks (cL_pick ks hl))
theorem go_none (pc : Nat) (ls : List (Nat × Value)) (st : List Value) : GO Y X nL a h cells slots pc ls st none := fun hr => by cases hr
theorem go_run (hr : res = some a) (k : GO Y X nL a h cells slots pc ls st res) : AW Y X nL h cells slots pc ls st := k hr
theorem go_aw (k : AW Y X nL h cells slots pc ls st) : GO Y X nL a h cells slots pc ls st res := fun _ => k
theorem go_ite {c : Prop} [Decidable c] {A B : Option α} (kt : c → GO Y X nL a h cells slots pc ls st A) (kf : ¬ c → GO Y X nL a h cells slots pc ls st B) : GO Y X nL a h cells slots pc ls st (if c then A else B) := by
  by_cases hc : c
  · rw [if_pos hc]; exact kt hc
  · rw [if_neg hc]; exact kf hc
theorem go_iconst (C : CT Y X own cc nL) {n : Int} {v : Int32} (hd : decode cc pc = .ok (.iconst n, 1)) (hv : Int32.ofInt n = v) (k : GO Y X nL a h cells slots (pc + 1) ls (.int v :: st) res) : GO Y X nL a h cells slots pc ls st res := fun hr H locs la hH hS hl => lv_iconst C.1 C.2.1 hd hv (k hr H locs la hH hS hl)
theorem go_bipush (C : CT Y X own cc nL) {n : Int} {v : Int32} (hd : decode cc pc = .ok (.bipush n, 2)) (hv : (Int8.ofInt n).toInt32 = v) (k : GO Y X nL a h cells slots (pc + 2) ls (.int v :: st) res) : GO Y X nL a h cells slots pc ls st res := fun hr H locs la hH hS hl => lv_bipush C.1 C.2.1 hd hv (k hr H locs la hH hS hl)
theorem go_sipush (C : CT Y X own cc nL) {n : Int} {v : Int32} (hd : decode cc pc = .ok (.sipush n, 3)) (hv : (Int16.ofInt n).toInt32 = v) (k : GO Y X nL a h cells slots (pc + 3) ls (.int v :: st) res) : GO Y X nL a h cells slots pc ls st res := fun hr H locs la hH hS hl => lv_sipush C.1 C.2.1 hd hv (k hr H locs la hH hS hl)
theorem go_lconst (C : CT Y X own cc nL) {n : Fin 2} {v : Int64} (hd : decode cc pc = .ok (.lconst n, 1)) (hv : Int64.ofNat (n : Nat) = v) (k : GO Y X nL a h cells slots (pc + 1) ls (.long v :: st) res) : GO Y X nL a h cells slots pc ls st res := fun hr H locs la hH hS hl => lv_lconst C.1 C.2.1 hd hv (k hr H locs la hH hS hl)
theorem go_ldc (C : CT Y X own cc nL) {index : Nat} {v : Int32} (hc : Cond.constant own index v ∈ TBL) (hd : decode cc pc = .ok (.ldc index, 2)) (k : GO Y X nL a h cells slots (pc + 2) ls (.int v :: st) res) : GO Y X nL a h cells slots pc ls st res := fun hr H locs la hH hS hl => lv_ldc C.1 C.2.1 C.2.2.2.1 (C.2.2.2.2.1 _ hc) hd (k hr H locs la hH hS hl)
theorem go_ldc2 (C : CT Y X own cc nL) {index : Nat} {v : Int64} (hc : Cond.constantLong own index v ∈ TBL) (hd : decode cc pc = .ok (.ldc2_w index, 3)) (k : GO Y X nL a h cells slots (pc + 3) ls (.long v :: st) res) : GO Y X nL a h cells slots pc ls st res := fun hr H locs la hH hS hl => lv_ldc2 C.1 C.2.1 C.2.2.2.1 (C.2.2.2.2.1 _ hc) hd (k hr H locs la hH hS hl)
theorem go_iload_n (C : CT Y X own cc nL) (p : Nat) {k : Fin 4} {x : Int32} (hd : decode cc pc = .ok (.iload_n k, 1)) (hp : ls[p]? = some ((k : Nat), .int x)) (kk : GO Y X nL a h cells slots (pc + 1) ls (.int x :: st) res) : GO Y X nL a h cells slots pc ls st res := fun hr H locs la hH hS hl => lv_iload_n C.1 C.2.1 hd rfl (lv_at hl p (cL_at hp)) (kk hr H locs la hH hS hl)
theorem go_iload (C : CT Y X own cc nL) (p : Nat) {i : Nat} {x : Int32} (hd : decode cc pc = .ok (.iload i, 2)) (hp : ls[p]? = some (i, .int x)) (kk : GO Y X nL a h cells slots (pc + 2) ls (.int x :: st) res) : GO Y X nL a h cells slots pc ls st res := fun hr H locs la hH hS hl => lv_iload C.1 C.2.1 hd (lv_at hl p (cL_at hp)) (kk hr H locs la hH hS hl)
theorem go_lload_n (C : CT Y X own cc nL) (p : Nat) {k : Fin 4} {x : Int64} (hd : decode cc pc = .ok (.lload_n k, 1)) (hp : ls[p]? = some ((k : Nat), .long x)) (kk : GO Y X nL a h cells slots (pc + 1) ls (.long x :: st) res) : GO Y X nL a h cells slots pc ls st res := fun hr H locs la hH hS hl => lv_lload_n C.1 C.2.1 hd rfl (lv_at hl p (cL_at hp)) (kk hr H locs la hH hS hl)
theorem go_lload (C : CT Y X own cc nL) (p : Nat) {i : Nat} {x : Int64} (hd : decode cc pc = .ok (.lload i, 2)) (hp : ls[p]? = some (i, .long x)) (kk : GO Y X nL a h cells slots (pc + 2) ls (.long x :: st) res) : GO Y X nL a h cells slots pc ls st res := fun hr H locs la hH hS hl => lv_lload C.1 C.2.1 hd (lv_at hl p (cL_at hp)) (kk hr H locs la hH hS hl)
theorem go_aload_n (C : CT Y X own cc nL) (p : Nat) {k : Fin 4} {x : Nat} (hd : decode cc pc = .ok (.aload_n k, 1)) (hp : ls[p]? = some ((k : Nat), .ref x)) (kk : GO Y X nL a h cells slots (pc + 1) ls (.ref x :: st) res) : GO Y X nL a h cells slots pc ls st res := fun hr H locs la hH hS hl => lv_aload_n C.1 C.2.1 hd rfl (lv_at hl p (cL_at hp)) (kk hr H locs la hH hS hl)
theorem go_aload (C : CT Y X own cc nL) (p : Nat) {i : Nat} {x : Nat} (hd : decode cc pc = .ok (.aload i, 2)) (hp : ls[p]? = some (i, .ref x)) (kk : GO Y X nL a h cells slots (pc + 2) ls (.ref x :: st) res) : GO Y X nL a h cells slots pc ls st res := fun hr H locs la hH hS hl => lv_aload C.1 C.2.1 hd (lv_at hl p (cL_at hp)) (kk hr H locs la hH hS hl)
theorem go_sload_n (C : CT Y X own cc nL) (p : Nat) {k : Fin 4} {x : Nat} (hd : decode cc pc = .ok (.aload_n k, 1)) (hp : ls[p]? = some ((k : Nat), .retAddr x)) (kk : GO Y X nL a h cells slots (pc + 1) ls (.retAddr x :: st) res) : GO Y X nL a h cells slots pc ls st res := fun hr H locs la hH hS hl => lv_aload_n C.1 C.2.1 hd rfl (lv_at hl p (cL_at hp)) (kk hr H locs la hH hS hl)
theorem go_istore_n (C : CT Y X own cc nL) {k : Fin 4} {x : Int32} (hd : decode cc pc = .ok (.istore_n k, 1)) (hn : (k : Nat) < nL) (hs : lset k (.int x) ls = ls') (kk : GO Y X nL a h cells slots (pc + 1) ls' st res) : GO Y X nL a h cells slots pc ls (.int x :: st) res := fun hr H locs la hH hS hl => lv_istore_n C.1 C.2.1 hd rfl hl hn (cL_set hs) (fun la' hl' => kk hr H locs la' hH hS hl')
theorem go_istore (C : CT Y X own cc nL) {i : Nat} {x : Int32} (hd : decode cc pc = .ok (.istore i, 2)) (hn : i < nL) (hs : lset i (.int x) ls = ls') (kk : GO Y X nL a h cells slots (pc + 2) ls' st res) : GO Y X nL a h cells slots pc ls (.int x :: st) res := fun hr H locs la hH hS hl => lv_istore C.1 C.2.1 hd hl hn (cL_set hs) (fun la' hl' => kk hr H locs la' hH hS hl')
theorem go_lstore_n (C : CT Y X own cc nL) {k : Fin 4} {x : Int64} (hd : decode cc pc = .ok (.lstore_n k, 1)) (hn : (k : Nat) + 1 < nL) (hs : lset2 k (.long x) ls = ls') (kk : GO Y X nL a h cells slots (pc + 1) ls' st res) : GO Y X nL a h cells slots pc ls (.long x :: st) res := fun hr H locs la hH hS hl => lv_lstore_n C.1 C.2.1 hd rfl hl hn (cL_set2 hs) (fun la' hl' => kk hr H locs la' hH hS hl')
theorem go_lstore (C : CT Y X own cc nL) {i : Nat} {x : Int64} (hd : decode cc pc = .ok (.lstore i, 2)) (hn : i + 1 < nL) (hs : lset2 i (.long x) ls = ls') (kk : GO Y X nL a h cells slots (pc + 2) ls' st res) : GO Y X nL a h cells slots pc ls (.long x :: st) res := fun hr H locs la hH hS hl => lv_lstore C.1 C.2.1 hd hl hn (cL_set2 hs) (fun la' hl' => kk hr H locs la' hH hS hl')
theorem go_astore_n (C : CT Y X own cc nL) {k : Fin 4} {x : Nat} (hd : decode cc pc = .ok (.astore_n k, 1)) (hn : (k : Nat) < nL) (hs : lset k (.ref x) ls = ls') (kk : GO Y X nL a h cells slots (pc + 1) ls' st res) : GO Y X nL a h cells slots pc ls (.ref x :: st) res := fun hr H locs la hH hS hl => lv_astore_n C.1 C.2.1 hd rfl hl hn (cL_set hs) (fun la' hl' => kk hr H locs la' hH hS hl')
theorem go_astore (C : CT Y X own cc nL) {i : Nat} {x : Nat} (hd : decode cc pc = .ok (.astore i, 2)) (hn : i < nL) (hs : lset i (.ref x) ls = ls') (kk : GO Y X nL a h cells slots (pc + 2) ls' st res) : GO Y X nL a h cells slots pc ls (.ref x :: st) res := fun hr H locs la hH hS hl => lv_astore C.1 C.2.1 hd hl hn (cL_set hs) (fun la' hl' => kk hr H locs la' hH hS hl')
theorem go_sstore_n (C : CT Y X own cc nL) {k : Fin 4} {x : Nat} (hd : decode cc pc = .ok (.astore_n k, 1)) (hn : (k : Nat) < nL) (hs : lset k (.retAddr x) ls = ls') (kk : GO Y X nL a h cells slots (pc + 1) ls' st res) : GO Y X nL a h cells slots pc ls (.retAddr x :: st) res := fun hr H locs la hH hS hl => lv_astore_n C.1 C.2.1 hd rfl hl hn (cL_set hs) (fun la' hl' => kk hr H locs la' hH hS hl')
theorem go_istore_nL (C : CT Y X own cc nL) {k : Fin 4} {x : Int32} {K : Int32 → Option α} (hd : decode cc pc = .ok (.istore_n k, 1)) (hn : (k : Nat) < nL) (lf : Int32 → List (Nat × Value)) (hs : ∀ y, lset k (.int y) ls = lf y) (kk : ∀ y : Int32, GO Y X nL a h cells slots (pc + 1) (lf y) st (K y)) : GO Y X nL a h cells slots pc ls (.int x :: st) (letF x K) := go_istore_n C hd hn (hs x) (kk x)
theorem go_istoreL (C : CT Y X own cc nL) {i : Nat} {x : Int32} {K : Int32 → Option α} (hd : decode cc pc = .ok (.istore i, 2)) (hn : i < nL) (lf : Int32 → List (Nat × Value)) (hs : ∀ y, lset i (.int y) ls = lf y) (kk : ∀ y : Int32, GO Y X nL a h cells slots (pc + 2) (lf y) st (K y)) : GO Y X nL a h cells slots pc ls (.int x :: st) (letF x K) := go_istore C hd hn (hs x) (kk x)
theorem go_lstore_nL (C : CT Y X own cc nL) {k : Fin 4} {x : Int64} {K : Int64 → Option α} (hd : decode cc pc = .ok (.lstore_n k, 1)) (hn : (k : Nat) + 1 < nL) (lf : Int64 → List (Nat × Value)) (hs : ∀ y, lset2 k (.long y) ls = lf y) (kk : ∀ y : Int64, GO Y X nL a h cells slots (pc + 1) (lf y) st (K y)) : GO Y X nL a h cells slots pc ls (.long x :: st) (letF x K) := go_lstore_n C hd hn (hs x) (kk x)
theorem go_lstoreL (C : CT Y X own cc nL) {i : Nat} {x : Int64} {K : Int64 → Option α} (hd : decode cc pc = .ok (.lstore i, 2)) (hn : i + 1 < nL) (lf : Int64 → List (Nat × Value)) (hs : ∀ y, lset2 i (.long y) ls = lf y) (kk : ∀ y : Int64, GO Y X nL a h cells slots (pc + 2) (lf y) st (K y)) : GO Y X nL a h cells slots pc ls (.long x :: st) (letF x K) := go_lstore C hd hn (hs x) (kk x)
theorem go_iinc (C : CT Y X own cc nL) (p : Nat) {i : Nat} {n : Int} {x v : Int32} (hd : decode cc pc = .ok (.iinc i n, 3)) (hp : ls[p]? = some (i, .int x)) (hv : Int32.ofInt n = v) (hn : i < nL) (hs : lset i (.int (x + v)) ls = ls') (kk : GO Y X nL a h cells slots (pc + 3) ls' st res) : GO Y X nL a h cells slots pc ls st res := fun hr H locs la hH hS hl => lv_iinc (k := p) C.1 C.2.1 hd hl (cL_at hp) (by rw [hv]) hn (cL_set hs) (fun la' hl' => kk hr H locs la' hH hS hl')
theorem go_iincL (C : CT Y X own cc nL) (p : Nat) {i : Nat} {n : Int} {x v : Int32} {K : Int32 → Option α} (hd : decode cc pc = .ok (.iinc i n, 3)) (hp : ls[p]? = some (i, .int x)) (hv : Int32.ofInt n = v) (hn : i < nL) (lf : Int32 → List (Nat × Value)) (hs : ∀ y, lset i (.int y) ls = lf y) (kk : ∀ y : Int32, GO Y X nL a h cells slots (pc + 3) (lf y) st (K y)) : GO Y X nL a h cells slots pc ls st (letF (x + v) K) := go_iinc C p hd hp hv hn (hs (x + v)) (kk (x + v))

theorem go_iadd (C : CT Y X own cc nL) {x y : Int32} (hd : decode cc pc = .ok (.iadd, 1)) (k : GO Y X nL a h cells slots (pc + 1) ls (.int (x + y) :: st) res) : GO Y X nL a h cells slots pc ls (.int y :: .int x :: st) res := fun hr H locs la hH hS hl => lv_iadd C.1 C.2.1 hd (k hr H locs la hH hS hl)
theorem go_isub (C : CT Y X own cc nL) {x y : Int32} (hd : decode cc pc = .ok (.isub, 1)) (k : GO Y X nL a h cells slots (pc + 1) ls (.int (x - y) :: st) res) : GO Y X nL a h cells slots pc ls (.int y :: .int x :: st) res := fun hr H locs la hH hS hl => lv_isub C.1 C.2.1 hd (k hr H locs la hH hS hl)
theorem go_imul (C : CT Y X own cc nL) {x y : Int32} (hd : decode cc pc = .ok (.imul, 1)) (k : GO Y X nL a h cells slots (pc + 1) ls (.int (x * y) :: st) res) : GO Y X nL a h cells slots pc ls (.int y :: .int x :: st) res := fun hr H locs la hH hS hl => lv_imul C.1 C.2.1 hd (k hr H locs la hH hS hl)
theorem go_iand (C : CT Y X own cc nL) {x y : Int32} (hd : decode cc pc = .ok (.iand, 1)) (k : GO Y X nL a h cells slots (pc + 1) ls (.int (x &&& y) :: st) res) : GO Y X nL a h cells slots pc ls (.int y :: .int x :: st) res := fun hr H locs la hH hS hl => lv_iand C.1 C.2.1 hd (k hr H locs la hH hS hl)
theorem go_ior (C : CT Y X own cc nL) {x y : Int32} (hd : decode cc pc = .ok (.ior, 1)) (k : GO Y X nL a h cells slots (pc + 1) ls (.int (x ||| y) :: st) res) : GO Y X nL a h cells slots pc ls (.int y :: .int x :: st) res := fun hr H locs la hH hS hl => lv_ior C.1 C.2.1 hd (k hr H locs la hH hS hl)
theorem go_ixor (C : CT Y X own cc nL) {x y : Int32} (hd : decode cc pc = .ok (.ixor, 1)) (k : GO Y X nL a h cells slots (pc + 1) ls (.int (x ^^^ y) :: st) res) : GO Y X nL a h cells slots pc ls (.int y :: .int x :: st) res := fun hr H locs la hH hS hl => lv_ixor C.1 C.2.1 hd (k hr H locs la hH hS hl)
theorem go_ishl (C : CT Y X own cc nL) {x y : Int32} (hd : decode cc pc = .ok (.ishl, 1)) (k : GO Y X nL a h cells slots (pc + 1) ls (.int (x <<< (y &&& 31)) :: st) res) : GO Y X nL a h cells slots pc ls (.int y :: .int x :: st) res := fun hr H locs la hH hS hl => lv_ishl C.1 C.2.1 hd (k hr H locs la hH hS hl)
theorem go_ishr (C : CT Y X own cc nL) {x y : Int32} (hd : decode cc pc = .ok (.ishr, 1)) (k : GO Y X nL a h cells slots (pc + 1) ls (.int (x >>> (y &&& 31)) :: st) res) : GO Y X nL a h cells slots pc ls (.int y :: .int x :: st) res := fun hr H locs la hH hS hl => lv_ishr C.1 C.2.1 hd (k hr H locs la hH hS hl)
def jush (x y : Int32) : Int32 := (x.toUInt32 >>> (y.toUInt32 &&& Int32.toUInt32 31)).toInt32
theorem go_iushr (C : CT Y X own cc nL) {x y : Int32} (hd : decode cc pc = .ok (.iushr, 1)) (k : GO Y X nL a h cells slots (pc + 1) ls (.int (jush x y) :: st) res) : GO Y X nL a h cells slots pc ls (.int y :: .int x :: st) res := fun hr H locs la hH hS hl => lv_iushr C.1 C.2.1 hd rfl (k hr H locs la hH hS hl)
theorem go_ineg (C : CT Y X own cc nL) {x : Int32} (hd : decode cc pc = .ok (.ineg, 1)) (k : GO Y X nL a h cells slots (pc + 1) ls (.int (-x) :: st) res) : GO Y X nL a h cells slots pc ls (.int x :: st) res := fun hr H locs la hH hS hl => lv_ineg C.1 C.2.1 hd (k hr H locs la hH hS hl)
def jdiv (x y : Int32) : Option Int32 := if y = 0 then none else some (x / y)
def jrem (x y : Int32) : Option Int32 := if y = 0 then none else some (x - x / y * y)
def jdivL (x y : Int64) : Option Int64 := if y = 0 then none else some (x / y)
def jremL (x y : Int64) : Option Int64 := if y = 0 then none else some (x - x / y * y)
theorem go_idiv (C : CT Y X own cc nL) {x y : Int32} {K : Int32 → Option α} (hd : decode cc pc = .ok (.idiv, 1)) (k : ∀ r : Int32, GO Y X nL a h cells slots (pc + 1) ls (.int r :: st) (K r)) : GO Y X nL a h cells slots pc ls (.int y :: .int x :: st) ((jdiv x y).bind K) := by
  intro hr H locs la hH hS hl
  by_cases hy : y = 0
  · rw [jdiv, if_pos hy] at hr
    cases hr
  · rw [jdiv, if_neg hy] at hr
    exact lv_idiv C.1 C.2.1 hd hy (k (x / y) hr H locs la hH hS hl)
theorem go_irem (C : CT Y X own cc nL) {x y : Int32} {K : Int32 → Option α} (hd : decode cc pc = .ok (.irem, 1)) (k : ∀ r : Int32, GO Y X nL a h cells slots (pc + 1) ls (.int r :: st) (K r)) : GO Y X nL a h cells slots pc ls (.int y :: .int x :: st) ((jrem x y).bind K) := by
  intro hr H locs la hH hS hl
  by_cases hy : y = 0
  · rw [jrem, if_pos hy] at hr
    cases hr
  · rw [jrem, if_neg hy] at hr
    exact lv_irem C.1 C.2.1 hd hy (k (x - x / y * y) hr H locs la hH hS hl)
theorem go_ldiv (C : CT Y X own cc nL) {x y : Int64} {K : Int64 → Option α} (hd : decode cc pc = .ok (.ldiv, 1)) (k : ∀ r : Int64, GO Y X nL a h cells slots (pc + 1) ls (.long r :: st) (K r)) : GO Y X nL a h cells slots pc ls (.long y :: .long x :: st) ((jdivL x y).bind K) := by
  intro hr H locs la hH hS hl
  by_cases hy : y = 0
  · rw [jdivL, if_pos hy] at hr
    cases hr
  · rw [jdivL, if_neg hy] at hr
    exact lv_ldiv C.1 C.2.1 hd hy (k (x / y) hr H locs la hH hS hl)
theorem go_lrem (C : CT Y X own cc nL) {x y : Int64} {K : Int64 → Option α} (hd : decode cc pc = .ok (.lrem, 1)) (k : ∀ r : Int64, GO Y X nL a h cells slots (pc + 1) ls (.long r :: st) (K r)) : GO Y X nL a h cells slots pc ls (.long y :: .long x :: st) ((jremL x y).bind K) := by
  intro hr H locs la hH hS hl
  by_cases hy : y = 0
  · rw [jremL, if_pos hy] at hr
    cases hr
  · rw [jremL, if_neg hy] at hr
    exact lv_lrem C.1 C.2.1 hd hy (k (x - x / y * y) hr H locs la hH hS hl)
theorem go_ladd (C : CT Y X own cc nL) {x y : Int64} (hd : decode cc pc = .ok (.ladd, 1)) (k : GO Y X nL a h cells slots (pc + 1) ls (.long (x + y) :: st) res) : GO Y X nL a h cells slots pc ls (.long y :: .long x :: st) res := fun hr H locs la hH hS hl => lv_ladd C.1 C.2.1 hd (k hr H locs la hH hS hl)
theorem go_lmul (C : CT Y X own cc nL) {x y : Int64} (hd : decode cc pc = .ok (.lmul, 1)) (k : GO Y X nL a h cells slots (pc + 1) ls (.long (x * y) :: st) res) : GO Y X nL a h cells slots pc ls (.long y :: .long x :: st) res := fun hr H locs la hH hS hl => lv_lmul C.1 C.2.1 hd (k hr H locs la hH hS hl)
theorem go_lxor (C : CT Y X own cc nL) {x y : Int64} (hd : decode cc pc = .ok (.lxor, 1)) (k : GO Y X nL a h cells slots (pc + 1) ls (.long (x ^^^ y) :: st) res) : GO Y X nL a h cells slots pc ls (.long y :: .long x :: st) res := fun hr H locs la hH hS hl => lv_lxor C.1 C.2.1 hd (k hr H locs la hH hS hl)
theorem go_lor (C : CT Y X own cc nL) {x y : Int64} (hd : decode cc pc = .ok (.lor, 1)) (k : GO Y X nL a h cells slots (pc + 1) ls (.long (x ||| y) :: st) res) : GO Y X nL a h cells slots pc ls (.long y :: .long x :: st) res := fun hr H locs la hH hS hl => lv_lor C.1 C.2.1 hd (k hr H locs la hH hS hl)
def jshlL (x : Int64) (y : Int32) : Int64 := x <<< (y.toInt64 &&& 63)
theorem go_lshl (C : CT Y X own cc nL) {x : Int64} {y : Int32} (hd : decode cc pc = .ok (.lshl, 1)) (k : GO Y X nL a h cells slots (pc + 1) ls (.long (jshlL x y) :: st) res) : GO Y X nL a h cells slots pc ls (.int y :: .long x :: st) res := fun hr H locs la hH hS hl => lv_lshl C.1 C.2.1 hd rfl (k hr H locs la hH hS hl)
theorem go_lcmp (C : CT Y X own cc nL) {x y : Int64} (hd : decode cc pc = .ok (.lcmp, 1)) (k : GO Y X nL a h cells slots (pc + 1) ls (.int (lg_cmp x y) :: st) res) : GO Y X nL a h cells slots pc ls (.long y :: .long x :: st) res := fun hr H locs la hH hS hl => W.lcmp C.1 C.2.1 hd (k hr H locs la hH hS hl)
theorem go_i2b (C : CT Y X own cc nL) {x : Int32} (hd : decode cc pc = .ok (.i2b, 1)) (k : GO Y X nL a h cells slots (pc + 1) ls (.int (x.toInt8.toInt32) :: st) res) : GO Y X nL a h cells slots pc ls (.int x :: st) res := fun hr H locs la hH hS hl => lv_i2b C.1 C.2.1 hd rfl (k hr H locs la hH hS hl)
theorem go_i2s (C : CT Y X own cc nL) {x : Int32} (hd : decode cc pc = .ok (.i2s, 1)) (k : GO Y X nL a h cells slots (pc + 1) ls (.int (x.toInt16.toInt32) :: st) res) : GO Y X nL a h cells slots pc ls (.int x :: st) res := fun hr H locs la hH hS hl => lv_i2s C.1 C.2.1 hd rfl (k hr H locs la hH hS hl)
theorem go_i2c (C : CT Y X own cc nL) {x : Int32} (hd : decode cc pc = .ok (.i2c, 1)) (k : GO Y X nL a h cells slots (pc + 1) ls (.int ((x.toUInt32 % 65536).toInt32) :: st) res) : GO Y X nL a h cells slots pc ls (.int x :: st) res := fun hr H locs la hH hS hl => lv_i2c C.1 C.2.1 hd rfl (k hr H locs la hH hS hl)
theorem go_i2l (C : CT Y X own cc nL) {x : Int32} (hd : decode cc pc = .ok (.i2l, 1)) (k : GO Y X nL a h cells slots (pc + 1) ls (.long (x.toInt64) :: st) res) : GO Y X nL a h cells slots pc ls (.int x :: st) res := fun hr H locs la hH hS hl => lv_i2l C.1 C.2.1 hd rfl (k hr H locs la hH hS hl)
theorem go_l2i (C : CT Y X own cc nL) {x : Int64} (hd : decode cc pc = .ok (.l2i, 1)) (k : GO Y X nL a h cells slots (pc + 1) ls (.int (x.toInt32) :: st) res) : GO Y X nL a h cells slots pc ls (.long x :: st) res := fun hr H locs la hH hS hl => lv_l2i C.1 C.2.1 hd rfl (k hr H locs la hH hS hl)
def jushL (x : Int64) (y : Int32) : Int64 := (x.toUInt64 >>> (y.toInt64.toUInt64 &&& Int64.toUInt64 63)).toInt64
theorem go_lushr (C : CT Y X own cc nL) {x : Int64} {y : Int32} (hd : decode cc pc = .ok (.lushr, 1)) (k : GO Y X nL a h cells slots (pc + 1) ls (.long (jushL x y) :: st) res) : GO Y X nL a h cells slots pc ls (.int y :: .long x :: st) res := fun hr H locs la hH hS hl => lv_lushr C.1 C.2.1 hd rfl (k hr H locs la hH hS hl)
theorem go_dup (C : CT Y X own cc nL) {v : Value} (hd : decode cc pc = .ok (.dup, 1)) (hv : v.category = 1) (k : GO Y X nL a h cells slots (pc + 1) ls (v :: v :: st) res) : GO Y X nL a h cells slots pc ls (v :: st) res := fun hr H locs la hH hS hl => lv_dup C.1 C.2.1 hd ((cv_cat' v).trans hv) (k hr H locs la hH hS hl)
theorem go_dup_x1 (C : CT Y X own cc nL) {v w : Value} (hd : decode cc pc = .ok (.dup_x1, 1)) (hv : v.category = 1) (hw : w.category = 1) (k : GO Y X nL a h cells slots (pc + 1) ls (v :: w :: v :: st) res) : GO Y X nL a h cells slots pc ls (v :: w :: st) res := fun hr H locs la hH hS hl => lv_dup_x1 C.1 C.2.1 hd ((cv_cat' v).trans hv) ((cv_cat' w).trans hw) (k hr H locs la hH hS hl)
theorem go_dup2 (C : CT Y X own cc nL) {v w : Value} (hd : decode cc pc = .ok (.dup2, 1)) (hv : v.category = 1) (hw : w.category = 1) (k : GO Y X nL a h cells slots (pc + 1) ls (v :: w :: v :: w :: st) res) : GO Y X nL a h cells slots pc ls (v :: w :: st) res := fun hr H locs la hH hS hl => lv_dup2_11 C.1 C.2.1 hd ((cv_cat' v).trans hv) ((cv_cat' w).trans hw) (k hr H locs la hH hS hl)
theorem go_pop (C : CT Y X own cc nL) {v : Value} (hd : decode cc pc = .ok (.pop, 1)) (hv : v.category = 1) (k : GO Y X nL a h cells slots (pc + 1) ls st res) : GO Y X nL a h cells slots pc ls (v :: st) res := fun hr H locs la hH hS hl => lv_pop C.1 C.2.1 hd ((cv_cat' v).trans hv) (k hr H locs la hH hS hl)
theorem go_goto (C : CT Y X own cc nL) {off : Int} (tgt : Nat) (hd : decode cc pc = .ok (.goto off, 3)) (ht : (pc : Int) + off = (tgt : Int)) (k : GO Y X nL a h cells slots tgt ls st res) : GO Y X nL a h cells slots pc ls st res := fun hr H locs la hH hS hl => lv_goto C.1 C.2.1 hd ht (k hr H locs la hH hS hl)
theorem go_icmp_eq (C : CT Y X own cc nL) {x y : Int32} {off : Int} (tgt : Nat) {A B : Option α} (hd : decode cc pc = .ok (.if_icmp .eq off, 3)) (ht : (pc : Int) + off = (tgt : Int)) (k1 : x = y → GO Y X nL a h cells slots tgt ls st A) (k2 : ¬ x = y → GO Y X nL a h cells slots (pc + 3) ls st B) : GO Y X nL a h cells slots pc ls (.int y :: .int x :: st) (if x = y then A else B) := by
  intro hr H locs la hH hS hl
  exact lv_icmp_eq C.1 C.2.1 hd ht (fun c => k1 c (by rw [if_pos c] at hr; exact hr) H locs la hH hS hl) (fun c => k2 c (by rw [if_neg c] at hr; exact hr) H locs la hH hS hl)
theorem go_icmp_ne (C : CT Y X own cc nL) {x y : Int32} {off : Int} (tgt : Nat) {A B : Option α} (hd : decode cc pc = .ok (.if_icmp .ne off, 3)) (ht : (pc : Int) + off = (tgt : Int)) (k1 : x = y → GO Y X nL a h cells slots (pc + 3) ls st A) (k2 : ¬ x = y → GO Y X nL a h cells slots tgt ls st B) : GO Y X nL a h cells slots pc ls (.int y :: .int x :: st) (if x = y then A else B) := by
  intro hr H locs la hH hS hl
  exact lv_icmp_ne C.1 C.2.1 hd ht (fun c => k2 c (by rw [if_neg c] at hr; exact hr) H locs la hH hS hl) (fun c => k1 c (by rw [if_pos c] at hr; exact hr) H locs la hH hS hl)
theorem go_icmp_lt (C : CT Y X own cc nL) {x y : Int32} {off : Int} (tgt : Nat) {A B : Option α} (hd : decode cc pc = .ok (.if_icmp .lt off, 3)) (ht : (pc : Int) + off = (tgt : Int)) (k1 : x < y → GO Y X nL a h cells slots tgt ls st A) (k2 : ¬ x < y → GO Y X nL a h cells slots (pc + 3) ls st B) : GO Y X nL a h cells slots pc ls (.int y :: .int x :: st) (if x < y then A else B) := by
  intro hr H locs la hH hS hl
  exact lv_icmp_lt C.1 C.2.1 hd ht (fun c => k1 c (by rw [if_pos c] at hr; exact hr) H locs la hH hS hl) (fun c => k2 c (by rw [if_neg c] at hr; exact hr) H locs la hH hS hl)
theorem go_icmp_ge (C : CT Y X own cc nL) {x y : Int32} {off : Int} (tgt : Nat) {A B : Option α} (hd : decode cc pc = .ok (.if_icmp .ge off, 3)) (ht : (pc : Int) + off = (tgt : Int)) (k1 : y ≤ x → GO Y X nL a h cells slots tgt ls st A) (k2 : ¬ y ≤ x → GO Y X nL a h cells slots (pc + 3) ls st B) : GO Y X nL a h cells slots pc ls (.int y :: .int x :: st) (if y ≤ x then A else B) := by
  intro hr H locs la hH hS hl
  exact lv_icmp_ge C.1 C.2.1 hd ht (fun c => k1 c (by rw [if_pos c] at hr; exact hr) H locs la hH hS hl) (fun c => k2 c (by rw [if_neg c] at hr; exact hr) H locs la hH hS hl)
theorem go_icmp_gt (C : CT Y X own cc nL) {x y : Int32} {off : Int} (tgt : Nat) {A B : Option α} (hd : decode cc pc = .ok (.if_icmp .gt off, 3)) (ht : (pc : Int) + off = (tgt : Int)) (k1 : y < x → GO Y X nL a h cells slots tgt ls st A) (k2 : ¬ y < x → GO Y X nL a h cells slots (pc + 3) ls st B) : GO Y X nL a h cells slots pc ls (.int y :: .int x :: st) (if y < x then A else B) := by
  intro hr H locs la hH hS hl
  exact lv_icmp_gt C.1 C.2.1 hd ht (fun c => k1 c (by rw [if_pos c] at hr; exact hr) H locs la hH hS hl) (fun c => k2 c (by rw [if_neg c] at hr; exact hr) H locs la hH hS hl)
theorem go_icmp_le (C : CT Y X own cc nL) {x y : Int32} {off : Int} (tgt : Nat) {A B : Option α} (hd : decode cc pc = .ok (.if_icmp .le off, 3)) (ht : (pc : Int) + off = (tgt : Int)) (k1 : x ≤ y → GO Y X nL a h cells slots tgt ls st A) (k2 : ¬ x ≤ y → GO Y X nL a h cells slots (pc + 3) ls st B) : GO Y X nL a h cells slots pc ls (.int y :: .int x :: st) (if x ≤ y then A else B) := by
  intro hr H locs la hH hS hl
  exact lv_icmp_le C.1 C.2.1 hd ht (fun c => k1 c (by rw [if_pos c] at hr; exact hr) H locs la hH hS hl) (fun c => k2 c (by rw [if_neg c] at hr; exact hr) H locs la hH hS hl)
theorem go_if_eq (C : CT Y X own cc nL) {x : Int32} {off : Int} (tgt : Nat) {A B : Option α} (hd : decode cc pc = .ok (.ifCond .eq off, 3)) (ht : (pc : Int) + off = (tgt : Int)) (k1 : x = 0 → GO Y X nL a h cells slots tgt ls st A) (k2 : ¬ x = 0 → GO Y X nL a h cells slots (pc + 3) ls st B) : GO Y X nL a h cells slots pc ls (.int x :: st) (if x = 0 then A else B) := by
  intro hr H locs la hH hS hl
  exact lv_if_eq C.1 C.2.1 hd ht (fun c => k1 c (by rw [if_pos c] at hr; exact hr) H locs la hH hS hl) (fun c => k2 c (by rw [if_neg c] at hr; exact hr) H locs la hH hS hl)
theorem go_if_ne (C : CT Y X own cc nL) {x : Int32} {off : Int} (tgt : Nat) {A B : Option α} (hd : decode cc pc = .ok (.ifCond .ne off, 3)) (ht : (pc : Int) + off = (tgt : Int)) (k1 : x = 0 → GO Y X nL a h cells slots (pc + 3) ls st A) (k2 : ¬ x = 0 → GO Y X nL a h cells slots tgt ls st B) : GO Y X nL a h cells slots pc ls (.int x :: st) (if x = 0 then A else B) := by
  intro hr H locs la hH hS hl
  exact lv_if_ne C.1 C.2.1 hd ht (fun c => k2 c (by rw [if_neg c] at hr; exact hr) H locs la hH hS hl) (fun c => k1 c (by rw [if_pos c] at hr; exact hr) H locs la hH hS hl)
theorem go_if_lt (C : CT Y X own cc nL) {x : Int32} {off : Int} (tgt : Nat) {A B : Option α} (hd : decode cc pc = .ok (.ifCond .lt off, 3)) (ht : (pc : Int) + off = (tgt : Int)) (k1 : x < 0 → GO Y X nL a h cells slots tgt ls st A) (k2 : ¬ x < 0 → GO Y X nL a h cells slots (pc + 3) ls st B) : GO Y X nL a h cells slots pc ls (.int x :: st) (if x < 0 then A else B) := by
  intro hr H locs la hH hS hl
  exact lv_if_lt C.1 C.2.1 hd ht (fun c => k1 c (by rw [if_pos c] at hr; exact hr) H locs la hH hS hl) (fun c => k2 c (by rw [if_neg c] at hr; exact hr) H locs la hH hS hl)
theorem go_if_ge (C : CT Y X own cc nL) {x : Int32} {off : Int} (tgt : Nat) {A B : Option α} (hd : decode cc pc = .ok (.ifCond .ge off, 3)) (ht : (pc : Int) + off = (tgt : Int)) (k1 : 0 ≤ x → GO Y X nL a h cells slots tgt ls st A) (k2 : ¬ 0 ≤ x → GO Y X nL a h cells slots (pc + 3) ls st B) : GO Y X nL a h cells slots pc ls (.int x :: st) (if 0 ≤ x then A else B) := by
  intro hr H locs la hH hS hl
  exact lv_if_ge C.1 C.2.1 hd ht (fun c => k1 c (by rw [if_pos c] at hr; exact hr) H locs la hH hS hl) (fun c => k2 c (by rw [if_neg c] at hr; exact hr) H locs la hH hS hl)
theorem go_if_gt (C : CT Y X own cc nL) {x : Int32} {off : Int} (tgt : Nat) {A B : Option α} (hd : decode cc pc = .ok (.ifCond .gt off, 3)) (ht : (pc : Int) + off = (tgt : Int)) (k1 : 0 < x → GO Y X nL a h cells slots tgt ls st A) (k2 : ¬ 0 < x → GO Y X nL a h cells slots (pc + 3) ls st B) : GO Y X nL a h cells slots pc ls (.int x :: st) (if 0 < x then A else B) := by
  intro hr H locs la hH hS hl
  exact lv_if_gt C.1 C.2.1 hd ht (fun c => k1 c (by rw [if_pos c] at hr; exact hr) H locs la hH hS hl) (fun c => k2 c (by rw [if_neg c] at hr; exact hr) H locs la hH hS hl)
theorem go_if_le (C : CT Y X own cc nL) {x : Int32} {off : Int} (tgt : Nat) {A B : Option α} (hd : decode cc pc = .ok (.ifCond .le off, 3)) (ht : (pc : Int) + off = (tgt : Int)) (k1 : x ≤ 0 → GO Y X nL a h cells slots tgt ls st A) (k2 : ¬ x ≤ 0 → GO Y X nL a h cells slots (pc + 3) ls st B) : GO Y X nL a h cells slots pc ls (.int x :: st) (if x ≤ 0 then A else B) := by
  intro hr H locs la hH hS hl
  exact lv_if_le C.1 C.2.1 hd ht (fun c => k1 c (by rw [if_pos c] at hr; exact hr) H locs la hH hS hl) (fun c => k2 c (by rw [if_neg c] at hr; exact hr) H locs la hH hS hl)
theorem go_ifZ_eq (C : CT Y X own cc nL) {b : Bool} {off : Int} (tgt : Nat) {A B : Option α} (hd : decode cc pc = .ok (.ifCond .eq off, 3)) (ht : (pc : Int) + off = (tgt : Int)) (k1 : b = true → GO Y X nL a h cells slots (pc + 3) ls st A) (k2 : ¬ b = true → GO Y X nL a h cells slots tgt ls st B) : GO Y X nL a h cells slots pc ls (.int (b2i b) :: st) (if b = true then A else B) := by
  intro hr H locs la hH hS hl
  exact lv_if_eq C.1 C.2.1 hd ht (fun c => have c' : ¬ b = true := by rw [b2i_0.mp c]; decide
    k2 c' (by rw [if_neg c'] at hr; exact hr) H locs la hH hS hl) (fun c => k1 (b2i_n.mp c) (by rw [if_pos (b2i_n.mp c)] at hr; exact hr) H locs la hH hS hl)
theorem go_ifZ_ne (C : CT Y X own cc nL) {b : Bool} {off : Int} (tgt : Nat) {A B : Option α} (hd : decode cc pc = .ok (.ifCond .ne off, 3)) (ht : (pc : Int) + off = (tgt : Int)) (k1 : b = true → GO Y X nL a h cells slots tgt ls st A) (k2 : ¬ b = true → GO Y X nL a h cells slots (pc + 3) ls st B) : GO Y X nL a h cells slots pc ls (.int (b2i b) :: st) (if b = true then A else B) := by
  intro hr H locs la hH hS hl
  exact lv_if_ne C.1 C.2.1 hd ht (fun c => k1 (b2i_n.mp c) (by rw [if_pos (b2i_n.mp c)] at hr; exact hr) H locs la hH hS hl) (fun c => have c' : ¬ b = true := by rw [b2i_0.mp c]; decide
    k2 c' (by rw [if_neg c'] at hr; exact hr) H locs la hH hS hl)
theorem go_tsw (C : CT Y X own cc nL) {dflt lo hi : Int} {offs : Array Int} {len : Nat} {x : Int32} {off : Int} (tgt : Nat) (v : Int32) (hx : x = v) (hd : decode cc pc = .ok (.tableswitch dflt lo hi offs, len)) (h1 : ¬ v.toInt < lo) (h2 : ¬ hi < v.toInt) (ho : offs[(v.toInt - lo).toNat]? = some off) (ht : (pc : Int) + off = (tgt : Int)) (k : GO Y X nL a h cells slots tgt ls st res) : GO Y X nL a h cells slots pc ls (.int x :: st) res := by
  subst hx
  exact fun hr H locs la hH hS hl => lv_tableIn C.1 C.2.1 hd h1 h2 ho ht (k hr H locs la hH hS hl)
theorem go_tsw_out (C : CT Y X own cc nL) {dflt lo hi : Int} {offs : Array Int} {len : Nat} {x : Int32} (tgt : Nat) (hd : decode cc pc = .ok (.tableswitch dflt lo hi offs, len)) (hx : x.toInt < lo ∨ hi < x.toInt) (ht : (pc : Int) + dflt = (tgt : Int)) (k : GO Y X nL a h cells slots tgt ls st res) : GO Y X nL a h cells slots pc ls (.int x :: st) res := fun hr H locs la hH hS hl => lv_tableOut C.1 C.2.1 hd hx ht (k hr H locs la hH hS hl)
theorem go_lsw (C : CT Y X own cc nL) {dflt : Int} {ps : Array (Int × Int)} {len : Nat} {x : Int32} {off : Int} (tgt : Nat) (hd : decode cc pc = .ok (.lookupswitch dflt ps, len)) (hp : (ps.toList.zip (ps.toList.drop 1)).all (fun (a, next) => a.1 < next.1) = true) (ho : Op.lookupswitch.offset ps.toList dflt x.toInt = off) (ht : (pc : Int) + off = (tgt : Int)) (k : GO Y X nL a h cells slots tgt ls st res) : GO Y X nL a h cells slots pc ls (.int x :: st) res := fun hr H locs la hH hS hl => lv_lookup C.1 C.2.1 hd hp ho ht (k hr H locs la hH hS hl)
end GOR

