/-! fields, arrays, calls, ends: rows of GO over the abstract heap -/
theorem gF_spec {h : AH} {c a k : Nat} {v : Value} (e : gF h c a k = some v) : ∃ fs, h.1 a = some (.inr (c, fs)) ∧ fs[k]? = some v := by
  unfold gF at e
  split at e
  · rename_i c' fs hh
    split at e
    · rename_i hc; subst hc; exact ⟨fs, hh, e⟩
    · cases e
  · cases e
theorem gI_spec {h : AH} {c a k : Nat} {x : Int32} (e : gI h c a k = some x) : gF h c a k = some (.int x) := by
  unfold gI at e
  split at e
  · cases e; assumption
  · cases e
theorem gR_spec {h : AH} {c a k : Nat} {x : Nat} (e : gR h c a k = some x) : gF h c a k = some (.ref x) := by
  unfold gR at e
  split at e
  · cases e; assumption
  · cases e
theorem gZ_spec {h : AH} {c a k : Nat} {b : Bool} (e : gZ h c a k = some b) : gF h c a k = some (.int (b2i b)) := by
  unfold gZ at e
  split at e
  · rename_i x hx
    rw [hx, i2z_b e]
  · cases e
theorem pF_spec {h h1 : AH} {c a k : Nat} {v : Value} (e : pF h c a k v = some h1) : ∃ fs, h.1 a = some (.inr (c, fs)) ∧ k < fs.length ∧ h1 = hset h a (.inr (c, fs.set k v)) := by
  unfold pF at e
  split at e
  · rename_i c' fs hh
    split at e
    · rename_i hc; obtain ⟨hc, hl⟩ := hc; subst hc; cases e; exact ⟨fs, hh, hl, rfl⟩
    · cases e
  · cases e
theorem aI_spec {h : AH} {t a : Nat} {i x : Int32} (e : aI h t a i = some x) : ∃ n f, h.1 a = some (.inl (t, n, .inl f)) ∧ vp_in i n ∧ f i.toNatClampNeg = x := by
  unfold aI at e
  split at e
  · rename_i t' n f hh
    split at e
    · rename_i hc; obtain ⟨hc, hl⟩ := hc; subst hc; cases e; exact ⟨n, f, hh, hl, rfl⟩
    · cases e
  · cases e
theorem aJ_spec {h : AH} {a : Nat} {i : Int32} {x : Int64} (e : aJ h a i = some x) : ∃ n f, h.1 a = some (.inl (1, n, .inr (.inl f))) ∧ vp_in i n ∧ f i.toNatClampNeg = x := by
  unfold aJ at e
  split at e
  · rename_i t' n f hh
    split at e
    · rename_i hc; obtain ⟨hc, hl⟩ := hc; subst hc; cases e; exact ⟨n, f, hh, hl, rfl⟩
    · cases e
  · cases e
theorem aR_spec {h : AH} {a : Nat} {i : Int32} {x : Nat} (e : aR h a i = some x) : ∃ n f, h.1 a = some (.inl (5, n, .inr (.inr (.inr (.inr f))))) ∧ vp_in i n ∧ f i.toNatClampNeg = some x := by
  unfold aR at e
  split at e
  · rename_i t' n f hh
    split at e
    · rename_i hc; obtain ⟨hc, hl⟩ := hc; subst hc; exact ⟨n, f, hh, hl, e⟩
    · cases e
  · cases e
theorem aL_spec {h : AH} {t a : Nat} {x : Int32} (e : aL h t a = some x) : ∃ n d, h.1 a = some (.inl (t, n, d)) ∧ Int32.ofNat n = x := by
  unfold aL at e
  split at e
  · rename_i t' n d hh
    split at e
    · rename_i hc; subst hc; cases e; exact ⟨n, d, hh, rfl⟩
    · cases e
  · cases e
theorem sI_spec {h h1 : AH} {t a : Nat} {i x : Int32} (e : sI h t a i x = some h1) : ∃ n f, h.1 a = some (.inl (t, n, .inl f)) ∧ vp_in i n ∧ h1 = hset h a (.inl (t, n, .inl (upd f i.toNatClampNeg (vp_nar (tyA t) x)))) := by
  unfold sI at e
  split at e
  · rename_i t' n f hh
    split at e
    · rename_i hc; obtain ⟨hc, hl⟩ := hc; subst hc; cases e; exact ⟨n, f, hh, hl, rfl⟩
    · cases e
  · cases e
theorem sJ_spec {h h1 : AH} {a : Nat} {i : Int32} {x : Int64} (e : sJ h a i x = some h1) : ∃ n f, h.1 a = some (.inl (1, n, .inr (.inl f))) ∧ vp_in i n ∧ h1 = hset h a (.inl (1, n, .inr (.inl (vp_updL f i.toNatClampNeg x)))) := by
  unfold sJ at e
  split at e
  · rename_i t' n f hh
    split at e
    · rename_i hc; obtain ⟨hc, hl⟩ := hc; subst hc; cases e; exact ⟨n, f, hh, hl, rfl⟩
    · cases e
  · cases e
theorem sR_spec {h h1 : AH} {a : Nat} {i : Int32} {x : Nat} (e : sR h a i x = some h1) : ∃ n f fs, h.1 a = some (.inl (5, n, .inr (.inr (.inr (.inr f))))) ∧ h.1 x = some (.inr (9, fs)) ∧ vp_in i n ∧ h1 = hset h a (.inl (5, n, .inr (.inr (.inr (.inr (va_up f i.toNatClampNeg (some x))))))) := by
  unfold sR at e
  split at e
  · rename_i t' n f hh
    split at e
    · rename_i fs hx
      split at e
      · rename_i hc; obtain ⟨hc, hl⟩ := hc; subst hc; cases e; exact ⟨n, f, fs, hh, hx, hl, rfl⟩
      · cases e
    · cases e
  · cases e
theorem HR.one {Y : YT} {h : AH} {H : Heap} {k : Nat} {e : AE} (hH : HR Y h H) (h0 : h.1 k = some e) : va_P Y.2.2.2.1 classes [(Y.1 + k, cE Y e)] H := by
  intro j q hq
  have hz : j < 1 := (List.getElem?_eq_some_iff.mp hq).1
  rw [show j = 0 by omega] at hq
  cases hq
  exact hH.2 k e h0
/-- a field of a class, as a class names it -/
def FD (own : String) (index ci k : Nat) (ty : FieldType) : Prop := ∃ (C : String) (T : u_T) (N : Nat), classes[ci]? = some (C, T, N) ∧ (∀ w ∈ u_ws C T N, w ∈ TBL) ∧ k < N ∧ Cond.fieldLink own index (T k).1 (T k).2.1 (T k).2.2.1 ∈ TBL ∧ parseFieldDescriptor (T k).2.2.1 = some ty
/-- the same, to be written -/
def FP (own : String) (index ci k : Nat) (ty : FieldType) (fin : Bool) : Prop := ∃ (C : String) (T : u_T) (N : Nat) (ty0 : Nat → FieldType), classes[ci]? = some (C, T, N) ∧ (∀ w ∈ u_ws C T N, w ∈ TBL) ∧ k < N ∧ Cond.fieldLink own index (T k).1 (T k).2.1 (T k).2.2.1 ∈ TBL ∧ parseFieldDescriptor (T k).2.2.1 = some ty ∧
  (∀ k, k < N → parseFieldDescriptor (T k).2.2.1 = some (ty0 k)) ∧ (∀ a, a < N → ∀ b, b < N → a ≠ b → (T a).2.1 ≠ (T b).2.1) ∧ (T k).2.2.2 = fin ∧ (T k).1 = own
/-- the end that a walk is to come to -/
def QR (Y : YT) (v : Option Value) (h : AH) : Array Value → State → Outcome → State → Prop := fun _ st oc t => oc = .returned (v.map (cv Y)) ∧ HR Y h t.heap ∧ va_F (AA Y) st t
def RX (Y : YT) (X : XT) (ret : Option FieldType) (v : Option Value) (h : AH) (cells slots : Nat) : Prop := X.2.2.2.2.2.2.2.2.2.2 = MQ X.2.2.2.2.2.2.2.1 (QR Y v h) X.2.2.2.2.2.2.1 X.2.2.2.2.1 cells slots (AA Y) ∧ X.2.2.2.2.2.2.2.2.1.sig.returnType = ret
def rmA (d mc ms : Nat) : Room := { frames := d, cells := mc, slots := ms, locals := 64 * d }
def RO (X : XT) (d mc ms : Nat) : Prop := d ≤ X.2.2.2.1.frames ∧ 64 * d ≤ X.2.2.2.1.locals ∧ mc ≤ X.2.2.2.1.cells ∧ ms ≤ X.2.2.2.1.slots
/-- a method's contract at these arguments over this heap: it returns v, the heap holds h' -/
def MC (y : MethodName) (cc : ByteArray) (nL : Nat) (ret : Option FieldType) (d mc ms : Nat) (av : List Value) (h : AH) (v : Option Value) (h' : AH) : Prop :=
  ∀ (l : Launch) (Y : YT), l.flags = flags0 → Met l y (Cond.code y cc nL ret :: TBL) (rmA d mc ms) (va_Pc (av.map (cv Y)) (fun U => HR Y h U.heap ∧ va_K Y.2.2.2.1 classes (tysA Y) U ∧ Y.1 ≤ U.heap.size ∧ SX Y U U.heap)) (QR Y v h') mc ms (AA Y)
def hasC (h : AH) (c a : Nat) : Bool := match h.1 a with
  | some (.inr (c', _)) => c' == c
  | _ => false
theorem hasC_spec {h : AH} {c a : Nat} (e : hasC h c a = true) : ∃ fs, h.1 a = some (.inr (c, fs)) := by
  unfold hasC at e
  split at e
  · rename_i c' fs hh
    have : c' = c := by simpa using e
    subst this
    exact ⟨fs, hh⟩
  · cases e
theorem tbl_in {w : Cond} (hw : w ∈ TBL) : GoodIn TBL (w :: TBL) := by
  intro x hx
  have hm : x ∈ TBL := by
    rcases List.mem_cons.mp hx with h | h
    · rw [h]; exact hw
    · exact h
  exact ⟨hm, good_of_word (List.mem_filter.mp hm).2⟩
section GOH
variable {α : Type} {Y : YT} {X : XT} {own : String} {cc : ByteArray} {nL : Nat} {a : α} {h : AH} {cells slots : Nat} {pc : Nat} {ls ls' : List (Nat × Value)} {st : List Value} {res : Option α}
theorem go_bind {β : Type} {o : Option β} {K : β → Option α} (k : ∀ r : β, o = some r → GO Y X nL a h cells slots pc ls st (K r)) : GO Y X nL a h cells slots pc ls st (o.bind K) := by
  cases o with
  | none => exact go_none pc ls st
  | some r => exact k r rfl
theorem aw_get (C : CT Y X own cc nL) {index ci k : Nat} {ty : FieldType} {b : Nat} {v : Value} (F : FD own index ci k ty) (hd : decode cc pc = .ok (.getfield index, 3)) (hv : gF h ci b k = some v) (kk : AW Y X nL h cells slots (pc + 3) ls (v :: st)) : AW Y X nL h cells slots pc ls (.ref b :: st) := by
  intro H locs la hH hS hl
  obtain ⟨Cn, T, N, hc, hin, hk, hw, -⟩ := F
  obtain ⟨fs, hb, hf⟩ := gF_spec hv
  refine va_get (D := Y.2.2.2.1) (ci := ci) (v := cv Y v) (C := Cn) (T := T) (N := N) C.1 C.2.1 C.2.2.2.2.1 hin C.2.2.2.1 C.2.2.2.2.2.1 (hH.one hb) 0 rfl hc k hk (C.2.2.2.2.1 _ hw) (fun _ h9 => h9) (by rw [List.getElem?_map, hf]; rfl) hd (kk H locs la hH hS hl)
theorem go_gI (C : CT Y X own cc nL) {index ci k : Nat} {ty : FieldType} {b : Nat} {K : Int32 → Option α} (F : FD own index ci k ty) (hd : decode cc pc = .ok (.getfield index, 3)) (kk : ∀ x : Int32, GO Y X nL a h cells slots (pc + 3) ls (.int x :: st) (K x)) : GO Y X nL a h cells slots pc ls (.ref b :: st) ((gI h ci b k).bind K) := go_bind fun x hx hr => aw_get C F hd (gI_spec hx) (kk x hr)
theorem go_gZ (C : CT Y X own cc nL) {index ci k : Nat} {ty : FieldType} {b : Nat} {K : Bool → Option α} (F : FD own index ci k ty) (hd : decode cc pc = .ok (.getfield index, 3)) (kk : ∀ x : Bool, GO Y X nL a h cells slots (pc + 3) ls (.int (b2i x) :: st) (K x)) : GO Y X nL a h cells slots pc ls (.ref b :: st) ((gZ h ci b k).bind K) := go_bind fun x hx hr => aw_get C F hd (gZ_spec hx) (kk x hr)
theorem go_gR (C : CT Y X own cc nL) {index ci k : Nat} {ty : FieldType} {b : Nat} {K : Nat → Option α} (F : FD own index ci k ty) (hd : decode cc pc = .ok (.getfield index, 3)) (kk : ∀ x : Nat, GO Y X nL a h cells slots (pc + 3) ls (.ref x :: st) (K x)) : GO Y X nL a h cells slots pc ls (.ref b :: st) ((gR h ci b k).bind K) := go_bind fun x hx hr => aw_get C F hd (gR_spec hx) (kk x hr)
theorem HR.put {H H1 : Heap} {b ci k N : Nat} {Cn : String} {T : u_T} {fs : List Value} {v : Value} {cell : Cell} (hH : HR Y h H) (hb : h.1 b = some (.inr (ci, fs))) (hc : classes[ci]? = some (Cn, T, N)) (hl : k < fs.length) (hk : k < N) (hap : ∀ x y, x < N → y < N → x ≠ y → (Y.2.2.2.1.2 ci) x ≠ (Y.2.2.2.1.2 ci) y)
    (q2 : cell.cls = Y.2.2.2.1.1 ci) (q3 : cell.vm = .none) (q4 : ∀ j, j < N → cell.slots[Y.2.2.2.1.2 ci j]? = some (vp_V (fs.map (cv Y)) j)) (e1 : H1[Y.1 + b]? = some (cell.setSlot (Y.2.2.2.1.2 ci k) (cv Y v))) (e2 : H1.size = H.size) (e3 : ∀ q : Nat, q ≠ Y.1 + b → H1[q]? = H[q]?) : HR Y (hset h b (.inr (ci, fs.set k v))) H1 := by
  refine hH.set hb ?_ e2 e3
  refine ⟨_, hc, ?_⟩
  have h9 : t_OB (Y.1 + b) (Y.2.2.2.1.1 ci) N (Y.2.2.2.1.2 ci) H1 (updV (vp_V (fs.map (cv Y))) k (cv Y v)) := ⟨_, e1, q2, q3, t_set q4 hap hk _⟩
  refine h9.to fun j _ => ?_
  rw [vp_updV_set (by rw [List.length_map]; exact hl), List.map_set]
theorem aw_put (C : CT Y X own cc nL) {index ci k : Nat} {ty : FieldType} {b : Nat} {v : Value} {h1 : AH} (F : FP own index ci k ty false) (hd : decode cc pc = .ok (.putfield index, 3)) (hn : narrow ty (cv Y v) = cv Y v) (hfit : fits ty (cv Y v) = true) (hp : pF h ci b k v = some h1) (kk : AW Y X nL h1 cells slots (pc + 3) ls st) : AW Y X nL h cells slots pc ls (v :: .ref b :: st) := by
  intro H locs la hH hS hl
  obtain ⟨Cn, T, N, ty0, hc, hin, hk, hw, hty, htys, hnm, hfin, -⟩ := F
  obtain ⟨fs, hb, hlen, rfl⟩ := pF_spec hp
  have hts := C.2.2.2.2.1
  have hK := C.2.2.2.2.2.1
  have hap := va_apart (own := own) hts hin ty0 htys hnm hK hc
  obtain ⟨r, h1, cell, q1, q2, q3, q4⟩ := hH.2 b _ hb
  have hr : r = (Cn, T, N) := Option.some.inj (h1.symm.trans hc)
  subst hr
  obtain ⟨hSl, hfc, kC, hkC, hkind⟩ := hK.1 ci _ hc
  obtain ⟨cf, kf, fi, f, hi, hsl⟩ := hSl k hk
  have hlay := hts _ (hin _ (u_in_lay hk))
  unfold u_lay at hlay
  rw [if_neg (by rw [hfin]; decide)] at hlay
  have hst := (u_facts hfc hkC (u_lays hts hin hk) hi).1
  have h6 := u_store hfc hkC hkind hlay hi hty hn hfit
  refine W.putK C.1 C.2.1 (f := f) ⟨C.2.2.2.1, hts _ hw, ⟨_, _, _, hi⟩, hst⟩ (by rw [q2]; exact h6) q1 q3 (by rw [hsl]; exact k2_hasslot (q4 k hk)) rfl rfl hd fun H' e1 e2 e3 => ?_
  rw [hsl] at e1 ⊢
  exact kk H' _ la (HR.put hH hb hc hlen hk hap q2 q3 q4 e1 e2 e3) (hS.put e2 e3 (Nat.le_add_right _ _)) hl
theorem aw_putF (C : CT Y X own cc nL) {index ci k : Nat} {ty : FieldType} {b : Nat} {v : Value} {h1 : AH} (F : FP own index ci k ty true) (hinit : X.2.2.2.2.2.2.2.2.1.name = "<init>") (hd : decode cc pc = .ok (.putfield index, 3)) (hn : narrow ty (cv Y v) = cv Y v) (hfit : fits ty (cv Y v) = true) (hp : pF h ci b k v = some h1) (kk : AW Y X nL h1 cells slots (pc + 3) ls st) : AW Y X nL h cells slots pc ls (v :: .ref b :: st) := by
  intro H locs la hH hS hl
  obtain ⟨Cn, T, N, ty0, hc, hin, hk, hw, hty, htys, hnm, hfin, hdecl⟩ := F
  obtain ⟨fs, hb, hlen, rfl⟩ := pF_spec hp
  have hts := C.2.2.2.2.1
  have hK := C.2.2.2.2.2.1
  have hap := va_apart (own := own) hts hin ty0 htys hnm hK hc
  obtain ⟨r, h1, cell, q1, q2, q3, q4⟩ := hH.2 b _ hb
  have hr : r = (Cn, T, N) := Option.some.inj (h1.symm.trans hc)
  subst hr
  obtain ⟨hSl, hfc, kC, hkC, hkind⟩ := hK.1 ci _ hc
  obtain ⟨cf, kf, fi, f, hi, hsl⟩ := hSl k hk
  have hlay := hts _ (hin _ (u_in_lay hk))
  unfold u_lay at hlay
  rw [if_pos hfin] at hlay
  have hst := (u_facts hfc hkC (u_lays hts hin hk) hi).1
  have hcf : X.2.2.2.2.2.1.cls = cf := by
    obtain ⟨_, _, c', _, _, _, -, -, hf', -, -, -, hown2, -⟩ := Cond.laysFinal_spec hlay
    have e1 : c' = cf := by have := hi.symm.trans hf'; simp at this; exact this.1.symm
    rw [hdecl] at hown2
    rw [← e1]; exact Option.some.inj (C.2.2.2.1.symm.trans hown2)
  have h6 := u_fits hfc hkC hkind (Or.inr hlay) hi hty hn hfit
  refine W.putFinK C.1 C.2.1 C.2.2.2.1 (hts _ hw) hi hst hcf hinit (by rw [q2]; exact h6) q1 q3 (by rw [hsl]; exact k2_hasslot (q4 k hk)) rfl rfl hd fun H' e1 e2 e3 => ?_
  rw [hsl] at e1 ⊢
  exact kk H' _ la (HR.put hH hb hc hlen hk hap q2 q3 q4 e1 e2 e3) (hS.put e2 e3 (Nat.le_add_right _ _)) hl
theorem go_pI (C : CT Y X own cc nL) {index ci k : Nat} {b : Nat} {x : Int32} {K : AH → Option α} (F : FP own index ci k .int false) (hd : decode cc pc = .ok (.putfield index, 3)) (kk : ∀ h1 : AH, GO Y X nL a h1 cells slots (pc + 3) ls st (K h1)) : GO Y X nL a h cells slots pc ls (.int x :: .ref b :: st) ((pF h ci b k (.int x)).bind K) := go_bind fun h1 hx hr => aw_put C F hd rfl rfl hx (kk h1 hr)
theorem b2i_nar (b : Bool) : narrow .boolean (.int (b2i b)) = .int (b2i b) := by cases b <;> decide
theorem b2i_fit (b : Bool) : fits .boolean (.int (b2i b)) = true := by cases b <;> decide
theorem go_pZ (C : CT Y X own cc nL) {index ci k : Nat} {b : Nat} {x : Int32} (z : Bool) (hz : x = b2i z) {K : AH → Option α} (F : FP own index ci k .boolean false) (hd : decode cc pc = .ok (.putfield index, 3)) (kk : ∀ h1 : AH, GO Y X nL a h1 cells slots (pc + 3) ls st (K h1)) : GO Y X nL a h cells slots pc ls (.int x :: .ref b :: st) ((pF h ci b k (.int (b2i z))).bind K) := by
  subst hz
  exact go_bind fun h1 hx hr => aw_put C F hd (b2i_nar z) (b2i_fit z) hx (kk h1 hr)
theorem go_pR (C : CT Y X own cc nL) {index ci k : Nat} {b x : Nat} {ty : FieldType} {K : AH → Option α} (F : FP own index ci k ty false) (hd : decode cc pc = .ok (.putfield index, 3)) (hn : ∀ q, narrow ty (.ref q) = .ref q) (hf : ∀ q, fits ty (.ref q) = true) (kk : ∀ h1 : AH, GO Y X nL a h1 cells slots (pc + 3) ls st (K h1)) : GO Y X nL a h cells slots pc ls (.ref x :: .ref b :: st) ((pF h ci b k (.ref x)).bind K) := go_bind fun h1 hx hr => aw_put C F hd (hn _) (hf _) hx (kk h1 hr)
theorem go_pRF (C : CT Y X own cc nL) (hinit : X.2.2.2.2.2.2.2.2.1.name = "<init>") {index ci k : Nat} {b x : Nat} {ty : FieldType} {K : AH → Option α} (F : FP own index ci k ty true) (hd : decode cc pc = .ok (.putfield index, 3)) (hn : ∀ q, narrow ty (.ref q) = .ref q) (hf : ∀ q, fits ty (.ref q) = true) (kk : ∀ h1 : AH, GO Y X nL a h1 cells slots (pc + 3) ls st (K h1)) : GO Y X nL a h cells slots pc ls (.ref x :: .ref b :: st) ((pF h ci b k (.ref x)).bind K) := go_bind fun h1 hx hr => aw_putF C F hinit hd (hn _) (hf _) hx (kk h1 hr)

theorem go_iald (C : CT Y X own cc nL) {b : Nat} {i : Int32} {K : Int32 → Option α} (hd : decode cc pc = .ok (.iaload, 1)) (kk : ∀ x : Int32, GO Y X nL a h cells slots (pc + 1) ls (.int x :: st) (K x)) : GO Y X nL a h cells slots pc ls (.int i :: .ref b :: st) ((aI h 0 b i).bind K) := by
  refine go_bind fun x hx hr H locs la hH hS hl => ?_
  obtain ⟨n, f, hb, hi, hf⟩ := aI_spec hx
  have e := kk x hr H locs la hH hS hl
  rw [← hf] at e
  exact va_iald C.1 C.2.1 C.2.2.2.2.2.1 (hH.one hb) 0 0 rfl rfl hi hd e
theorem go_cald (C : CT Y X own cc nL) {b : Nat} {i : Int32} {K : Int32 → Option α} (hd : decode cc pc = .ok (.caload, 1)) (kk : ∀ x : Int32, GO Y X nL a h cells slots (pc + 1) ls (.int x :: st) (K x)) : GO Y X nL a h cells slots pc ls (.int i :: .ref b :: st) ((aI h 2 b i).bind K) := by
  refine go_bind fun x hx hr H locs la hH hS hl => ?_
  obtain ⟨n, f, hb, hi, hf⟩ := aI_spec hx
  have e := kk x hr H locs la hH hS hl
  rw [← hf] at e
  exact va_cald C.1 C.2.1 C.2.2.2.2.2.1 (hH.one hb) 0 2 rfl rfl hi hd e
theorem go_bald (C : CT Y X own cc nL) {b : Nat} {i : Int32} {K : Int32 → Option α} (hd : decode cc pc = .ok (.baload, 1)) (kk : ∀ x : Int32, GO Y X nL a h cells slots (pc + 1) ls (.int x :: st) (K x)) : GO Y X nL a h cells slots pc ls (.int i :: .ref b :: st) ((aI h 3 b i).bind K) := by
  refine go_bind fun x hx hr H locs la hH hS hl => ?_
  obtain ⟨n, f, hb, hi, hf⟩ := aI_spec hx
  have e := kk x hr H locs la hH hS hl
  rw [← hf] at e
  exact va_bald C.1 C.2.1 C.2.2.2.2.2.1 (hH.one hb) 0 3 rfl rfl hi hd e
theorem go_zald (C : CT Y X own cc nL) {b : Nat} {i : Int32} {K : Bool → Option α} (hd : decode cc pc = .ok (.baload, 1)) (kk : ∀ x : Bool, GO Y X nL a h cells slots (pc + 1) ls (.int (b2i x) :: st) (K x)) : GO Y X nL a h cells slots pc ls (.int i :: .ref b :: st) ((aZ h b i).bind K) := by
  refine go_bind fun x hx hr H locs la hH hS hl => ?_
  unfold aZ at hx
  obtain ⟨y, hy, hxy⟩ := Option.bind_eq_some_iff.mp hx
  obtain ⟨n, f, hb, hi, hf⟩ := aI_spec hy
  have e := kk x hr H locs la hH hS hl
  rw [← i2z_b hxy, ← hf] at e
  exact va_zald C.1 C.2.1 C.2.2.2.2.2.1 (hH.one hb) 0 4 rfl rfl hi hd e
theorem go_lald (C : CT Y X own cc nL) {b : Nat} {i : Int32} {K : Int64 → Option α} (hd : decode cc pc = .ok (.laload, 1)) (kk : ∀ x : Int64, GO Y X nL a h cells slots (pc + 1) ls (.long x :: st) (K x)) : GO Y X nL a h cells slots pc ls (.int i :: .ref b :: st) ((aJ h b i).bind K) := by
  refine go_bind fun x hx hr H locs la hH hS hl => ?_
  obtain ⟨n, f, hb, hi, hf⟩ := aJ_spec hx
  have e := kk x hr H locs la hH hS hl
  rw [← hf] at e
  exact va_lald C.1 C.2.1 C.2.2.2.2.2.1 (hH.one hb) 0 1 rfl rfl hi hd e
theorem go_aald (C : CT Y X own cc nL) {b : Nat} {i : Int32} {K : Nat → Option α} (hd : decode cc pc = .ok (.aaload, 1)) (kk : ∀ x : Nat, GO Y X nL a h cells slots (pc + 1) ls (.ref x :: st) (K x)) : GO Y X nL a h cells slots pc ls (.int i :: .ref b :: st) ((aR h b i).bind K) := by
  refine go_bind fun x hx hr H locs la hH hS hl => ?_
  obtain ⟨n, f, hb, hi, hf⟩ := aR_spec hx
  have e := kk x hr H locs la hH hS hl
  refine va_aldq C.1 C.2.1 C.2.2.2.2.2.1 (hH.one hb) 0 5 rfl rfl hi hd ?_
  rw [hf]
  exact e
theorem go_alen (C : CT Y X own cc nL) (t : Nat) {b : Nat} {K : Int32 → Option α} (ht : t < 6) (hd : decode cc pc = .ok (.arraylength, 1)) (kk : ∀ x : Int32, GO Y X nL a h cells slots (pc + 1) ls (.int x :: st) (K x)) : GO Y X nL a h cells slots pc ls (.ref b :: st) ((aL h t b).bind K) := by
  refine go_bind fun x hx hr H locs la hH hS hl => ?_
  obtain ⟨n, d, hb, hf⟩ := aL_spec hx
  have e := kk x hr H locs la hH hS hl
  have hone := hH.one hb
  have hfst : (cD Y (n, d)).1 = n := by
    unfold cD
    split
    · rename_i h9; cases h9; rfl
    · rfl
  have ht' : ∃ ty, (tysA Y)[t]? = some (Y.2.2.2.2 t, ty) := by
    rcases (show t = 0 ∨ t = 1 ∨ t = 2 ∨ t = 3 ∨ t = 4 ∨ t = 5 by omega) with rfl | rfl | rfl | rfl | rfl | rfl <;> exact ⟨_, rfl⟩
  obtain ⟨ty, ht'⟩ := ht'
  exact va_alen C.1 C.2.1 C.2.2.2.2.2.1 hone 0 t rfl ht' (by rw [hfst]; exact hf) hd e
theorem go_iast (C : CT Y X own cc nL) {b : Nat} {i x : Int32} {K : AH → Option α} (hd : decode cc pc = .ok (.iastore, 1)) (kk : ∀ h1 : AH, GO Y X nL a h1 cells slots (pc + 1) ls st (K h1)) : GO Y X nL a h cells slots pc ls (.int x :: .int i :: .ref b :: st) ((sI h 0 b i x).bind K) := by
  refine go_bind fun h1 hx hr H locs la hH hS hl => ?_
  obtain ⟨n, f, hb, hi, rfl⟩ := sI_spec hx
  refine W.iast C.1 C.2.1 (hH.2 b _ hb) ((C.2.2.2.2.2.1.2 0 _ rfl).1 n (fun j => .int (f j))) (fun q => by cases q) (by show ¬ (i < 0 ∨ (arrV _ _ _).slots.size ≤ _); rw [arrV_size]; exact hi) rfl rfl hd fun H1 e z oq => ?_
  refine kk _ hr H1 _ la (hH.set hb ?_ z oq) (hS.put z oq (Nat.le_add_right _ _)) hl
  show H1[Y.1 + b]? = some (vp_cell _ _)
  rw [e]
  show some ((vp_cell _ (n, .inl f)).setSlot _ _) = some (vp_cell _ (n, .inl _))
  rw [vp_cell_i, vp_cell_i, arrV_store]
  congr 2
  funext q
  by_cases hq : q = i.toNatClampNeg
  · subst hq
    simp [updV, upd, vp_nar, tyA]
    try rfl
  · simp [updV, upd, hq]
theorem go_cast (C : CT Y X own cc nL) {b : Nat} {i x : Int32} {K : AH → Option α} (hd : decode cc pc = .ok (.castore, 1)) (kk : ∀ h1 : AH, GO Y X nL a h1 cells slots (pc + 1) ls st (K h1)) : GO Y X nL a h cells slots pc ls (.int x :: .int i :: .ref b :: st) ((sI h 2 b i x).bind K) := by
  refine go_bind fun h1 hx hr H locs la hH hS hl => ?_
  obtain ⟨n, f, hb, hi, rfl⟩ := sI_spec hx
  refine W.cast C.1 C.2.1 (hH.2 b _ hb) ((C.2.2.2.2.2.1.2 2 _ rfl).1 n (fun j => .int (f j))) (fun q => by cases q) (by show ¬ (i < 0 ∨ (arrV _ _ _).slots.size ≤ _); rw [arrV_size]; exact hi) rfl rfl hd fun H1 e z oq => ?_
  refine kk _ hr H1 _ la (hH.set hb ?_ z oq) (hS.put z oq (Nat.le_add_right _ _)) hl
  show H1[Y.1 + b]? = some (vp_cell _ _)
  rw [e]
  show some ((vp_cell _ (n, .inl f)).setSlot _ _) = some (vp_cell _ (n, .inl _))
  rw [vp_cell_i, vp_cell_i, arrV_store]
  congr 2
  funext q
  by_cases hq : q = i.toNatClampNeg
  · subst hq
    simp [updV, upd, vp_nar, tyA]
    try rfl
  · simp [updV, upd, hq]
theorem go_bast (C : CT Y X own cc nL) {b : Nat} {i x : Int32} {K : AH → Option α} (hd : decode cc pc = .ok (.bastore, 1)) (kk : ∀ h1 : AH, GO Y X nL a h1 cells slots (pc + 1) ls st (K h1)) : GO Y X nL a h cells slots pc ls (.int x :: .int i :: .ref b :: st) ((sI h 3 b i x).bind K) := by
  refine go_bind fun h1 hx hr H locs la hH hS hl => ?_
  obtain ⟨n, f, hb, hi, rfl⟩ := sI_spec hx
  refine W.bast C.1 C.2.1 (hH.2 b _ hb) ((C.2.2.2.2.2.1.2 3 _ rfl).1 n (fun j => .int (f j))) (fun q => by cases q) (by show ¬ (i < 0 ∨ (arrV _ _ _).slots.size ≤ _); rw [arrV_size]; exact hi) rfl rfl hd fun H1 e z oq => ?_
  refine kk _ hr H1 _ la (hH.set hb ?_ z oq) (hS.put z oq (Nat.le_add_right _ _)) hl
  show H1[Y.1 + b]? = some (vp_cell _ _)
  rw [e]
  show some ((vp_cell _ (n, .inl f)).setSlot _ _) = some (vp_cell _ (n, .inl _))
  rw [vp_cell_i, vp_cell_i, arrV_store]
  congr 2
  funext q
  by_cases hq : q = i.toNatClampNeg
  · subst hq
    simp [updV, upd, vp_nar, tyA]
    try rfl
  · simp [updV, upd, hq]
theorem go_zast (C : CT Y X own cc nL) {b : Nat} {i x : Int32} {K : AH → Option α} (hd : decode cc pc = .ok (.bastore, 1)) (kk : ∀ h1 : AH, GO Y X nL a h1 cells slots (pc + 1) ls st (K h1)) : GO Y X nL a h cells slots pc ls (.int x :: .int i :: .ref b :: st) ((sI h 4 b i x).bind K) := by
  refine go_bind fun h1 hx hr H locs la hH hS hl => ?_
  obtain ⟨n, f, hb, hi, rfl⟩ := sI_spec hx
  refine W.zast C.1 C.2.1 (hH.2 b _ hb) ((C.2.2.2.2.2.1.2 4 _ rfl).1 n (fun j => .int (f j))) (fun q => by cases q) (by show ¬ (i < 0 ∨ (arrV _ _ _).slots.size ≤ _); rw [arrV_size]; exact hi) rfl rfl hd fun H1 e z oq => ?_
  refine kk _ hr H1 _ la (hH.set hb ?_ z oq) (hS.put z oq (Nat.le_add_right _ _)) hl
  show H1[Y.1 + b]? = some (vp_cell _ _)
  rw [e]
  show some ((vp_cell _ (n, .inl f)).setSlot _ _) = some (vp_cell _ (n, .inl _))
  rw [vp_cell_i, vp_cell_i, arrV_store]
  congr 2
  funext q
  by_cases hq : q = i.toNatClampNeg
  · subst hq
    simp [updV, upd, vp_nar, tyA]
    try rfl
  · simp [updV, upd, hq]
theorem go_last (C : CT Y X own cc nL) {b : Nat} {i : Int32} {x : Int64} {K : AH → Option α} (hd : decode cc pc = .ok (.lastore, 1)) (kk : ∀ h1 : AH, GO Y X nL a h1 cells slots (pc + 1) ls st (K h1)) : GO Y X nL a h cells slots pc ls (.long x :: .int i :: .ref b :: st) ((sJ h b i x).bind K) := by
  refine go_bind fun h1 hx hr H locs la hH hS hl => ?_
  obtain ⟨n, f, hb, hi, rfl⟩ := sJ_spec hx
  refine W.last C.1 C.2.1 (hH.2 b _ hb) ((C.2.2.2.2.2.1.2 1 _ rfl).1 n (fun j => .long (f j))) (fun q => by cases q) (by show ¬ (i < 0 ∨ (arrV _ _ _).slots.size ≤ _); rw [arrV_size]; exact hi) rfl rfl hd fun H1 e z oq => ?_
  refine kk _ hr H1 _ la (hH.set hb ?_ z oq) (hS.put z oq (Nat.le_add_right _ _)) hl
  show H1[Y.1 + b]? = some (vp_cell _ _)
  rw [e]
  show some ((vp_cell _ (n, .inr (.inl f))).setSlot _ _) = some (vp_cell _ (n, .inr (.inl _)))
  rw [vp_cell_l, vp_cell_l, arrV_store]
  congr 2
  funext q
  by_cases hq : q = i.toNatClampNeg
  · subst hq
    simp [updV, vp_updL]
  · simp [updV, vp_updL, hq]
theorem go_aast (C : CT Y X own cc nL) {b x : Nat} {i : Int32} {K : AH → Option α} (hd : decode cc pc = .ok (.aastore, 1)) (kk : ∀ h1 : AH, GO Y X nL a h1 cells slots (pc + 1) ls st (K h1)) : GO Y X nL a h cells slots pc ls (.ref x :: .int i :: .ref b :: st) ((sR h b i x).bind K) := by
  refine go_bind fun h1 hx hr H locs la hH hS hl => ?_
  obtain ⟨n, f, fs, hb, hv, hi, rfl⟩ := sR_spec hx
  have hlt : i.toNatClampNeg < n := Nat.not_le.mp fun q => hi (Or.inr q)
  have h0 : ¬ i < 0 := fun q => hi (Or.inl q)
  have hK := C.2.2.2.2.2.1
  obtain ⟨r', hr', cellV, g1, g2, g3, -⟩ := hH.2 x _ hv
  have hcls := (hK.1 9 _ rfl).2
  obtain ⟨kA, comp, k1, k2, k3, -⟩ := (hK.2 5 _ rfl).2
  have hcomp : comp = Y.2.2.2.1.1 9 := Option.some.inj (k3.symm.trans hcls.1)
  subst hcomp
  obtain ⟨kC, hkC, -⟩ := hcls.2
  refine W.aast C.1 C.2.1 (hH.2 b _ hb) (fun q h => by cases h) (fun h => by cases h) k1 k2 rfl hkC ⟨h0, by show _ < (arrV _ _ _).slots.size; rw [arrV_size]; exact hlt⟩ g1 (fun q h => by rw [g3] at h; cases h) (by rw [g2]; exact hkC) (by rw [g2]; exact va_assign hcls) rfl rfl hd fun H1 e z oq => ?_
  refine kk _ hr H1 _ la (hH.set hb ?_ z oq) (hS.put z oq (Nat.le_add_right _ _)) hl
  show H1[Y.1 + b]? = some (vp_cell _ _)
  rw [e]
  show some ((vp_cell _ (n, .inr (.inr (.inr (.inr _))))).setSlot _ _) = some (vp_cell _ (n, .inr (.inr (.inr (.inr _)))))
  rw [vp_cell_q, vp_cell_q, arrV_store]
  congr 2
  funext q
  by_cases hq : q = i.toNatClampNeg
  · subst hq
    simp [updV, va_up, va_rf]
  · simp [updV, va_up, hq]
theorem go_ldcw (C : CT Y X own cc nL) {index : Nat} {v : Int32} (hc : Cond.constant own index v ∈ TBL) (hd : decode cc pc = .ok (.ldc_w index, 3)) (k : GO Y X nL a h cells slots (pc + 3) ls (.int v :: st) res) : GO Y X nL a h cells slots pc ls st res := fun hr H locs la hH hS hl => lv_ldcw C.1 C.2.1 C.2.2.2.1 (C.2.2.2.2.1 _ hc) hd (k hr H locs la hH hS hl)
/-! ends -/
theorem go_zret {w : α → Option Value × AH} {ty : FieldType} (C : CT Y X own cc nL) (E : RX Y X (some ty) (w a).1 (w a).2 cells slots) (r : α) (x : Int32) (hd : decode cc pc = .ok (.ireturn, 1)) (hw : w r = (some (.int x), h)) (hn : narrow ty (.int x) = .int x) : GO Y X nL a h cells slots pc ls [.int x] (some r) := by
  intro hr H locs la hH hS hl
  cases hr
  rw [hw] at E
  rw [E.1]
  exact W.zret C.1 C.2.1 E.2 hn (fun t ht hW => ⟨rfl, by rw [ht]; exact hH, hS.F ht⟩) hS.2.2 hd C.2.2.2.2.2.2.1
theorem go_iret {w : α → Option Value × AH} (C : CT Y X own cc nL) (E : RX Y X (some .int) (w a).1 (w a).2 cells slots) (r : α) (x : Int32) (hd : decode cc pc = .ok (.ireturn, 1)) (hw : w r = (some (.int x), h)) : GO Y X nL a h cells slots pc ls [.int x] (some r) := go_zret C E r x hd hw rfl
theorem go_bret {w : α → Option Value × AH} (C : CT Y X own cc nL) (E : RX Y X (some .boolean) (w a).1 (w a).2 cells slots) (r : α) (x : Int32) (z : Bool) (hz : x = b2i z) (hd : decode cc pc = .ok (.ireturn, 1)) (hw : w r = (some (.int (b2i z)), h)) : GO Y X nL a h cells slots pc ls [.int x] (some r) := by
  subst hz
  exact go_zret C E r _ hd hw (b2i_nar z)
theorem go_bretI {w : α → Option Value × AH} (C : CT Y X own cc nL) (E : RX Y X (some .boolean) (w a).1 (w a).2 cells slots) (x : Int32) (g : Bool → α) (hd : decode cc pc = .ok (.ireturn, 1)) (hw : ∀ z, w (g z) = (some (.int (b2i z)), h)) : GO Y X nL a h cells slots pc ls [.int x] ((i2z x).bind fun z => some (g z)) := go_bind fun z hz => go_bret C E (g z) x z (i2z_b hz) hd (hw z)
def i2ch (x : Int32) : Option Int32 := if (narrow .char (.int x)) = .int x then some x else none
theorem go_cret {w : α → Option Value × AH} (C : CT Y X own cc nL) (E : RX Y X (some .char) (w a).1 (w a).2 cells slots) (x : Int32) (g : Int32 → α) (hd : decode cc pc = .ok (.ireturn, 1)) (hw : ∀ z, w (g z) = (some (.int z), h)) : GO Y X nL a h cells slots pc ls [.int x] ((i2ch x).bind fun z => some (g z)) := by
  refine go_bind fun z hz => ?_
  unfold i2ch at hz
  split at hz
  · rename_i hn
    cases hz
    exact go_zret C E (g x) x hd (hw x) hn
  · cases hz
theorem go_lret {w : α → Option Value × AH} (C : CT Y X own cc nL) (E : RX Y X (some .long) (w a).1 (w a).2 cells slots) (r : α) (x : Int64) (hd : decode cc pc = .ok (.lreturn, 1)) (hw : w r = (some (.long x), h)) : GO Y X nL a h cells slots pc ls [.long x] (some r) := by
  intro hr H locs la hH hS hl
  cases hr
  rw [hw] at E
  rw [E.1]
  exact W.lret C.1 C.2.1 E.2 (fun t ht hW => ⟨rfl, by rw [ht]; exact hH, hS.F ht⟩) hS.2.2 hd C.2.2.2.2.2.2.1
theorem go_vret {w : α → Option Value × AH} (C : CT Y X own cc nL) (E : RX Y X none (w a).1 (w a).2 cells slots) (r : α) (hd : decode cc pc = .ok (.return_, 1)) (hw : w r = (none, h)) : GO Y X nL a h cells slots pc ls [] (some r) := by
  intro hr H locs la hH hS hl
  cases hr
  rw [hw] at E
  rw [E.1]
  exact W.vret C.1 C.2.1 E.2 (fun t ht hW => ⟨rfl, by rw [ht]; exact hH, hS.F ht⟩) hS.2.2 hd C.2.2.2.2.2.2.1
theorem go_aret {w : α → Option Value × AH} {rt : FieldType} (C : CT Y X own cc nL) (E : RX Y X (some rt) (w a).1 (w a).2 cells slots) (r : α) (x : Nat) (hrt : (∃ n, rt = .object n) ∨ ∃ t, rt = .array t) (hd : decode cc pc = .ok (.areturn, 1)) (hw : w r = (some (.ref x), h)) : GO Y X nL a h cells slots pc ls [.ref x] (some r) := by
  intro hr H locs la hH hS hl
  cases hr
  rw [hw] at E
  rw [E.1]
  exact W.aret C.1 C.2.1 E.2 hrt (Or.inr ⟨_, rfl⟩) (fun t ht hW => ⟨rfl, by rw [ht]; exact hH, hS.F ht⟩) hS.2.2 hd C.2.2.2.2.2.2.1
theorem go_sret {w : α → Option Value × AH} {rt : FieldType} (C : CT Y X own cc nL) (E : RX Y X (some rt) (w a).1 (w a).2 cells slots) (r : α) (x : Nat) (hrt : (∃ n, rt = .object n) ∨ ∃ t, rt = .array t) (hd : decode cc pc = .ok (.areturn, 1)) (hw : w r = (some (.retAddr x), h)) : GO Y X nL a h cells slots pc ls [.retAddr x] (some r) := by
  intro hr H locs la hH hS hl
  cases hr
  rw [hw] at E
  rw [E.1]
  exact W.aret C.1 C.2.1 E.2 hrt (Or.inr ⟨_, rfl⟩) (fun t ht hW => ⟨rfl, by rw [ht]; exact hH, hS.F ht⟩) hS.2.2 hd C.2.2.2.2.2.2.1
theorem go_widen {c2 s2 : Nat} (h1 : cells ≤ c2) (h2 : slots ≤ s2) (k : GO Y X nL a h c2 s2 pc ls st res) : GO Y X nL a h cells slots pc ls st res := fun hr H locs la hH hS hl => W.widen h1 h2 (k hr H locs la hH hS hl)
/-- literals -/
theorem go_ldcS (C : CT Y X "ShadowSpaces" cc nL) (i : Nat) (hi : i < 5) (hd : decode cc pc = .ok (.ldc (stI i), 2)) (k : GO Y X nL a h cells slots (pc + 2) ls (.retAddr i :: st) res) : GO Y X nL a h cells slots pc ls st res := fun hr H locs la hH hS hl => va_ldcS C.1 C.2.1 C.2.2.2.1 (C.2.2.2.2.2.2.2.2.1.2.2.1 i hi) hd (k hr H locs la hH hS hl)

end GOH
