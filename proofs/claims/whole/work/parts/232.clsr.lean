/-! rules kept by the class; its reader -/
theorem J_u32 (g : Nat) : (J g).toUInt32.toBitVec = BitVec.ofNat 32 g := rfl
theorem nar_char {g : Nat} (h : g < 65536) : vp_nar .char (J g) = J g := by
  rw [vp_nar_char]
  apply J_eqbv
  rw [UInt32.toBitVec_toInt32, UInt16.toBitVec_toUInt32, UInt32.toBitVec_toUInt16, J_u32]
  apply BitVec.eq_of_toNat_eq
  simp only [BitVec.toNat_setWidth, BitVec.toNat_ofNat]
  omega
theorem u16_J {g : Nat} (h : g < 65536) : UInt32.toInt32 (Int32.toUInt32 (J g) % 65536) = J g := by
  apply J_eqbv
  rw [UInt32.toBitVec_toInt32, UInt32.toBitVec_mod, J_u32]
  apply BitVec.eq_of_toNat_eq
  rw [BitVec.toNat_umod, BitVec.toNat_ofNat]
  show (g % 4294967296) % 65536 = g % 4294967296
  omega
theorem ch_J {g : Nat} (h : g < 65536) : i2ch (J g) = some (J g) := by
  unfold i2ch
  have e : narrow .char (.int (J g)) = .int (vp_nar .char (J g)) := rfl
  rw [e, nar_char h, if_pos rfl]
theorem nar_b2i (b : Bool) : vp_nar .boolean (b2i b) = b2i b := by
  unfold vp_nar
  rw [b2i_nar b]
theorem wa_t {h : AH} {t A n i : Nat} {a : Nat → Int32} (C : h.1 A = some (.inl (t, n, .inl a))) (hi : i < n) (hn : n ≤ 2147483648) {x : Int32} (hx : vp_nar (tyA t) x = x) : ∃ h', sI h t A (J i) x = some h' ∧ h'.1 A = some (.inl (t, n, .inl (fun j => if j = i then x else a j))) ∧ Ot A (A + 1) h h' := by
  refine ⟨_, sI_at C hi hn, ?_, Ot_hset ⟨Nat.le_refl _, by omega⟩⟩
  rw [hset_eq, hx]
  congr 5
def RU (h : AH) (r : Nat) (C : List Nat) : Prop := ∃ F fc fs, OBJ 6 3 h r F ∧ F 0 = .ref (r + 1) ∧ F 1 = .ref (r + 2) ∧ F 2 = .int (J C.length) ∧ h.1 (r + 1) = some (.inl (0, 40, .inl fc)) ∧ h.1 (r + 2) = some (.inl (0, 40, .inl fs)) ∧ C.length ≤ 40 ∧ ∀ j k, C[j]? = some k → fc j = J k
def RUw (h : AH) (r : Nat) : Prop := ∃ F fc fs x, OBJ 6 3 h r F ∧ F 0 = .ref (r + 1) ∧ F 1 = .ref (r + 2) ∧ F 2 = .int x ∧ h.1 (r + 1) = some (.inl (0, 40, .inl fc)) ∧ h.1 (r + 2) = some (.inl (0, 40, .inl fs))
theorem RU.w {h : AH} {r : Nat} {C : List Nat} (W : RU h r C) : RUw h r := by
  obtain ⟨F, fc, fs, w1, w2, w3, w4, w5, w6, w7⟩ := W
  exact ⟨F, fc, fs, _, w1, w2, w3, w4, w5, w6⟩
theorem RU.on {h h' : AH} {r : Nat} {C : List Nat} {P : Nat → Prop} (W : RU h r C) (O : On P h h') (h0 : ¬ P r) (h1 : ¬ P (r + 1)) (h2 : ¬ P (r + 2)) : RU h' r C := by
  obtain ⟨F, fc, fs, w1, w2, w3, w4, w5, w6, w7⟩ := W
  exact ⟨F, fc, fs, w1.on O h0, w2, w3, w4, (O.2 _ h1).trans w5, (O.2 _ h2).trans w6, w7⟩
theorem RUw.on {h h' : AH} {r : Nat} {P : Nat → Prop} (W : RUw h r) (O : On P h h') (h0 : ¬ P r) (h1 : ¬ P (r + 1)) (h2 : ¬ P (r + 2)) : RUw h' r := by
  obtain ⟨F, fc, fs, x, w1, w2, w3, w4, w5, w6⟩ := W
  exact ⟨F, fc, fs, x, w1.on O h0, w2, w3, w4, (O.2 _ h1).trans w5, (O.2 _ h2).trans w6⟩
section CR
variable {h : AH} {r : Nat} {C : List Nat}
theorem ru_h (W : RUw h r) : hasC h 6 r = true := by
  obtain ⟨F, fc, fs, x, w1, w2⟩ := W
  exact ob_h w1
theorem c_rclear (W : RUw h r) : ∃ h', fX6_clear h r = some h' ∧ RU h' r [] ∧ Ot r (r + 3) h h' := by
  obtain ⟨F, fc, fs, x, w1, w2, w3, w4, w5, w6⟩ := W
  obtain ⟨g1, e1, M1, O1⟩ := ob_p w1 (k := 2) (by decide) (.int (J 0))
  refine ⟨g1, ?_, ⟨_, fc, fs, M1, by rw [fput_ne (by decide)]; exact w2, by rw [fput_ne (by decide)]; exact w3, fput_eq, (O1.2 _ (by omega)).trans w5, (O1.2 _ (by omega)).trans w6, Nat.zero_le _, fun j k hj => (by simp at hj)⟩, O1.mono (Nat.le_refl _) (by omega)⟩
  unfold fX6_clear
  simp only [ob_h w1, if_true, l_0, e1, Option.bind_some]
theorem c_addN (W : RU h r C) (hC : C.length < 40) (k : Nat) : ∃ h', fX6_addNumber h r (J k) = some h' ∧ RU h' r (C ++ [k]) ∧ Ot r (r + 3) h h' := by
  obtain ⟨F, fc, fs, w1, w2, w3, w4, w5, w6, w7, w8⟩ := W
  obtain ⟨g1, e1, C1, O1⟩ := wa_s w5 hC (by decide) (J k)
  have M1 := w1.ot O1 (by omega)
  obtain ⟨g2, e2, M2, O2⟩ := ob_p M1 (k := 2) (by decide) (.int (J (C.length + 1)))
  refine ⟨g2, ?_, ⟨_, _, fs, M2, by rw [fput_ne (by decide)]; exact w2, by rw [fput_ne (by decide)]; exact w3, by rw [fput_eq, List.length_append]; rfl, (O2.2 _ (by omega)).trans C1, (O2.2 _ (by omega)).trans ((O1.2 _ (by omega)).trans w6), by rw [List.length_append]; exact hC, fun j x hj => ?_⟩, (O1.mono (by omega) (by omega)).trans (O2.mono (Nat.le_refl _) (by omega))⟩
  · unfold fX6_addNumber
    simp (disch := omega) only [ob_h w1, if_true, ob_i w1 (k := 2) (by decide) w4, Option.bind_some, l_0, J_lt, ob_r w1 (k := 0) (by decide) w2, aL_at w5, J_le]
    rw [if_neg (by omega), if_neg (by omega)]
    simp only [e1, Option.bind_some, ob_i M1 (k := 2) (by decide) w4, l_1, J_add, e2]
  · rw [List.getElem?_append] at hj
    by_cases e : j < C.length
    · rw [if_pos e] at hj
      rw [if_neg (by omega)]
      exact w8 j x hj
    · rw [if_neg e] at hj
      have h1 : j - C.length = 0 := by
        by_cases z : j - C.length = 0
        · exact z
        · rw [List.getElem?_eq_none (by simp; omega)] at hj; cases hj
      rw [h1] at hj
      simp at hj
      rw [if_pos (by omega), hj]
theorem c_addS (W : RU h r C) (hC : C.length < 40) (g : Nat) : ∃ h', fX6_addSign h r (J g) = some h' ∧ RU h' r (C ++ [1000 + g]) ∧ Ot r (r + 3) h h' := by
  obtain ⟨g1, e1, W1, O1⟩ := c_addN W hC (1000 + g)
  refine ⟨g1, ?_, W1, O1⟩
  unfold fX6_addSign
  simp only [ru_h W.w, if_true, l_1000, J_add, e1, Option.bind_some]
theorem c_app {v : Nat} (W : RU h r (C ++ [v])) (d : Nat) : ∃ h', fX6_appendDigit h r (J d) = some h' ∧ RU h' r (C ++ [10 * v + d]) ∧ Ot r (r + 3) h h' := by
  obtain ⟨F, fc, fs, w1, w2, w3, w4, w5, w6, w7, w8⟩ := W
  have hl : (C ++ [v]).length = C.length + 1 := by rw [List.length_append]; rfl
  have hl2 : (C ++ [10 * v + d]).length = C.length + 1 := by rw [List.length_append]; rfl
  rw [hl] at w4 w7
  have hv : fc C.length = J v := w8 C.length v (by simp)
  obtain ⟨g1, e1, C1, O1⟩ := wa_s w5 (show C.length < 40 by omega) (by decide) (J (10 * v + d))
  refine ⟨g1, ?_, ⟨F, _, fs, w1.ot O1 (by omega), w2, w3, by rw [hl2]; exact w4, C1, (O1.2 _ (by omega)).trans w6, by rw [hl2]; exact w7, fun j x hj => ?_⟩, O1.mono (by omega) (by omega)⟩
  · unfold fX6_appendDigit
    simp (disch := omega) only [ob_h w1, if_true, ob_i w1 (k := 2) (by decide) w4, Option.bind_some, l_0, J_le, ob_r w1 (k := 0) (by decide) w2, aL_at w5, J_lt, l_1, J_sub, Nat.add_sub_cancel]
    rw [if_neg (by omega), if_neg (by omega)]
    simp (disch := omega) only [aI_at w5, hv, Option.bind_some, l_10, J_mul, J_add, e1]
  · rw [List.getElem?_append] at hj
    by_cases e : j < C.length
    · rw [if_pos e] at hj
      rw [if_neg (by omega)]
      refine w8 j x ?_
      rw [List.getElem?_append, if_pos e]
      exact hj
    · rw [if_neg e] at hj
      have h1 : j - C.length = 0 := by
        by_cases z : j - C.length = 0
        · exact z
        · rw [List.getElem?_eq_none (by simp; omega)] at hj; cases hj
      rw [h1] at hj
      simp at hj
      rw [if_pos (by omega), hj]
theorem c_becomeNone (W : RUw h r) : ∃ h', fX6_becomeNone h r = some h' ∧ RU h' r [1110, 3, 1062] ∧ Ot r (r + 3) h h' := by
  obtain ⟨g1, e1, W1, O1⟩ := c_rclear W
  obtain ⟨g2, e2, W2, O2⟩ := c_addS W1 (by decide) 110
  obtain ⟨g3, e3, W3, O3⟩ := c_addN W2 (by decide) 3
  obtain ⟨g4, e4, W4, O4⟩ := c_addS W3 (by decide) 62
  refine ⟨g4, ?_, W4, ((O1.trans O2).trans O3).trans O4⟩
  have l110 : (110 : Int32) = J 110 := rfl
  have l62 : (62 : Int32) = J 62 := rfl
  unfold fX6_becomeNone
  simp only [ru_h W, if_true, e1, Option.bind_some, l110, l_3, l62, e2, e3, e4]
end CR
/-! the reader -/
def WA (f : Nat → Int32) : List Nat → Prop
  | [] => True
  | g :: W => f W.length = J g ∧ g < 256 ∧ WA f W
theorem WA.cg {f f' : Nat → Int32} : ∀ {W : List Nat}, WA f W → (∀ j, j < W.length → f' j = f j) → WA f' W
  | [], _, _ => trivial
  | g :: W, h, e => ⟨(e W.length (by simp)).trans h.1, h.2.1, WA.cg h.2.2 (fun j hj => e j (by simp; omega))⟩
def RD7 (h : AH) (q : Nat) (W : List Nat) (dp dg : Nat) (wt : Bool) (cp : Nat → Bool) : Prop := ∃ F fw fb, OBJ 7 6 h q F ∧ F 0 = .ref (q + 1) ∧ F 1 = .ref (q + 2) ∧ F 2 = .int (J W.length) ∧ F 3 = .int (J dp) ∧ F 4 = .int (J dg) ∧ F 5 = .int (b2i wt) ∧ h.1 (q + 1) = some (.inl (2, 40, .inl fw)) ∧ h.1 (q + 2) = some (.inl (4, 5, .inl fb)) ∧ W.length ≤ 40 ∧ dp ≤ 4 ∧ dg ≤ 3 ∧ WA fw W ∧ ∀ j, j ≤ dp → fb j = b2i (cp j)
def RD7w (h : AH) (q : Nat) : Prop := ∃ F fw fb x2 x3 x4 x5, OBJ 7 6 h q F ∧ F 0 = .ref (q + 1) ∧ F 1 = .ref (q + 2) ∧ F 2 = .int x2 ∧ F 3 = .int x3 ∧ F 4 = .int x4 ∧ F 5 = .int x5 ∧ h.1 (q + 1) = some (.inl (2, 40, .inl fw)) ∧ h.1 (q + 2) = some (.inl (4, 5, .inl fb))
section RD
variable {h : AH} {q r : Nat} {W : List Nat} {dp dg : Nat} {wt : Bool} {cp : Nat → Bool} {C : List Nat}
theorem RD7.w (R : RD7 h q W dp dg wt cp) : RD7w h q := by
  obtain ⟨F, fw, fb, r1, r2, r3, r4, r5, r6, r7, r8, r9, -⟩ := R
  exact ⟨F, fw, fb, _, _, _, _, r1, r2, r3, r4, r5, r6, r7, r8, r9⟩
theorem RD7w.on {h' : AH} {P : Nat → Prop} (R : RD7w h q) (O : On P h h') (h0 : ¬ P q) (h1 : ¬ P (q + 1)) (h2 : ¬ P (q + 2)) : RD7w h' q := by
  obtain ⟨F, fw, fb, x2, x3, x4, x5, r1, r2, r3, r4, r5, r6, r7, r8, r9⟩ := R
  exact ⟨F, fw, fb, x2, x3, x4, x5, r1.on O h0, r2, r3, r4, r5, r6, r7, (O.2 _ h1).trans r8, (O.2 _ h2).trans r9⟩
theorem RD7.on {h' : AH} {P : Nat → Prop} (R : RD7 h q W dp dg wt cp) (O : On P h h') (h0 : ¬ P q) (h1 : ¬ P (q + 1)) (h2 : ¬ P (q + 2)) : RD7 h' q W dp dg wt cp := by
  obtain ⟨F, fw, fb, r1, r2, r3, r4, r5, r6, r7, r8, r9, r10⟩ := R
  exact ⟨F, fw, fb, r1.on O h0, r2, r3, r4, r5, r6, r7, (O.2 _ h1).trans r8, (O.2 _ h2).trans r9, r10⟩
theorem RD7.ot {h' : AH} {lo hi : Nat} (R : RD7 h q W dp dg wt cp) (O : Ot lo hi h h') (hq : q + 3 ≤ lo ∨ hi ≤ q) : RD7 h' q W dp dg wt cp :=
  R.on (O.on (P := fun k => lo ≤ k ∧ k < hi) (fun k h1 h2 => ⟨h1, h2⟩)) (by omega) (by omega) (by omega)
theorem RU.ot {h' : AH} {lo hi : Nat} (R : RU h r C) (O : Ot lo hi h h') (hq : r + 3 ≤ lo ∨ hi ≤ r) : RU h' r C :=
  R.on (O.on (P := fun k => lo ≤ k ∧ k < hi) (fun k h1 h2 => ⟨h1, h2⟩)) (by omega) (by omega) (by omega)
theorem rd_h (R : RD7 h q W dp dg wt cp) : hasC h 7 q = true := by
  obtain ⟨F, fw, fb, r1, -⟩ := R
  exact ob_h r1
theorem rd_0 (R : RD7 h q W dp dg wt cp) : gR h 7 q 0 = some (q + 1) := by
  obtain ⟨F, fw, fb, r1, r2, -⟩ := R
  exact ob_r r1 (by decide) r2
theorem rd_1 (R : RD7 h q W dp dg wt cp) : gR h 7 q 1 = some (q + 2) := by
  obtain ⟨F, fw, fb, r1, r2, r3, -⟩ := R
  exact ob_r r1 (by decide) r3
theorem rd_2 (R : RD7 h q W dp dg wt cp) : gI h 7 q 2 = some (J W.length) := by
  obtain ⟨F, fw, fb, r1, r2, r3, r4, -⟩ := R
  exact ob_i r1 (by decide) r4
theorem rd_3 (R : RD7 h q W dp dg wt cp) : gI h 7 q 3 = some (J dp) := by
  obtain ⟨F, fw, fb, r1, r2, r3, r4, r5, -⟩ := R
  exact ob_i r1 (by decide) r5
theorem rd_4 (R : RD7 h q W dp dg wt cp) : gI h 7 q 4 = some (J dg) := by
  obtain ⟨F, fw, fb, r1, r2, r3, r4, r5, r6, -⟩ := R
  exact ob_i r1 (by decide) r6
theorem rd_5 (R : RD7 h q W dp dg wt cp) : gZ h 7 q 5 = some wt := by
  obtain ⟨F, fw, fb, r1, r2, r3, r4, r5, r6, r7, -⟩ := R
  exact ob_z r1 (by decide) r7
theorem rd_L0 (R : RD7 h q W dp dg wt cp) : aL h 2 (q + 1) = some (J 40) := by
  obtain ⟨F, fw, fb, r1, r2, r3, r4, r5, r6, r7, r8, -⟩ := R
  exact aL_at r8
theorem rd_L1 (R : RD7 h q W dp dg wt cp) : aL h 4 (q + 2) = some (J 5) := by
  obtain ⟨F, fw, fb, r1, r2, r3, r4, r5, r6, r7, r8, r9, -⟩ := R
  exact aL_at r9
theorem rd_top {g : Nat} (R : RD7 h q (g :: W) dp dg wt cp) : aI h 2 (q + 1) (J W.length) = some (J g) ∧ g < 256 ∧ W.length < 40 := by
  obtain ⟨F, fw, fb, r1, r2, r3, r4, r5, r6, r7, r8, r9, r10, r11, r12, r13, -⟩ := R
  have hW : W.length < 40 := r10
  rw [← r13.1]
  exact ⟨aI_at r8 hW (by decide), r13.2.1, hW⟩
theorem rd_cp (R : RD7 h q W dp dg wt cp) : aZ h (q + 2) (J dp) = some (cp dp) := by
  obtain ⟨F, fw, fb, r1, r2, r3, r4, r5, r6, r7, r8, r9, r10, r11, r12, r13, r14⟩ := R
  unfold aZ
  rw [aI_at r9 (show dp < 5 by omega) (by decide), r14 dp (Nat.le_refl _)]
  exact i2z_b2i _
theorem rd_bd (R : RD7 h q W dp dg wt cp) : W.length ≤ 40 ∧ dp ≤ 4 ∧ dg ≤ 3 := by
  obtain ⟨F, fw, fb, r1, r2, r3, r4, r5, r6, r7, r8, r9, r10, r11, r12, r13, r14⟩ := R
  exact ⟨r10, r11, r12⟩
theorem rd_pop {g : Nat} (R : RD7 h q (g :: W) dp dg wt cp) : ∃ h', pF h 7 q 2 (.int (J W.length)) = some h' ∧ RD7 h' q W dp dg wt cp ∧ aI h' 2 (q + 1) (J W.length) = some (J g) ∧ Ot q (q + 3) h h' := by
  have ht := rd_top R
  obtain ⟨F, fw, fb, r1, r2, r3, r4, r5, r6, r7, r8, r9, r10, r11, r12, r13, r14⟩ := R
  obtain ⟨g1, e1, M1, O1⟩ := ob_p r1 (k := 2) (by decide) (.int (J W.length))
  have r8' := (O1.2 (q + 1) (by omega)).trans r8
  refine ⟨g1, e1, ⟨_, fw, fb, M1, by rw [fput_ne (by decide)]; exact r2, by rw [fput_ne (by decide)]; exact r3, fput_eq, by rw [fput_ne (by decide)]; exact r5, by rw [fput_ne (by decide)]; exact r6, by rw [fput_ne (by decide)]; exact r7, r8', (O1.2 _ (by omega)).trans r9, Nat.le_of_lt ht.2.2, r11, r12, r13.2.2, r14⟩, ?_, O1.mono (Nat.le_refl _) (by omega)⟩
  rw [aI_at r8' ht.2.2 (by decide), r13.1]
theorem rd_p3 (R : RD7 h q W dp dg wt cp) {v : Nat} (hv : v ≤ 4) (cp' : Nat → Bool) (hc : ∀ j, j ≤ v → j ≤ dp ∧ cp' j = cp j) : ∃ h', pF h 7 q 3 (.int (J v)) = some h' ∧ RD7 h' q W v dg wt cp' ∧ Ot q (q + 3) h h' := by
  obtain ⟨F, fw, fb, r1, r2, r3, r4, r5, r6, r7, r8, r9, r10, r11, r12, r13, r14⟩ := R
  obtain ⟨g1, e1, M1, O1⟩ := ob_p r1 (k := 3) (by decide) (.int (J v))
  exact ⟨g1, e1, ⟨_, fw, fb, M1, by rw [fput_ne (by decide)]; exact r2, by rw [fput_ne (by decide)]; exact r3, by rw [fput_ne (by decide)]; exact r4, fput_eq, by rw [fput_ne (by decide)]; exact r6, by rw [fput_ne (by decide)]; exact r7, (O1.2 _ (by omega)).trans r8, (O1.2 _ (by omega)).trans r9, r10, hv, r12, r13, fun j hj => by rw [(hc j hj).2]; exact r14 j (hc j hj).1⟩, O1.mono (Nat.le_refl _) (by omega)⟩
theorem rd_p4 (R : RD7 h q W dp dg wt cp) {v : Nat} (hv : v ≤ 3) : ∃ h', pF h 7 q 4 (.int (J v)) = some h' ∧ RD7 h' q W dp v wt cp ∧ Ot q (q + 3) h h' := by
  obtain ⟨F, fw, fb, r1, r2, r3, r4, r5, r6, r7, r8, r9, r10, r11, r12, r13, r14⟩ := R
  obtain ⟨g1, e1, M1, O1⟩ := ob_p r1 (k := 4) (by decide) (.int (J v))
  exact ⟨g1, e1, ⟨_, fw, fb, M1, by rw [fput_ne (by decide)]; exact r2, by rw [fput_ne (by decide)]; exact r3, by rw [fput_ne (by decide)]; exact r4, by rw [fput_ne (by decide)]; exact r5, fput_eq, by rw [fput_ne (by decide)]; exact r7, (O1.2 _ (by omega)).trans r8, (O1.2 _ (by omega)).trans r9, r10, r11, hv, r13, r14⟩, O1.mono (Nat.le_refl _) (by omega)⟩
theorem rd_p5 (R : RD7 h q W dp dg wt cp) (v : Bool) : ∃ h', pF h 7 q 5 (.int (b2i v)) = some h' ∧ RD7 h' q W dp dg v cp ∧ Ot q (q + 3) h h' := by
  obtain ⟨F, fw, fb, r1, r2, r3, r4, r5, r6, r7, r8, r9, r10, r11, r12, r13, r14⟩ := R
  obtain ⟨g1, e1, M1, O1⟩ := ob_p r1 (k := 5) (by decide) (.int (b2i v))
  exact ⟨g1, e1, ⟨_, fw, fb, M1, by rw [fput_ne (by decide)]; exact r2, by rw [fput_ne (by decide)]; exact r3, by rw [fput_ne (by decide)]; exact r4, by rw [fput_ne (by decide)]; exact r5, by rw [fput_ne (by decide)]; exact r6, fput_eq, (O1.2 _ (by omega)).trans r8, (O1.2 _ (by omega)).trans r9, r10, r11, r12, r13, r14⟩, O1.mono (Nat.le_refl _) (by omega)⟩
theorem c_hoard (R : RD7 h q W dp dg wt cp) (hW : W.length < 40) {g : Nat} (hg : g < 256) : ∃ h', fX7_hoard h q (J g) = some h' ∧ RD7 h' q (g :: W) dp dg wt cp ∧ Ot q (q + 3) h h' := by
  have rh := rd_h R
  have r2' := rd_2 R
  have r0' := rd_0 R
  have rl := rd_L0 R
  obtain ⟨F, fw, fb, r1, r2, r3, r4, r5, r6, r7, r8, r9, r10, r11, r12, r13, r14⟩ := R
  obtain ⟨g1, e1, C1, O1⟩ := wa_t r8 hW (by decide) (x := J g) (nar_char (by omega))
  have M1 := r1.ot O1 (by omega)
  obtain ⟨g2, e2, M2, O2⟩ := ob_p M1 (k := 2) (by decide) (.int (J (W.length + 1)))
  refine ⟨g2, ?_, ⟨_, _, fb, M2, by rw [fput_ne (by decide)]; exact r2, by rw [fput_ne (by decide)]; exact r3, fput_eq, by rw [fput_ne (by decide)]; exact r5, by rw [fput_ne (by decide)]; exact r6, by rw [fput_ne (by decide)]; exact r7, (O2.2 _ (by omega)).trans C1, (O2.2 _ (by omega)).trans ((O1.2 _ (by omega)).trans r9), hW, r11, r12, ⟨if_pos rfl, hg, r13.cg (fun j hj => if_neg (by omega))⟩, r14⟩, (O1.mono (by omega) (by omega)).trans (O2.mono (Nat.le_refl _) (by omega))⟩
  unfold fX7_hoard
  simp (disch := omega) only [rh, if_true, r2', Option.bind_some, l_0, J_lt, r0', rl, J_le]
  rw [if_neg (by omega), if_neg (by omega)]
  simp only [e1, Option.bind_some, ob_i M1 (k := 2) (by decide) r4, l_1, J_add, e2]
theorem c_setC (R : RD7 h q W dp dg wt cp) (b : Bool) : ∃ h', fX7_setCompared h q b = some h' ∧ RD7 h' q W dp dg wt (fun j => if j = dp then b else cp j) ∧ Ot q (q + 3) h h' := by
  have rh := rd_h R
  have r3' := rd_3 R
  have r1' := rd_1 R
  have rl := rd_L1 R
  obtain ⟨F, fw, fb, r1, r2, r3, r4, r5, r6, r7, r8, r9, r10, r11, r12, r13, r14⟩ := R
  obtain ⟨g1, e1, C1, O1⟩ := wa_t r9 (show dp < 5 by omega) (by decide) (x := b2i b) (nar_b2i b)
  refine ⟨g1, ?_, ⟨F, fw, _, r1.ot O1 (by omega), r2, r3, r4, r5, r6, r7, (O1.2 _ (by omega)).trans r8, C1, r10, r11, r12, r13, fun j hj => ?_⟩, O1.mono (by omega) (by omega)⟩
  · unfold fX7_setCompared
    simp (disch := omega) only [rh, if_true, r3', Option.bind_some, l_0, J_lt, r1', rl, J_le]
    rw [if_neg (by omega), if_neg (by omega)]
    simp only [e1, Option.bind_some]
  · dsimp only
    by_cases e : j = dp
    · rw [if_pos e, if_pos e]
    · rw [if_neg e, if_neg e]
      exact r14 j hj
theorem c_isC (R : RD7 h q W dp dg wt cp) : fX7_isCompared h q = some (cp dp) := by
  have bd := rd_bd R
  unfold fX7_isCompared
  simp (disch := omega) only [rd_h R, if_true, rd_3 R, Option.bind_some, l_0, J_lt, rd_1 R, rd_L1 R, J_le]
  rw [if_neg (by omega), if_neg (by omega)]
  simp only [rd_cp R, Option.bind_some]
  cases cp dp <;> rfl
theorem c_strength {g : Nat} (hg : g < 256) : fX7_strength h (J g) = some (J (stg g)) := by
  have l42 : (42 : Int32) = J 42 := rfl
  have l43 : (43 : Int32) = J 43 := rfl
  have l45 : (45 : Int32) = J 45 := rfl
  have l47 : (47 : Int32) = J 47 := rfl
  have l60 : (60 : Int32) = J 60 := rfl
  have l61 : (61 : Int32) = J 61 := rfl
  have l62 : (62 : Int32) = J 62 := rfl
  have l126 : (126 : Int32) = J 126 := rfl
  unfold fX7_strength
  simp (disch := omega) only [l42, l43, l45, l47, l60, l61, l62, l126, J_inj]
  unfold stg
  by_cases h1 : g = 42
  · simp [h1]; rfl
  · by_cases h2 : g = 43
    · simp [h2]; rfl
    · by_cases h3 : g = 45
      · simp [h3]; rfl
      · by_cases h4 : g = 47
        · simp [h4]; rfl
        · by_cases h5 : g = 60
          · simp [h5]; rfl
          · by_cases h6 : g = 61
            · simp [h6]; rfl
            · by_cases h7 : g = 62
              · simp [h7]; rfl
              · by_cases h8 : g = 126
                · simp [h8]; rfl
                · simp [h1, h2, h3, h4, h5, h6, h7, h8]; rfl
theorem stg_le (g : Nat) : stg g ≤ 4 := by
  unfold stg
  split
  · omega
  · split
    · omega
    · split
      · omega
      · split <;> omega
theorem c_isBin {g : Nat} (hg : g < 256) : fX7_isBinary h (J g) = some (decide (0 < stg g ∧ g ≠ 126)) := by
  have l126 : (126 : Int32) = J 126 := rfl
  have := stg_le g
  unfold fX7_isBinary
  simp (disch := omega) only [c_strength hg, Option.bind_some, l_0, J_le, l126, J_inj]
  by_cases h1 : stg g = 0
  · rw [if_pos (by omega), decide_eq_false (by omega)]
  · rw [if_neg (by omega)]
    by_cases h2 : g = 126
    · rw [if_pos h2, decide_eq_false (by omega)]
    · rw [if_neg h2, decide_eq_true ⟨by omega, h2⟩]
theorem c_isMeas {g : Nat} (hg : g < 256) : fX7_isMeasure h (J g) = some (ltc g) := by
  have l110 : (110 : Int32) = J 110 := rfl
  have l111 : (111 : Int32) = J 111 := rfl
  have l115 : (115 : Int32) = J 115 := rfl
  have l112 : (112 : Int32) = J 112 := rfl
  have l119 : (119 : Int32) = J 119 := rfl
  have l116 : (116 : Int32) = J 116 := rfl
  unfold fX7_isMeasure ltc
  simp (disch := omega) only [l110, l_102, l111, l115, l112, l119, l116, J_inj]
  by_cases h1 : g = 102
  · simp [h1]
  · by_cases h2 : g = 110
    · simp [h2]
    · by_cases h3 : g = 111
      · simp [h3]
      · by_cases h4 : g = 112
        · simp [h4]
        · by_cases h5 : g = 115
          · simp [h5]
          · by_cases h6 : g = 116
            · simp [h6]
            · by_cases h7 : g = 119
              · simp [h7]
              · simp [h1, h2, h3, h4, h5, h6, h7]
theorem c_isDig {g : Nat} (hg : g < 256) : fX10_isDigit h (J g) = some (dgc g) := by
  have l48 : (48 : Int32) = J 48 := rfl
  have l57 : (57 : Int32) = J 57 := rfl
  unfold fX10_isDigit dgc
  simp (disch := omega) only [l48, l57, J_lt]
  by_cases h1 : 48 ≤ g
  · rw [if_neg (by omega), decide_eq_true h1]
    by_cases h2 : g ≤ 57
    · rw [if_neg (by omega), decide_eq_true h2]; rfl
    · rw [if_pos (by omega), decide_eq_false h2]; rfl
  · rw [if_pos (by omega), decide_eq_false h1]; rfl
theorem c_rel7_L (hqr : q + 3 ≤ r ∨ r + 3 ≤ q) {k : Nat} (hk : 1 ≤ k ∧ k ≤ 4) : ∀ (W : List Nat) n C h, W.length < n → W.length + C.length ≤ 40 → RD7 h q W dp dg wt cp → RU h r C → ∃ h', fX7_releaseDownTo_L0 n h q (J k) r = some h' ∧ RD7 h' q (relz k W C).1 dp dg wt cp ∧ RU h' r (relz k W C).2 ∧ On (fun i => (q ≤ i ∧ i < q + 3) ∨ (r ≤ i ∧ i < r + 3)) h h'
  | [], n + 1, C, h, hn, hc, R, U => by
    refine ⟨h, ?_, R, U, On.rf⟩
    rw [fX7_releaseDownTo_L0]
    simp (disch := omega) only [rd_2 R, Option.bind_some, l_0, J_le, List.length_nil]
    rw [if_pos (by omega)]
  | g :: W, n + 1, C, h, hn, hc, R, U => by
    obtain ⟨t1, t2, t3⟩ := rd_top R
    have sl := stg_le g
    have hc' : W.length + 1 + C.length ≤ 40 := hc
    have hn' : W.length + 1 < n + 1 := hn
    rw [fX7_releaseDownTo_L0]
    simp (disch := omega) only [rd_2 R, Option.bind_some, l_0, J_le, List.length_cons, rd_0 R, rd_L0 R, J_lt]
    rw [if_neg (by omega), if_neg (by omega)]
    simp (disch := omega) only [l_1, J_sub, Nat.add_sub_cancel, t1, Option.bind_some, c_strength t2, J_lt]
    by_cases e : k ≤ stg g
    · rw [if_neg (by omega), relz_y e]
      obtain ⟨g1, e1, R1, a1, O1⟩ := rd_pop R
      have U1 := U.ot O1 (by omega)
      obtain ⟨g2, e2, U2, O2⟩ := c_addS U1 (by omega) g
      have R2 := R1.ot O2 (by omega)
      obtain ⟨g3, e3, R3, U3, O3⟩ := c_rel7_L hqr hk W n (C ++ [1000 + g]) g2 (by omega) (by rw [List.length_append]; show W.length + (C.length + 1) ≤ 40; omega) R2 U2
      refine ⟨g3, ?_, R3, U3, ((O1.on (fun i h1 h2 => Or.inl ⟨h1, h2⟩)).trans (O2.on (fun i h1 h2 => Or.inr ⟨h1, h2⟩))).trans O3⟩
      simp only [e1, Option.bind_some, rd_0 R1, rd_2 R1, a1, e2]
      exact e3
    · rw [if_pos (by omega), relz_n e]
      exact ⟨h, rfl, R, U, On.rf⟩
theorem c_rel7 (hqr : q + 3 ≤ r ∨ r + 3 ≤ q) {k : Nat} (hk : 1 ≤ k ∧ k ≤ 4) (hc : W.length + C.length ≤ 40) (R : RD7 h q W dp dg wt cp) (U : RU h r C) : ∃ h', fX7_releaseDownTo h q (J k) r = some h' ∧ RD7 h' q (relz k W C).1 dp dg wt cp ∧ RU h' r (relz k W C).2 ∧ On (fun i => (q ≤ i ∧ i < q + 3) ∨ (r ≤ i ∧ i < r + 3)) h h' := by
  have bd := rd_bd R
  unfold fX7_releaseDownTo
  rw [if_pos (rd_h R)]
  exact c_rel7_L hqr hk W FU C h (FU_gt (by omega)) hc R U
theorem relz_len (k : Nat) : ∀ W C, (relz k W C).1.length + (relz k W C).2.length = W.length + C.length
  | [], C => rfl
  | g :: W, C => by
    by_cases e : k ≤ stg g
    · rw [relz_y e, relz_len k W, List.length_append]
      show W.length + (C.length + 1) = W.length + 1 + C.length
      omega
    · rw [relz_n e]
/-- one sign taken: as the machine does -/
theorem c_takes (hqr : q + 3 ≤ r ∨ r + 3 ≤ q) (R : RD7 h q W dp dg wt cp) (U : RU h r C) (hc : W.length + C.length < 40) (hdg : dg = 0 ∨ ∃ C0 v, C = C0 ++ [v]) {g : Nat} (hg : g < 256) :
    (∀ s, tk (W, dp, dg, wt, cp, C) g = some s → ∃ h', fX7_takes h q (J g) r = some (true, h') ∧ RD7 h' q s.1 s.2.1 s.2.2.1 s.2.2.2.1 s.2.2.2.2.1 ∧ RU h' r s.2.2.2.2.2 ∧ s.1.length + s.2.2.2.2.2.length ≤ W.length + C.length + 1 ∧ (s.2.2.1 = 0 ∨ ∃ C0 v, s.2.2.2.2.2 = C0 ++ [v]) ∧ On (fun i => (q ≤ i ∧ i < q + 3) ∨ (r ≤ i ∧ i < r + 3)) h h') ∧
    (tk (W, dp, dg, wt, cp, C) g = none → ∃ h', fX7_takes h q (J g) r = some (false, h') ∧ RD7w h' q ∧ RUw h' r ∧ On (fun i => (q ≤ i ∧ i < q + 3) ∨ (r ≤ i ∧ i < r + 3)) h h') := by
  have bd := rd_bd R
  have l48 : (48 : Int32) = J 48 := rfl
  have l45 : (45 : Int32) = J 45 := rfl
  have l41 : (41 : Int32) = J 41 := rfl
  have l126 : (126 : Int32) = J 126 := rfl
  have hq3 : ∀ {g1 g2 : AH}, Ot q (q + 3) g1 g2 → On (fun i => (q ≤ i ∧ i < q + 3) ∨ (r ≤ i ∧ i < r + 3)) g1 g2 := fun O => O.on (fun i h1 h2 => Or.inl ⟨h1, h2⟩)
  have hr3 : ∀ {g1 g2 : AH}, Ot r (r + 3) g1 g2 → On (fun i => (q ≤ i ∧ i < q + 3) ∨ (r ≤ i ∧ i < r + 3)) g1 g2 := fun O => O.on (fun i h1 h2 => Or.inr ⟨h1, h2⟩)
  unfold fX7_takes tk
  simp only [rd_h R, if_true, c_isDig hg, Option.bind_some]
  by_cases hd : dgc g = true
  · have gr := dgc_r hd
    simp only [if_pos hd]
    simp (disch := omega) only [l48, J_sub]
    unfold fX7_takesDigit
    simp only [rd_h R, if_true, rd_5 R, Option.bind_some]
    cases wt
    · simp only [if_neg (show ¬ false = true by decide)]
      simp (disch := omega) only [rd_4 R, Option.bind_some, l_0, l_3, J_inj]
      by_cases h1 : dg = 0 ∨ dg = 3
      · refine ⟨fun s hs => (by rw [if_pos h1] at hs; cases hs), fun _ => ⟨h, ?_, R.w, U.w, On.rf⟩⟩
        by_cases h2 : dg = 0
        · rw [if_pos h2]; rfl
        · rw [if_neg h2, if_pos (by omega)]; rfl
      · refine ⟨fun s hs => ?_, fun hs => by rw [if_neg h1] at hs; cases hs⟩
        rw [if_neg h1] at hs
        cases hs
        obtain ⟨C0, v, rfl⟩ := hdg.resolve_left (fun z => h1 (Or.inl z))
        obtain ⟨g1, e1, U1, O1⟩ := c_app U (g - 48)
        have R1 := R.ot O1 (by omega)
        obtain ⟨g2, e2, R2, O2⟩ := rd_p4 R1 (v := dg + 1) (by omega)
        refine ⟨g2, ?_, R2, ?_, ?_, Or.inr ⟨C0, _, apd_eq⟩, (hr3 O1).trans (hq3 O2)⟩
        · rw [if_neg (fun z => h1 (Or.inl z)), if_neg (fun z => h1 (Or.inr z))]
          simp only [e1, Option.bind_some, rd_4 R1, l_1, J_add, e2]
        · show RU g2 r (apd (C0 ++ [v]) (g - 48))
          rw [apd_eq]
          exact U1.ot O2 (by omega)
        · show W.length + (apd (C0 ++ [v]) (g - 48)).length ≤ _
          rw [apd_eq]
          simp only [List.length_append, List.length_cons, List.length_nil]
          omega
    · simp only [if_true]
      refine ⟨fun s hs => ?_, fun hs => by cases hs⟩
      cases hs
      obtain ⟨g1, e1, U1, O1⟩ := c_addN U (by omega) (g - 48)
      have R1 := R.ot O1 (by omega)
      obtain ⟨g2, e2, R2, O2⟩ := rd_p4 R1 (v := 1) (by omega)
      obtain ⟨g3, e3, R3, O3⟩ := rd_p5 R2 false
      refine ⟨g3, ?_, R3, (U1.ot O2 (by omega)).ot O3 (by omega), ?_, Or.inr ⟨C, _, rfl⟩, ((hr3 O1).trans (hq3 O2)).trans (hq3 O3)⟩
      · simp only [e1, Option.bind_some, l_1, e2, e3]
      · show W.length + (C ++ [g - 48]).length ≤ _
        rw [List.length_append]
        show W.length + (C.length + 1) ≤ _
        omega
  · simp only [if_neg hd]
    obtain ⟨g1, e1, R1, O1⟩ := rd_p4 R (v := 0) (by omega)
    have U1 := U.ot O1 (by omega)
    simp only [l_0, e1, Option.bind_some, rd_5 R1]
    cases wt
    · simp only [if_neg (show ¬ false = true by decide)]
      unfold fX7_takesBinder
      simp (disch := omega) only [rd_h R1, if_true, l41, J_inj, rd_3 R1, Option.bind_some, l_0, J_le]
      have bin : ¬ (g = 41 ∧ 0 < dp) → (∀ s, (if 0 < stg g ∧ g ≠ 126 then (if stg g = 1 then (if cp dp = true then none else some (g :: (relz 1 W C).1, dp, 0, true, (fun j => if j = dp then true else cp j), (relz 1 W C).2)) else some (g :: (relz (stg g) W C).1, dp, 0, true, cp, (relz (stg g) W C).2)) else (none : Option MS)) = some s → ∃ h', ((fX7_takesBinder_J45 g1 q (J g) r).bind fun q6 => some (q6.1, q6.2)) = some (true, h') ∧ RD7 h' q s.1 s.2.1 s.2.2.1 s.2.2.2.1 s.2.2.2.2.1 ∧ RU h' r s.2.2.2.2.2 ∧ s.1.length + s.2.2.2.2.2.length ≤ W.length + C.length + 1 ∧ (s.2.2.1 = 0 ∨ ∃ C0 v, s.2.2.2.2.2 = C0 ++ [v]) ∧ On (fun i => (q ≤ i ∧ i < q + 3) ∨ (r ≤ i ∧ i < r + 3)) h h') ∧ ((if 0 < stg g ∧ g ≠ 126 then (if stg g = 1 then (if cp dp = true then none else some (g :: (relz 1 W C).1, dp, 0, true, (fun j => if j = dp then true else cp j), (relz 1 W C).2)) else some (g :: (relz (stg g) W C).1, dp, 0, true, cp, (relz (stg g) W C).2)) else (none : Option MS)) = none → ∃ h', ((fX7_takesBinder_J45 g1 q (J g) r).bind fun q6 => some (q6.1, q6.2)) = some (false, h') ∧ RD7w h' q ∧ RUw h' r ∧ On (fun i => (q ≤ i ∧ i < q + 3) ∨ (r ≤ i ∧ i < r + 3)) h h') := by
        intro _
        have sl := stg_le g
        unfold fX7_takesBinder_J45
        simp only [c_isBin hg, Option.bind_some, decide_eq_true_eq]
        have j76 : ∀ (g2 : AH) (cp2 : Nat → Bool), 1 ≤ stg g → RD7 g2 q W dp 0 false cp2 → RU g2 r C → On (fun i => (q ≤ i ∧ i < q + 3) ∨ (r ≤ i ∧ i < r + 3)) h g2 → ∃ h', fX7_takesBinder_J76 g2 q (J g) r = some (true, h') ∧ RD7 h' q (g :: (relz (stg g) W C).1) dp 0 true cp2 ∧ RU h' r (relz (stg g) W C).2 ∧ On (fun i => (q ≤ i ∧ i < q + 3) ∨ (r ≤ i ∧ i < r + 3)) h h' := by
          intro g2 cp2 hs1 R2 U2 O2
          obtain ⟨g3, e3, R3, U3, O3⟩ := c_rel7 hqr (k := stg g) ⟨hs1, sl⟩ (by omega) R2 U2
          have hlen := relz_len (stg g) W C
          obtain ⟨g4, e4, R4, O4⟩ := c_hoard R3 (by omega) hg
          obtain ⟨g5, e5, R5, O5⟩ := rd_p5 R4 true
          refine ⟨g5, ?_, R5, (U3.ot O4 (by omega)).ot O5 (by omega), ((O2.trans O3).trans (hq3 O4)).trans (hq3 O5)⟩
          unfold fX7_takesBinder_J76
          simp only [c_strength hg, Option.bind_some, e3, e4, e5]
        have bnd' : ∀ k, (g :: (relz k W C).1).length + (relz k W C).2.length ≤ W.length + C.length + 1 := fun k => by
          have := relz_len k W C
          simp only [List.length_cons]
          omega
        by_cases h1 : 0 < stg g ∧ g ≠ 126
        · simp only [if_pos h1]
          simp (disch := omega) only [c_strength hg, Option.bind_some, l_1, J_inj]
          by_cases h2 : stg g = 1
          · simp only [if_pos h2, c_isC R1, Option.bind_some]
            cases h3 : cp dp
            · simp only [if_neg (show ¬ false = true by decide)]
              refine ⟨fun s hs => ?_, fun hs => by cases hs⟩
              cases hs
              obtain ⟨g2, e2, R2, O2⟩ := c_setC R1 true
              obtain ⟨g3, e3, R3, U3, O3⟩ := j76 g2 _ (by omega) R2 (U1.ot O2 (by omega)) ((hq3 O1).trans (hq3 O2))
              rw [h2] at R3 U3
              refine ⟨g3, ?_, R3, U3, bnd' 1, Or.inl rfl, O3⟩
              simp only [e2, Option.bind_some, e3]
            · simp only [if_true]
              exact ⟨fun s hs => (by cases hs), fun _ => ⟨g1, rfl, R1.w, U1.w, hq3 O1⟩⟩
          · simp only [if_neg h2]
            refine ⟨fun s hs => ?_, fun hs => by cases hs⟩
            cases hs
            obtain ⟨g3, e3, R3, U3, O3⟩ := j76 g1 cp (by omega) R1 U1 (hq3 O1)
            refine ⟨g3, ?_, R3, U3, bnd' (stg g), Or.inl rfl, O3⟩
            simp only [e3, Option.bind_some]
        · simp only [if_neg h1]
          exact ⟨fun s hs => (by cases hs), fun _ => ⟨g1, rfl, R1.w, U1.w, hq3 O1⟩⟩
      by_cases h1 : g = 41
      · simp only [if_pos h1]
        by_cases h2 : dp = 0
        · simp only [if_pos (show (0 < 2147483648 ∧ dp ≤ 0) by omega)]
          simp only [if_neg (show ¬ (g = 41 ∧ 0 < dp) by omega)]
          exact bin (by omega)
        · simp only [if_neg (show ¬ (0 < 2147483648 ∧ dp ≤ 0) by omega)]
          simp only [if_pos (show g = 41 ∧ 0 < dp by omega)]
          refine ⟨fun s hs => ?_, fun hs => by cases hs⟩
          cases hs
          obtain ⟨g3, e3, R3, U3, O3⟩ := c_rel7 hqr (k := 1) ⟨by omega, by omega⟩ (by omega) R1 U1
          have hlen := relz_len 1 W C
          have pop : ∃ g4, pF g3 7 q 2 (.int (jmax (J 0) (J (relz 1 W C).1.length - 1))) = some g4 ∧ RD7 g4 q (relz 1 W C).1.tail dp 0 false cp ∧ Ot q (q + 3) g3 g4 := by
            cases hz : (relz 1 W C).1 with
            | nil =>
              rw [hz] at R3
              have em : jmax (J 0) (J ([] : List Nat).length - 1) = J 0 := by decide
              rw [em]
              obtain ⟨F, fw, fb, r1, r2, r3, r4, r5, r6, r7, r8, r9, r10, r11, r12, r13, r14⟩ := R3
              obtain ⟨g4, e4, M4, O4⟩ := ob_p r1 (k := 2) (by decide) (.int (J 0))
              refine ⟨g4, e4, ⟨_, fw, fb, M4, by rw [fput_ne (by decide)]; exact r2, by rw [fput_ne (by decide)]; exact r3, fput_eq, by rw [fput_ne (by decide)]; exact r5, by rw [fput_ne (by decide)]; exact r6, by rw [fput_ne (by decide)]; exact r7, (O4.2 _ (by omega)).trans r8, (O4.2 _ (by omega)).trans r9, Nat.zero_le _, r11, r12, trivial, r14⟩, O4.mono (Nat.le_refl _) (by omega)⟩
            | cons x W2 =>
              rw [hz] at R3
              obtain ⟨t1, t2, t3⟩ := rd_top R3
              have em : jmax (J 0) (J (x :: W2).length - 1) = J W2.length := by
                have : J (x :: W2).length - 1 = J W2.length := by rw [l_1, List.length_cons, J_sub (by omega), Nat.add_sub_cancel]
                rw [this]
                unfold jmax
                simp (disch := omega) only [J_lt]
                by_cases z : W2.length = 0
                · rw [z]; rfl
                · rw [if_pos (by omega)]
              rw [em]
              obtain ⟨g4, e4, R4, -, O4⟩ := rd_pop R3
              exact ⟨g4, e4, R4, O4⟩
          obtain ⟨g4, e4, R4, O4⟩ := pop
          obtain ⟨g5, e5, R5, O5⟩ := rd_p3 R4 (v := dp - 1) (by omega) cp (fun j hj => ⟨by omega, rfl⟩)
          refine ⟨g5, ?_, R5, (U3.ot O4 (by omega)).ot O5 (by omega), ?_, Or.inl rfl, (((hq3 O1).trans O3).trans (hq3 O4)).trans (hq3 O5)⟩
          · have ej : J dp - 1 = J (dp - 1) := by rw [l_1, J_sub (by omega)]
            have e3' : fX7_releaseDownTo g1 q 1 r = some g3 := e3
            simp only [e3', Option.bind_some, rd_2 R3, e4, rd_3 R4, ej, e5]
          · show (relz 1 W C).1.tail.length + (relz 1 W C).2.length ≤ _
            rw [List.length_tail]
            omega
      · simp only [if_neg h1, if_neg (show ¬ (g = 41 ∧ 0 < dp) from fun z => h1 z.1)]
        exact bin (fun z => h1 z.1)
    · simp only [if_true]
      unfold fX7_takesThing
      simp (disch := omega) only [rd_h R1, if_true, l45, l_40, J_inj]
      by_cases h1 : g = 45
      · simp only [if_pos h1]
        refine ⟨fun s hs => ?_, fun hs => by cases hs⟩
        cases hs
        obtain ⟨g2, e2, R2, O2⟩ := c_hoard R1 (by omega) (g := 126) (by omega)
        refine ⟨g2, ?_, R2, U1.ot O2 (by omega), ?_, Or.inl rfl, (hq3 O1).trans (hq3 O2)⟩
        · simp only [l126, e2, Option.bind_some]
        · show W.length + 1 + C.length ≤ _
          omega
      · simp only [if_neg h1]
        have j50 : ¬ (g = 40 ∧ dp < 4) → (∀ s, (if ltc g = true then some (W, dp, 0, false, cp, C ++ [1000 + g]) else (none : Option MS)) = some s → ∃ h', ((fX7_takesThing_J50 g1 q (J g) r).bind fun q5 => some (q5.1, q5.2)) = some (true, h') ∧ RD7 h' q s.1 s.2.1 s.2.2.1 s.2.2.2.1 s.2.2.2.2.1 ∧ RU h' r s.2.2.2.2.2 ∧ s.1.length + s.2.2.2.2.2.length ≤ W.length + C.length + 1 ∧ (s.2.2.1 = 0 ∨ ∃ C0 v, s.2.2.2.2.2 = C0 ++ [v]) ∧ On (fun i => (q ≤ i ∧ i < q + 3) ∨ (r ≤ i ∧ i < r + 3)) h h') ∧ ((if ltc g = true then some (W, dp, 0, false, cp, C ++ [1000 + g]) else (none : Option MS)) = none → ∃ h', ((fX7_takesThing_J50 g1 q (J g) r).bind fun q5 => some (q5.1, q5.2)) = some (false, h') ∧ RD7w h' q ∧ RUw h' r ∧ On (fun i => (q ≤ i ∧ i < q + 3) ∨ (r ≤ i ∧ i < r + 3)) h h') := by
          intro _
          unfold fX7_takesThing_J50
          simp only [c_isMeas hg, Option.bind_some]
          cases hl : ltc g
          · simp only [if_neg (show ¬ false = true by decide)]
            exact ⟨fun s hs => (by cases hs), fun _ => ⟨g1, rfl, R1.w, U1.w, hq3 O1⟩⟩
          · simp only [if_true]
            refine ⟨fun s hs => ?_, fun hs => by cases hs⟩
            cases hs
            obtain ⟨g2, e2, U2, O2⟩ := c_addS U1 (by omega) g
            have R2 := R1.ot O2 (by omega)
            obtain ⟨g3, e3, R3, O3⟩ := rd_p5 R2 false
            refine ⟨g3, ?_, R3, U2.ot O3 (by omega), ?_, Or.inl rfl, ((hq3 O1).trans (hr3 O2)).trans (hq3 O3)⟩
            · simp only [e2, Option.bind_some, e3]
            · show W.length + (C ++ [1000 + g]).length ≤ _
              rw [List.length_append]
              show W.length + (C.length + 1) ≤ _
              omega
        by_cases h2 : g = 40
        · simp only [if_pos h2]
          simp (disch := omega) only [rd_3 R1, Option.bind_some, l_4, J_le]
          by_cases h3 : dp < 4
          · simp only [if_pos (show g = 40 ∧ dp < 4 from ⟨h2, h3⟩)]
            simp only [if_neg (show ¬ (dp < 2147483648 ∧ 4 ≤ dp) by omega)]
            refine ⟨fun s hs => ?_, fun hs => by cases hs⟩
            cases hs
            obtain ⟨g2, e2, R2, O2⟩ := c_hoard R1 (by omega) (g := 40) (by omega)
            have e2' : fX7_hoard g1 q (J g) = some g2 := by rw [h2]; exact e2
            have p3 : ∃ g3, pF g2 7 q 3 (.int (J (dp + 1))) = some g3 ∧ (∃ F fw fb, OBJ 7 6 g3 q F ∧ F 0 = .ref (q + 1) ∧ F 1 = .ref (q + 2) ∧ F 2 = .int (J (40 :: W).length) ∧ F 3 = .int (J (dp + 1)) ∧ F 4 = .int (J 0) ∧ F 5 = .int (b2i true) ∧ g3.1 (q + 1) = some (.inl (2, 40, .inl fw)) ∧ g3.1 (q + 2) = some (.inl (4, 5, .inl fb)) ∧ (40 :: W).length ≤ 40 ∧ WA fw (40 :: W) ∧ ∀ j, j ≤ dp → fb j = b2i (cp j)) ∧ Ot q (q + 3) g2 g3 := by
              obtain ⟨F, fw, fb, r1, r2, r3, r4, r5, r6, r7, r8, r9, r10, r11, r12, r13, r14⟩ := R2
              obtain ⟨g3, e3, M3, O3⟩ := ob_p r1 (k := 3) (by decide) (.int (J (dp + 1)))
              exact ⟨g3, e3, ⟨_, fw, fb, M3, by rw [fput_ne (by decide)]; exact r2, by rw [fput_ne (by decide)]; exact r3, by rw [fput_ne (by decide)]; exact r4, fput_eq, by rw [fput_ne (by decide)]; exact r6, by rw [fput_ne (by decide)]; exact r7, (O3.2 _ (by omega)).trans r8, (O3.2 _ (by omega)).trans r9, r10, r13, r14⟩, O3.mono (Nat.le_refl _) (by omega)⟩
            obtain ⟨g3, e3, ⟨F, fw, fb, r1, r2, r3, r4, r5, r6, r7, r8, r9, r10, r13, r14⟩, O3⟩ := p3
            obtain ⟨g4, e4, C4, O4⟩ := wa_t r9 (show dp + 1 < 5 by omega) (by decide) (x := b2i false) (nar_b2i false)
            have R4 : RD7 g4 q (40 :: W) (dp + 1) 0 true (fun j => if j = dp + 1 then false else cp j) := by
              refine ⟨F, fw, _, r1.ot O4 (by omega), r2, r3, r4, r5, r6, r7, (O4.2 _ (by omega)).trans r8, C4, r10, by omega, by omega, r13, fun j hj => ?_⟩
              dsimp only
              by_cases e : j = dp + 1
              · rw [if_pos e, if_pos e]
              · rw [if_neg e, if_neg e]
                exact r14 j (by omega)
            have e5 : fX7_setCompared g3 q false = some g4 := by
              unfold fX7_setCompared
              simp (disch := omega) only [ob_h r1, if_true, ob_i r1 (k := 3) (by decide) r5, Option.bind_some, l_0, J_lt, ob_r r1 (k := 1) (by decide) r3, aL_at r9, J_le]
              rw [if_neg (by omega), if_neg (by omega)]
              simp only [e4, Option.bind_some]
            refine ⟨g4, ?_, R4, ((U1.ot O2 (by omega)).ot O3 (by omega)).ot O4 (by omega), ?_, Or.inl rfl, (((hq3 O1).trans (hq3 O2)).trans (hq3 O3)).trans (hq3 (O4.mono (by omega) (by omega)))⟩
            · simp only [e2', Option.bind_some, rd_3 R2, l_1, J_add, e3, e5]
            · show W.length + 1 + C.length ≤ _
              omega
          · simp only [if_neg (show ¬ (g = 40 ∧ dp < 4) from fun z => h3 z.2)]
            simp only [if_pos (show (dp < 2147483648 ∧ 4 ≤ dp) by omega)]
            exact j50 (fun z => h3 z.2)
        · simp only [if_neg h2, if_neg (show ¬ (g = 40 ∧ dp < 4) from fun z => h2 z.1)]
          exact j50 (fun z => h2 z.1)
end RD
