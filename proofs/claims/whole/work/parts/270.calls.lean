/-! the law's loop: a call of both, the same answer -/
theorem CIk.of {h g : AH} {mk : Nat} {tx : Nat → Nat} {len : Nat} {w : ST} {un : Nat} {us : Nat → ST} {kp : Nat → Bool} {ks : Nat → ST} {C : List Nat} {row : List Int64} {hq : List (Nat × Nat)} {sq : List (Nat × Nat × Bool)} {P : Nat → Prop} (W : CIk h mk tx len w un us kp ks C row hq sq) (O : Of P h g) (h2 : 167 ≤ h.2) (hP : ∀ k, k < 145 → ¬ P k) : CIk g mk tx len w un us kp ks C row hq sq := by
  have := W.on (h' := (g.1, h.2)) (P := fun k => P k ∨ h.2 ≤ k) ⟨rfl, fun k hk => O.2 k (by have := fun z => hk (Or.inr z); omega) (fun z => hk (Or.inl z))⟩ (fun k hk z => z.elim (hP k hk) (fun y => by omega))
  exact this
theorem MIv.of {h g : AH} {tx : Nat → Nat} {len : Nat} {w : ST} {un : Nat} {us : Nat → ST} {kp : Nat → Bool} {ks : Nat → ST} {ρ : Nat → Nat} {rn : Nat} {row : List Int64} {hq : List (Nat × Nat)} {sq : List (Nat × Nat × Bool)} {P : Nat → Prop} (W : MIv h tx len w un us kp ks ρ rn row hq sq) (O : Of P h g) (h2 : 167 ≤ h.2) (hP : ∀ k, 145 ≤ k → k < 166 → ¬ P k) : MIv g tx len w un us kp ks ρ rn row hq sq := by
  have := W.on (h' := (g.1, h.2)) (P := fun k => P k ∨ h.2 ≤ k) ⟨rfl, fun k hk => O.2 k (by have := fun z => hk (Or.inr z); omega) (fun z => hk (Or.inl z))⟩ (fun k h1 hk z => z.elim (hP k h1 hk) (fun y => by omega))
  exact this
/-- the row that a look of the law is laid in -/
def TB (h : AH) : Prop := ∃ f : Nat → Int64, h.1 166 = some (.inl (1, 1, .inr (.inl f)))
def LN (w : ST) (un : Nat) (us : Nat → ST) (kp : Nat → Bool) (ks : Nat → ST) (C : List Nat) (ρ : Nat → Nat) (rn : Nat) (hq : List (Nat × Nat)) (sq : List (Nat × Nat × Bool)) : Prop := INV w ∧ (∀ i, i < un → INV (us i)) ∧ (∀ j, kp j = true → INV (ks j)) ∧ RLR C ρ rn ∧ HHQ hq ∧ HSQ sq
def LV (h : AH) : Prop := ∃ mk tx len w un us kp ks C ρ rn row hq sq, (CIk h mk tx len w un us kp ks C row hq sq ∧ MIv h tx len w un us kp ks ρ rn row hq sq ∧ TB h ∧ 167 ≤ h.2) ∧ LN w un us kp ks C ρ rn hq sq
theorem kS_inv {w : ST} {un : Nat} {us : Nat → ST} (b : Bool) (I : INV w) (Iu : ∀ i, i < un → INV (us i)) : ∀ i, i < kN b un → INV (kS b un us w i) := by
  intro i hi
  unfold kN at hi
  unfold kS
  by_cases z : b = true
  · rw [if_pos z] at hi ⊢
    unfold uN at hi
    unfold uS
    by_cases y : un < 8
    · rw [if_pos y] at hi ⊢
      show INV (if i = un then w else us i)
      by_cases x : i = un
      · rw [if_pos x]; exact I
      · rw [if_neg x]; exact Iu i (by omega)
    · rw [if_neg y] at hi ⊢
      show INV (if i = 7 then w else us (i + 1))
      by_cases x : i = 7
      · rw [if_pos x]; exact I
      · rw [if_neg x]; exact Iu (i + 1) (by omega)
  · rw [if_neg z] at hi ⊢
    exact Iu i hi
section LW
variable {h g : AH} {mk : Nat} {tx : Nat → Nat} {len : Nat} {w : ST} {un : Nat} {us : Nat → ST} {kp : Nat → Bool} {ks : Nat → ST} {C : List Nat} {ρ : Nat → Nat} {rn : Nat} {row : List Int64} {hq : List (Nat × Nat)} {sq : List (Nat × Nat × Bool)} {xs : Nat → Int32} {L : Nat} {v4 : Int32} {x1 x2 x3 x4 : Nat}
theorem lv_c2 {α : Type} {Fc : Option (α × AH)} {G : AH → Option (α × AH)} {x : α} {tx' : Nat → Nat} {len' : Nat} {w' : ST} {un' : Nat} {us' : Nat → ST} {kp' : Nat → Bool} {ks' : Nat → ST} {C' : List Nat} {ρ' : Nat → Nat} {rn' : Nat} {row' : List Int64} {hq' : List (Nat × Nat)} {sq' : List (Nat × Nat × Bool)} (M : MIv h tx len w un us kp ks ρ rn row hq sq) (B : TB h) (h2 : 167 ≤ h.2) (c : ∃ h' mk', Fc = some (x, h') ∧ CIk h' mk' tx' len' w' un' us' kp' ks' C' row' hq' sq' ∧ Of PC0 h h') (m : ∀ g, MIv g tx len w un us kp ks ρ rn row hq sq → ∃ g', G g = some (x, g') ∧ MIv g' tx' len' w' un' us' kp' ks' ρ' rn' row' hq' sq' ∧ On PM0 g g') : ∃ g1 g2, Fc = some (x, g1) ∧ G g1 = some (x, g2) ∧ ∃ mk', CIk g2 mk' tx' len' w' un' us' kp' ks' C' row' hq' sq' ∧ MIv g2 tx' len' w' un' us' kp' ks' ρ' rn' row' hq' sq' ∧ TB g2 ∧ 167 ≤ g2.2 := by
  obtain ⟨g1, mk1, e1, W1, O1⟩ := c
  have M1 := M.of O1 h2 (fun k h1 _ => by show ¬ k < 145; omega)
  obtain ⟨g2, e2, M2, O2⟩ := m g1 M1
  obtain ⟨f, B⟩ := B
  have hh : 167 ≤ g1.2 := Nat.le_trans h2 O1.1
  refine ⟨g1, g2, e1, e2, mk1, W1.on O2 (fun k hk => by show ¬ (145 ≤ k ∧ k < 166); omega), M2, ⟨f, (O2.2 166 (by show ¬ (145 ≤ 166 ∧ 166 < 166); omega)).trans ((O1.2 166 (by omega) (by show ¬ 166 < 145; omega)).trans B)⟩, by rw [O2.1]; exact hh⟩
theorem c_of {α : Type} {Fc : Option (α × AH)} {x : α} {P : AH → Nat → Prop} (c : ∃ h' mk', Fc = some (x, h') ∧ P h' mk' ∧ On PC0 h h') : ∃ h' mk', Fc = some (x, h') ∧ P h' mk' ∧ Of PC0 h h' := by
  obtain ⟨g, mk, e, W, O⟩ := c
  exact ⟨g, mk, e, W, O.of⟩

theorem lw_sign (V : LV h) (s1 : scI xs L (v4 + 1) = some (J x1)) (b1 : x1 < 4294967296) : ∃ h2, LV h2 ∧ ∀ (K : AH → Nat → Nat → Nat → Int32 → Option Unit), fL_law_J236 xs L K h 0 145 166 v4 = K h2 0 145 166 v4 := by
  obtain ⟨mk, tx, len, w, un, us, kp, ks, C, ρ, rn, row, hq, sq, ⟨W, M, B, h2⟩, ⟨I, Iu, Ik, L0, Hh, Hs⟩⟩ := V
  have gC := rlr_good L0
  obtain ⟨g1, g2, e1, e2, mk', W', M', B', h2'⟩ := lv_c2 M B h2 (c_of (P := fun g' m' => CIk g' m' _ _ _ _ _ _ _ _ _ _ _) (xc_sign W b1)) (fun g M => xm_sign M b1)
  refine ⟨g2, ⟨mk', _, _, _, _, _, _, _, _, _, _, _, _, _, ⟨W', M', B', h2'⟩, ⟨I, Iu, Ik, L0, Hh, Hs⟩⟩, fun K => ?_⟩
  unfold fL_law_J236
  simp only [s1, Option.bind_some, e1, e2, if_true]
theorem lw_end (V : LV h) (s1 : scI xs L (v4 + 1) = some (J x1)) (b1 : x1 < 4294967296) : ∃ h2, LV h2 ∧ ∀ (K : AH → Nat → Nat → Nat → Int32 → Option Unit), fL_law_J261 xs L K h 0 145 166 v4 = K h2 0 145 166 v4 := by
  obtain ⟨mk, tx, len, w, un, us, kp, ks, C, ρ, rn, row, hq, sq, ⟨W, M, B, h2⟩, ⟨I, Iu, Ik, L0, Hh, Hs⟩⟩ := V
  have gC := rlr_good L0
  obtain ⟨g1, g2, e1, e2, mk', W', M', B', h2'⟩ := lv_c2 M B h2 (c_of (P := fun g' m' => CIk g' m' _ _ _ _ _ _ _ _ _ _ _) (xc_end W b1)) (fun g M => xm_end M b1)
  refine ⟨g2, ⟨mk', _, _, _, _, _, _, _, _, _, _, _, _, _, ⟨W', M', B', h2'⟩, ⟨I, Iu, Ik, L0, Hh, Hs⟩⟩, fun K => ?_⟩
  unfold fL_law_J261
  simp only [s1, Option.bind_some, e1, e2, if_true]
theorem lw_spaces (V : LV h)  : ∃ h2, LV h2 ∧ ∀ (K : AH → Nat → Nat → Nat → Int32 → Option Unit), fL_law_J286 xs L K h 0 145 166 v4 = K h2 0 145 166 v4 := by
  obtain ⟨mk, tx, len, w, un, us, kp, ks, C, ρ, rn, row, hq, sq, ⟨W, M, B, h2⟩, ⟨I, Iu, Ik, L0, Hh, Hs⟩⟩ := V
  have gC := rlr_good L0
  obtain ⟨g1, g2, e1, e2, mk', W', M', B', h2'⟩ := lv_c2 M B h2 (c_of (P := fun g' m' => CIk g' m' _ _ _ _ _ _ _ _ _ _ _) (xc_spaces W I)) (fun g M => xm_spaces M I)
  refine ⟨g2, ⟨mk', _, _, _, _, _, _, _, _, _, _, _, _, _, ⟨W', M', B', h2'⟩, ⟨inv_sp I, kS_inv _ I Iu, Ik, L0, Hh, Hs⟩⟩, fun K => ?_⟩
  unfold fL_law_J286
  simp only [Option.bind_some, e1, e2, if_true]
theorem lw_rule (V : LV h)  : ∃ h2, LV h2 ∧ ∀ (K : AH → Nat → Nat → Nat → Int32 → Option Unit), fL_law_J299 xs L K h 0 145 166 v4 = K h2 0 145 166 v4 := by
  obtain ⟨mk, tx, len, w, un, us, kp, ks, C, ρ, rn, row, hq, sq, ⟨W, M, B, h2⟩, ⟨I, Iu, Ik, L0, Hh, Hs⟩⟩ := V
  have gC := rlr_good L0
  have t256 : ∀ i, i < len → tx i < 256 := by
    obtain ⟨t0, f, t1, t2⟩ := M.2.1
    exact fun i hi => (t2 i hi).1
  obtain ⟨g1, g2, e1, e2, mk', W', M', B', h2'⟩ := lv_c2 M B h2 (c_of (P := fun g' m' => CIk g' m' _ _ _ _ _ _ _ _ _ _ _) (xc_rule W)) (fun g M => xm_rule M)
  refine ⟨g2, ⟨mk', _, _, _, _, _, _, _, _, _, _, _, _, _, ⟨W', M', B', h2'⟩, ⟨I, Iu, Ik, ru_rlr L0 t256, Hh, Hs⟩⟩, fun K => ?_⟩
  unfold fL_law_J299
  simp only [Option.bind_some, e1, e2, if_true]
theorem lw_reads (V : LV h) (s1 : scI xs L (v4 + 1) = some (J x1)) (b1 : x1 < 4294967296) (s2 : scI xs L (v4 + 2) = some (J x2)) (b2 : x2 < 4294967296) : ∃ h2, LV h2 ∧ ∀ (K : AH → Nat → Nat → Nat → Int32 → Option Unit), fL_law_J577 xs L K h 0 145 166 v4 = K h2 0 145 166 v4 := by
  obtain ⟨mk, tx, len, w, un, us, kp, ks, C, ρ, rn, row, hq, sq, ⟨W, M, B, h2⟩, ⟨I, Iu, Ik, L0, Hh, Hs⟩⟩ := V
  have gC := rlr_good L0
  obtain ⟨g1, g2, e1, e2, mk', W', M', B', h2'⟩ := lv_c2 M B h2 (c_of (P := fun g' m' => CIk g' m' _ _ _ _ _ _ _ _ _ _ _) (xc_reads W I b1 b2)) (fun g M => xm_reads M I b1 b2)
  refine ⟨g2, ⟨mk', _, _, _, _, _, _, _, _, _, _, _, _, _, ⟨W', M', B', h2'⟩, ⟨inv_rd I b2, kS_inv _ I Iu, Ik, L0, Hh, Hs⟩⟩, fun K => ?_⟩
  unfold fL_law_J577
  simp only [s1, s2, Option.bind_some, e1, e2, if_true]
theorem lw_writes (V : LV h) (s1 : scI xs L (v4 + 1) = some (J x1)) (b1 : x1 < 4294967296) (s2 : scI xs L (v4 + 2) = some (J x2)) (b2 : x2 < 4294967296) (s3 : scI xs L (v4 + 3) = some (J x3)) (b3 : x3 < 4294967296) : ∃ h2, LV h2 ∧ ∀ (K : AH → Nat → Nat → Nat → Int32 → Option Unit), fL_law_J614 xs L K h 0 145 166 v4 = K h2 0 145 166 v4 := by
  obtain ⟨mk, tx, len, w, un, us, kp, ks, C, ρ, rn, row, hq, sq, ⟨W, M, B, h2⟩, ⟨I, Iu, Ik, L0, Hh, Hs⟩⟩ := V
  have gC := rlr_good L0
  obtain ⟨g1, g2, e1, e2, mk', W', M', B', h2'⟩ := lv_c2 M B h2 (c_of (P := fun g' m' => CIk g' m' _ _ _ _ _ _ _ _ _ _ _) (xc_writes W I gC b1 b2 b3)) (fun g M => xm_writes M I L0 b1 b2 b3)
  refine ⟨g2, ⟨mk', _, _, _, _, _, _, _, _, _, _, _, _, _, ⟨W', M', B', h2'⟩, ⟨inv_wrA C I, kS_inv _ I Iu, Ik, L0, Hh, Hs⟩⟩, fun K => ?_⟩
  unfold fL_law_J614
  simp only [s1, s2, s3, Option.bind_some, e1, e2, if_true]
theorem lw_forks (V : LV h) (s1 : scI xs L (v4 + 1) = some (J x1)) (b1 : x1 < 4294967296) : ∃ h2, LV h2 ∧ ∀ (K : AH → Nat → Nat → Nat → Int32 → Option Unit), fL_law_J663 xs L K h 0 145 166 v4 = K h2 0 145 166 v4 := by
  obtain ⟨mk, tx, len, w, un, us, kp, ks, C, ρ, rn, row, hq, sq, ⟨W, M, B, h2⟩, ⟨I, Iu, Ik, L0, Hh, Hs⟩⟩ := V
  have gC := rlr_good L0
  have iv : INV (if frkN w x1 < 6 then frkS w x1 else w) := by
    by_cases z : frkN w x1 < 6
    · rw [if_pos z]; exact inv_frk I ((frkN_ok I.rg).1.mpr z)
    · rw [if_neg z]; exact I
  obtain ⟨g1, g2, e1, e2, mk', W', M', B', h2'⟩ := lv_c2 M B h2 (c_of (P := fun g' m' => CIk g' m' _ _ _ _ _ _ _ _ _ _ _) (xc_forks W I b1)) (fun g M => xm_forks M I b1)
  refine ⟨g2, ⟨mk', _, _, _, _, _, _, _, _, _, _, _, _, _, ⟨W', M', B', h2'⟩, ⟨iv, kS_inv _ I Iu, Ik, L0, Hh, Hs⟩⟩, fun K => ?_⟩
  unfold fL_law_J663
  simp only [s1, Option.bind_some, e1, e2, if_true]
theorem lw_ends (V : LV h) (s1 : scI xs L (v4 + 1) = some (J x1)) (b1 : x1 < 4294967296) : ∃ h2, LV h2 ∧ ∀ (K : AH → Nat → Nat → Nat → Int32 → Option Unit), fL_law_J688 xs L K h 0 145 166 v4 = K h2 0 145 166 v4 := by
  obtain ⟨mk, tx, len, w, un, us, kp, ks, C, ρ, rn, row, hq, sq, ⟨W, M, B, h2⟩, ⟨I, Iu, Ik, L0, Hh, Hs⟩⟩ := V
  have gC := rlr_good L0
  have iv : INV (edS w x1) := by
    unfold edS
    by_cases z : hs w x1 = true
    · rw [if_pos z]; exact inv_end I (hs_lt z).1
    · rw [if_neg z]; exact I
  obtain ⟨g1, g2, e1, e2, mk', W', M', B', h2'⟩ := lv_c2 M B h2 (c_of (P := fun g' m' => CIk g' m' _ _ _ _ _ _ _ _ _ _ _) (xc_ends W I b1)) (fun g M => xm_ends M I b1)
  refine ⟨g2, ⟨mk', _, _, _, _, _, _, _, _, _, _, _, _, _, ⟨W', M', B', h2'⟩, ⟨iv, kS_inv _ I Iu, Ik, L0, Hh, Hs⟩⟩, fun K => ?_⟩
  unfold fL_law_J688
  simp only [s1, Option.bind_some, e1, e2, if_true]
theorem lw_arrives (V : LV h) (s1 : scI xs L (v4 + 1) = some (J x1)) (b1 : x1 < 4294967296) (s2 : scI xs L (v4 + 2) = some (J x2)) (b2 : x2 < 4294967296) (s3 : scI xs L (v4 + 3) = some (J x3)) (b3 : x3 < 4294967296) : ∃ h2, LV h2 ∧ ∀ (K : AH → Nat → Nat → Nat → Int32 → Option Unit), fL_law_J713 xs L K h 0 145 166 v4 = K h2 0 145 166 v4 := by
  obtain ⟨mk, tx, len, w, un, us, kp, ks, C, ρ, rn, row, hq, sq, ⟨W, M, B, h2⟩, ⟨I, Iu, Ik, L0, Hh, Hs⟩⟩ := V
  have gC := rlr_good L0
  have iv : INV (if arrN w x1 x2 x3 < 64 then arrS w x1 x2 x3 else w) := by
    by_cases z : arrN w x1 x2 x3 < 64
    · rw [if_pos z]; exact inv_arr I ((arrN_ok I.rg).1.mpr z)
    · rw [if_neg z]; exact I
  obtain ⟨g1, g2, e1, e2, mk', W', M', B', h2'⟩ := lv_c2 M B h2 (c_of (P := fun g' m' => CIk g' m' _ _ _ _ _ _ _ _ _ _ _) (xc_arrives W I b1 b2 b3)) (fun g M => xm_arrives M I b1 b2 b3)
  refine ⟨g2, ⟨mk', _, _, _, _, _, _, _, _, _, _, _, _, _, ⟨W', M', B', h2'⟩, ⟨iv, kS_inv _ I Iu, Ik, L0, Hh, Hs⟩⟩, fun K => ?_⟩
  unfold fL_law_J713
  simp only [s1, s2, s3, Option.bind_some, e1, e2, if_true]
theorem lw_tidies (V : LV h) (s1 : scI xs L (v4 + 1) = some (J x1)) (b1 : x1 < 4294967296) : ∃ h2, LV h2 ∧ ∀ (K : AH → Nat → Nat → Nat → Int32 → Option Unit), fL_law_J762 xs L K h 0 145 166 v4 = K h2 0 145 166 v4 := by
  obtain ⟨mk, tx, len, w, un, us, kp, ks, C, ρ, rn, row, hq, sq, ⟨W, M, B, h2⟩, ⟨I, Iu, Ik, L0, Hh, Hs⟩⟩ := V
  have gC := rlr_good L0
  have iv : INV (tiS w x1) := by
    unfold tiS
    by_cases z : hs w x1 = true
    · rw [if_pos z]; exact inv_tid I z
    · rw [if_neg z]; exact I
  obtain ⟨g1, g2, e1, e2, mk', W', M', B', h2'⟩ := lv_c2 M B h2 (c_of (P := fun g' m' => CIk g' m' _ _ _ _ _ _ _ _ _ _ _) (xc_tidies W I b1)) (fun g M => xm_tidies M I b1)
  refine ⟨g2, ⟨mk', _, _, _, _, _, _, _, _, _, _, _, _, _, ⟨W', M', B', h2'⟩, ⟨iv, kS_inv _ I Iu, Ik, L0, Hh, Hs⟩⟩, fun K => ?_⟩
  unfold fL_law_J762
  simp only [s1, Option.bind_some, e1, e2, if_true]
theorem lw_day (V : LV h)  : ∃ h2, LV h2 ∧ ∀ (K : AH → Nat → Nat → Nat → Int32 → Option Unit), fL_law_J787 xs L K h 0 145 166 v4 = K h2 0 145 166 v4 := by
  obtain ⟨mk, tx, len, w, un, us, kp, ks, C, ρ, rn, row, hq, sq, ⟨W, M, B, h2⟩, ⟨I, Iu, Ik, L0, Hh, Hs⟩⟩ := V
  have gC := rlr_good L0
  obtain ⟨g1, g2, e1, e2, mk', W', M', B', h2'⟩ := lv_c2 M B h2 (c_of (P := fun g' m' => CIk g' m' _ _ _ _ _ _ _ _ _ _ _) (xc_day W I gC)) (fun g M => xm_day M I L0)
  refine ⟨g2, ⟨mk', _, _, _, _, _, _, _, _, _, _, _, _, _, ⟨W', M', B', h2'⟩, ⟨inv_dy I, kS_inv _ I Iu, Ik, L0, Hh, Hs⟩⟩, fun K => ?_⟩
  unfold fL_law_J787
  simp only [Option.bind_some, e1, e2, if_true]
theorem lw_undo (V : LV h)  : ∃ h2, LV h2 ∧ ∀ (K : AH → Nat → Nat → Nat → Int32 → Option Unit), fL_law_J800 xs L K h 0 145 166 v4 = K h2 0 145 166 v4 := by
  obtain ⟨mk, tx, len, w, un, us, kp, ks, C, ρ, rn, row, hq, sq, ⟨W, M, B, h2⟩, ⟨I, Iu, Ik, L0, Hh, Hs⟩⟩ := V
  have gC := rlr_good L0
  have iv : INV (udW w un us) := by
    unfold udW
    by_cases z : un = 0
    · rw [if_pos z]; exact I
    · rw [if_neg z]; exact Iu _ (by omega)
  obtain ⟨g1, g2, e1, e2, mk', W', M', B', h2'⟩ := lv_c2 M B h2 (c_of (P := fun g' m' => CIk g' m' _ _ _ _ _ _ _ _ _ _ _) (xc_undo W)) (fun g M => xm_undo M)
  refine ⟨g2, ⟨mk', _, _, _, _, _, _, _, _, _, _, _, _, _, ⟨W', M', B', h2'⟩, ⟨iv, fun i hi => Iu i (by omega), Ik, L0, Hh, Hs⟩⟩, fun K => ?_⟩
  unfold fL_law_J800
  simp only [Option.bind_some, e1, e2, if_true]
theorem lw_chain (V : LV h) (s1 : scI xs L (v4 + 1) = some (J x1)) (b1 : x1 < 4294967296) : ∃ h2, LV h2 ∧ ∀ (K : AH → Nat → Nat → Nat → Int32 → Option Unit), fL_law_J813 xs L K h 0 145 166 v4 = K h2 0 145 166 v4 := by
  obtain ⟨mk, tx, len, w, un, us, kp, ks, C, ρ, rn, row, hq, sq, ⟨W, M, B, h2⟩, ⟨I, Iu, Ik, L0, Hh, Hs⟩⟩ := V
  have gC := rlr_good L0
  obtain ⟨g1, g2, e1, e2, mk', W', M', B', h2'⟩ := lv_c2 M B h2 (c_of (P := fun g' m' => CIk g' m' _ _ _ _ _ _ _ _ _ _ _) (xc_chain W I b1)) (fun g M => xm_chain M I b1)
  refine ⟨g2, ⟨mk', _, _, _, _, _, _, _, _, _, _, _, _, _, ⟨W', M', B', h2'⟩, ⟨I, Iu, Ik, L0, Hh, Hs⟩⟩, fun K => ?_⟩
  unfold fL_law_J813
  simp only [s1, Option.bind_some, e1, e2, if_true]
theorem lw_peeks (V : LV h) (s1 : scI xs L (v4 + 1) = some (J x1)) (b1 : x1 < 4294967296) (s2 : scI xs L (v4 + 2) = some (J x2)) (b2 : x2 < 4294967296) : ∃ h2, LV h2 ∧ ∀ (K : AH → Nat → Nat → Nat → Int32 → Option Unit), fL_law_J838 xs L K h 0 145 166 v4 = K h2 0 145 166 v4 := by
  obtain ⟨mk, tx, len, w, un, us, kp, ks, C, ρ, rn, row, hq, sq, ⟨W, M, B, h2⟩, ⟨I, Iu, Ik, L0, Hh, Hs⟩⟩ := V
  have gC := rlr_good L0
  obtain ⟨g1, g2, e1, e2, mk', W', M', B', h2'⟩ := lv_c2 M B h2 (c_of (P := fun g' m' => CIk g' m' _ _ _ _ _ _ _ _ _ _ _) (xc_peeks W I b1 b2)) (fun g M => xm_peeks M I b1 b2)
  refine ⟨g2, ⟨mk', _, _, _, _, _, _, _, _, _, _, _, _, _, ⟨W', M', B', h2'⟩, ⟨I, Iu, Ik, L0, Hh, Hs⟩⟩, fun K => ?_⟩
  unfold fL_law_J838
  simp only [s1, s2, Option.bind_some, e1, e2, if_true]
theorem lw_holders (V : LV h) (s1 : scI xs L (v4 + 1) = some (J x1)) (b1 : x1 < 4294967296) : ∃ h2, LV h2 ∧ ∀ (K : AH → Nat → Nat → Nat → Int32 → Option Unit), fL_law_J875 xs L K h 0 145 166 v4 = K h2 0 145 166 v4 := by
  obtain ⟨mk, tx, len, w, un, us, kp, ks, C, ρ, rn, row, hq, sq, ⟨W, M, B, h2⟩, ⟨I, Iu, Ik, L0, Hh, Hs⟩⟩ := V
  have gC := rlr_good L0
  obtain ⟨g1, g2, e1, e2, mk', W', M', B', h2'⟩ := lv_c2 M B h2 (c_of (P := fun g' m' => CIk g' m' _ _ _ _ _ _ _ _ _ _ _) (xc_holders W I b1)) (fun g M => xm_holders M I b1)
  refine ⟨g2, ⟨mk', _, _, _, _, _, _, _, _, _, _, _, _, _, ⟨W', M', B', h2'⟩, ⟨I, Iu, Ik, L0, Hh, Hs⟩⟩, fun K => ?_⟩
  unfold fL_law_J875
  simp only [s1, Option.bind_some, e1, e2, if_true]
theorem lw_shared (V : LV h) (s1 : scI xs L (v4 + 1) = some (J x1)) (b1 : x1 < 4294967296) (s2 : scI xs L (v4 + 2) = some (J x2)) (b2 : x2 < 4294967296) : ∃ h2, LV h2 ∧ ∀ (K : AH → Nat → Nat → Nat → Int32 → Option Unit), fL_law_J900 xs L K h 0 145 166 v4 = K h2 0 145 166 v4 := by
  obtain ⟨mk, tx, len, w, un, us, kp, ks, C, ρ, rn, row, hq, sq, ⟨W, M, B, h2⟩, ⟨I, Iu, Ik, L0, Hh, Hs⟩⟩ := V
  have gC := rlr_good L0
  obtain ⟨g1, g2, e1, e2, mk', W', M', B', h2'⟩ := lv_c2 M B h2 (c_of (P := fun g' m' => CIk g' m' _ _ _ _ _ _ _ _ _ _ _) (xc_shared W I b1 b2)) (fun g M => xm_shared M I b1 b2)
  refine ⟨g2, ⟨mk', _, _, _, _, _, _, _, _, _, _, _, _, _, ⟨W', M', B', h2'⟩, ⟨I, Iu, Ik, L0, Hh, Hs⟩⟩, fun K => ?_⟩
  unfold fL_law_J900
  simp only [s1, s2, Option.bind_some, e1, e2, if_true]
theorem lw_differ (V : LV h) (s1 : scI xs L (v4 + 1) = some (J x1)) (b1 : x1 < 4294967296) (s2 : scI xs L (v4 + 2) = some (J x2)) (b2 : x2 < 4294967296) : ∃ h2, LV h2 ∧ ∀ (K : AH → Nat → Nat → Nat → Int32 → Option Unit), fL_law_J937 xs L K h 0 145 166 v4 = K h2 0 145 166 v4 := by
  obtain ⟨mk, tx, len, w, un, us, kp, ks, C, ρ, rn, row, hq, sq, ⟨W, M, B, h2⟩, ⟨I, Iu, Ik, L0, Hh, Hs⟩⟩ := V
  have gC := rlr_good L0
  obtain ⟨g1, g2, e1, e2, mk', W', M', B', h2'⟩ := lv_c2 M B h2 (c_of (P := fun g' m' => CIk g' m' _ _ _ _ _ _ _ _ _ _ _) (xc_differ W I b1 b2)) (fun g M => xm_differ M I b1 b2)
  refine ⟨g2, ⟨mk', _, _, _, _, _, _, _, _, _, _, _, _, _, ⟨W', M', B', h2'⟩, ⟨I, Iu, Ik, L0, Hh, Hs⟩⟩, fun K => ?_⟩
  unfold fL_law_J937
  simp only [s1, s2, Option.bind_some, e1, e2, if_true]
theorem lw_common (V : LV h) (s1 : scI xs L (v4 + 1) = some (J x1)) (b1 : x1 < 4294967296) (s2 : scI xs L (v4 + 2) = some (J x2)) (b2 : x2 < 4294967296) : ∃ h2, LV h2 ∧ ∀ (K : AH → Nat → Nat → Nat → Int32 → Option Unit), fL_law_J974 xs L K h 0 145 166 v4 = K h2 0 145 166 v4 := by
  obtain ⟨mk, tx, len, w, un, us, kp, ks, C, ρ, rn, row, hq, sq, ⟨W, M, B, h2⟩, ⟨I, Iu, Ik, L0, Hh, Hs⟩⟩ := V
  have gC := rlr_good L0
  obtain ⟨g1, g2, e1, e2, mk', W', M', B', h2'⟩ := lv_c2 M B h2 (c_of (P := fun g' m' => CIk g' m' _ _ _ _ _ _ _ _ _ _ _) (xc_common W I b1 b2)) (fun g M => xm_common M I b1 b2)
  refine ⟨g2, ⟨mk', _, _, _, _, _, _, _, _, _, _, _, _, _, ⟨W', M', B', h2'⟩, ⟨I, Iu, Ik, L0, Hh, Hs⟩⟩, fun K => ?_⟩
  unfold fL_law_J974
  simp only [s1, s2, Option.bind_some, e1, e2, if_true]
theorem lw_hidden (V : LV h)  : ∃ h2, LV h2 ∧ ∀ (K : AH → Nat → Nat → Nat → Int32 → Option Unit), fL_law_J1011 xs L K h 0 145 166 v4 = K h2 0 145 166 v4 := by
  obtain ⟨mk, tx, len, w, un, us, kp, ks, C, ρ, rn, row, hq, sq, ⟨W, M, B, h2⟩, ⟨I, Iu, Ik, L0, Hh, Hs⟩⟩ := V
  have gC := rlr_good L0
  obtain ⟨g1, g2, e1, e2, mk', W', M', B', h2'⟩ := lv_c2 M B h2 (c_of (P := fun g' m' => CIk g' m' _ _ _ _ _ _ _ _ _ _ _) (xc_hidden W I)) (fun g M => xm_hidden M I)
  refine ⟨g2, ⟨mk', _, _, _, _, _, _, _, _, _, _, _, _, _, ⟨W', M', B', h2'⟩, ⟨I, Iu, Ik, L0, Hh, Hs⟩⟩, fun K => ?_⟩
  unfold fL_law_J1011
  simp only [Option.bind_some, e1, e2, if_true]
theorem lw_frames (V : LV h)  : ∃ h2, LV h2 ∧ ∀ (K : AH → Nat → Nat → Nat → Int32 → Option Unit), fL_law_J1024 xs L K h 0 145 166 v4 = K h2 0 145 166 v4 := by
  obtain ⟨mk, tx, len, w, un, us, kp, ks, C, ρ, rn, row, hq, sq, ⟨W, M, B, h2⟩, ⟨I, Iu, Ik, L0, Hh, Hs⟩⟩ := V
  have gC := rlr_good L0
  obtain ⟨g1, g2, e1, e2, mk', W', M', B', h2'⟩ := lv_c2 M B h2 (c_of (P := fun g' m' => CIk g' m' _ _ _ _ _ _ _ _ _ _ _) (xc_frames W I)) (fun g M => xm_frames M I)
  refine ⟨g2, ⟨mk', _, _, _, _, _, _, _, _, _, _, _, _, _, ⟨W', M', B', h2'⟩, ⟨I, Iu, Ik, L0, Hh, Hs⟩⟩, fun K => ?_⟩
  unfold fL_law_J1024
  simp only [Option.bind_some, e1, e2, if_true]
theorem lw_deepest (V : LV h)  : ∃ h2, LV h2 ∧ ∀ (K : AH → Nat → Nat → Nat → Int32 → Option Unit), fL_law_J1037 xs L K h 0 145 166 v4 = K h2 0 145 166 v4 := by
  obtain ⟨mk, tx, len, w, un, us, kp, ks, C, ρ, rn, row, hq, sq, ⟨W, M, B, h2⟩, ⟨I, Iu, Ik, L0, Hh, Hs⟩⟩ := V
  have gC := rlr_good L0
  obtain ⟨g1, g2, e1, e2, mk', W', M', B', h2'⟩ := lv_c2 M B h2 (c_of (P := fun g' m' => CIk g' m' _ _ _ _ _ _ _ _ _ _ _) (xc_deepest W I)) (fun g M => xm_deepest M I)
  refine ⟨g2, ⟨mk', _, _, _, _, _, _, _, _, _, _, _, _, _, ⟨W', M', B', h2'⟩, ⟨I, Iu, Ik, L0, Hh, Hs⟩⟩, fun K => ?_⟩
  unfold fL_law_J1037
  simp only [Option.bind_some, e1, e2, if_true]
theorem lw_would (V : LV h) (s1 : scI xs L (v4 + 1) = some (J x1)) (b1 : x1 < 4294967296) : ∃ h2, LV h2 ∧ ∀ (K : AH → Nat → Nat → Nat → Int32 → Option Unit), fL_law_J1050 xs L K h 0 145 166 v4 = K h2 0 145 166 v4 := by
  obtain ⟨mk, tx, len, w, un, us, kp, ks, C, ρ, rn, row, hq, sq, ⟨W, M, B, h2⟩, ⟨I, Iu, Ik, L0, Hh, Hs⟩⟩ := V
  have gC := rlr_good L0
  obtain ⟨g1, g2, e1, e2, mk', W', M', B', h2'⟩ := lv_c2 M B h2 (c_of (P := fun g' m' => CIk g' m' _ _ _ _ _ _ _ _ _ _ _) (xc_would W I b1)) (fun g M => xm_would M I b1)
  refine ⟨g2, ⟨mk', _, _, _, _, _, _, _, _, _, _, _, _, _, ⟨W', M', B', h2'⟩, ⟨I, Iu, Ik, L0, Hh, Hs⟩⟩, fun K => ?_⟩
  unfold fL_law_J1050
  simp only [s1, Option.bind_some, e1, e2, if_true]
theorem lw_frees (V : LV h) (s1 : scI xs L (v4 + 1) = some (J x1)) (b1 : x1 < 4294967296) : ∃ h2, LV h2 ∧ ∀ (K : AH → Nat → Nat → Nat → Int32 → Option Unit), fL_law_J1075 xs L K h 0 145 166 v4 = K h2 0 145 166 v4 := by
  obtain ⟨mk, tx, len, w, un, us, kp, ks, C, ρ, rn, row, hq, sq, ⟨W, M, B, h2⟩, ⟨I, Iu, Ik, L0, Hh, Hs⟩⟩ := V
  have gC := rlr_good L0
  obtain ⟨g1, g2, e1, e2, mk', W', M', B', h2'⟩ := lv_c2 M B h2 (c_of (P := fun g' m' => CIk g' m' _ _ _ _ _ _ _ _ _ _ _) (xc_frees W I b1)) (fun g M => xm_frees M I b1)
  refine ⟨g2, ⟨mk', _, _, _, _, _, _, _, _, _, _, _, _, _, ⟨W', M', B', h2'⟩, ⟨I, Iu, Ik, L0, Hh, Hs⟩⟩, fun K => ?_⟩
  unfold fL_law_J1075
  simp only [s1, Option.bind_some, e1, e2, if_true]
theorem lw_storm (V : LV h) (s1 : scI xs L (v4 + 1) = some (J x1)) (b1 : x1 < 4294967296) (s2 : scI xs L (v4 + 2) = some (J x2)) (b2 : x2 < 4294967296) : ∃ h2, LV h2 ∧ ∀ (K : AH → Nat → Nat → Nat → Int32 → Option Unit), fL_law_J1100 xs L K h 0 145 166 v4 = K h2 0 145 166 v4 := by
  obtain ⟨mk, tx, len, w, un, us, kp, ks, C, ρ, rn, row, hq, sq, ⟨W, M, B, h2⟩, ⟨I, Iu, Ik, L0, Hh, Hs⟩⟩ := V
  have gC := rlr_good L0
  obtain ⟨g1, g2, e1, e2, mk', W', M', B', h2'⟩ := lv_c2 M B h2 (c_of (P := fun g' m' => CIk g' m' _ _ _ _ _ _ _ _ _ _ _) (xc_storm W I gC b1 b2)) (fun g M => xm_storm M I L0 b1 b2)
  refine ⟨g2, ⟨mk', _, _, _, _, _, _, _, _, _, _, _, _, _, ⟨W', M', B', h2'⟩, ⟨I, Iu, Ik, L0, Hh, Hs⟩⟩, fun K => ?_⟩
  unfold fL_law_J1100
  simp only [s1, s2, Option.bind_some, e1, e2, if_true]
theorem lw_sweep (V : LV h) (s1 : scI xs L (v4 + 1) = some (J x1)) (b1 : x1 < 4294967296) (s2 : scI xs L (v4 + 2) = some (J x2)) (b2 : x2 < 4294967296) : ∃ h2, LV h2 ∧ ∀ (K : AH → Nat → Nat → Nat → Int32 → Option Unit), fL_law_J1137 xs L K h 0 145 166 v4 = K h2 0 145 166 v4 := by
  obtain ⟨mk, tx, len, w, un, us, kp, ks, C, ρ, rn, row, hq, sq, ⟨W, M, B, h2⟩, ⟨I, Iu, Ik, L0, Hh, Hs⟩⟩ := V
  have gC := rlr_good L0
  obtain ⟨g1, g2, e1, e2, mk', W', M', B', h2'⟩ := lv_c2 M B h2 (c_of (P := fun g' m' => CIk g' m' _ _ _ _ _ _ _ _ _ _ _) (xc_sweep W I gC b1 b2)) (fun g M => xm_sweep M I L0 b1 b2)
  refine ⟨g2, ⟨mk', _, _, _, _, _, _, _, _, _, _, _, _, _, ⟨W', M', B', h2'⟩, ⟨I, Iu, Ik, L0, Hh, Hs⟩⟩, fun K => ?_⟩
  unfold fL_law_J1137
  simp only [s1, s2, Option.bind_some, e1, e2, if_true]
theorem lw_odds (V : LV h) (s1 : scI xs L (v4 + 1) = some (J x1)) (b1 : x1 < 4294967296) (s2 : scI xs L (v4 + 2) = some (J x2)) (b2 : x2 < 4294967296) (s3 : scI xs L (v4 + 3) = some (J x3)) (b3 : x3 < 4294967296) : ∃ h2, LV h2 ∧ ∀ (K : AH → Nat → Nat → Nat → Int32 → Option Unit), fL_law_J1174 xs L K h 0 145 166 v4 = K h2 0 145 166 v4 := by
  obtain ⟨mk, tx, len, w, un, us, kp, ks, C, ρ, rn, row, hq, sq, ⟨W, M, B, h2⟩, ⟨I, Iu, Ik, L0, Hh, Hs⟩⟩ := V
  have gC := rlr_good L0
  obtain ⟨g1, g2, e1, e2, mk', W', M', B', h2'⟩ := lv_c2 M B h2 (c_of (P := fun g' m' => CIk g' m' _ _ _ _ _ _ _ _ _ _ _) (xc_odds W I b1 b2 b3)) (fun g M => xm_odds M I b1 b2 b3)
  refine ⟨g2, ⟨mk', _, _, _, _, _, _, _, _, _, _, _, _, _, ⟨W', M', B', h2'⟩, ⟨I, Iu, Ik, L0, Hh, Hs⟩⟩, fun K => ?_⟩
  unfold fL_law_J1174
  simp only [s1, s2, s3, Option.bind_some, e1, e2, if_true]
theorem lw_heard (V : LV h) (s1 : scI xs L (v4 + 1) = some (J x1)) (b1 : x1 < 4294967296) (s2 : scI xs L (v4 + 2) = some (J x2)) (b2 : x2 < 4294967296) : ∃ h2, LV h2 ∧ ∀ (K : AH → Nat → Nat → Nat → Int32 → Option Unit), fL_law_J1223 xs L K h 0 145 166 v4 = K h2 0 145 166 v4 := by
  obtain ⟨mk, tx, len, w, un, us, kp, ks, C, ρ, rn, row, hq, sq, ⟨W, M, B, h2⟩, ⟨I, Iu, Ik, L0, Hh, Hs⟩⟩ := V
  have gC := rlr_good L0
  have hv : HHQ (heQ x1 x2 hq) := by
    unfold heQ
    by_cases z : heO x1 x2 hq
    · rw [if_pos z]
      intro i q hi
      rcases Nat.lt_or_ge i hq.length with y | y
      · rw [List.getElem?_append_left y] at hi; exact Hh i q hi
      · rw [List.getElem?_append_right y] at hi
        by_cases u : i - hq.length = 0
        · rw [u] at hi
          cases hi
          exact ⟨z.1, z.2.1⟩
        · rw [List.getElem?_eq_none (by show 1 ≤ i - hq.length; omega)] at hi
          cases hi
    · rw [if_neg z]; exact Hh
  obtain ⟨g1, g2, e1, e2, mk', W', M', B', h2'⟩ := lv_c2 M B h2 (c_of (P := fun g' m' => CIk g' m' _ _ _ _ _ _ _ _ _ _ _) (xc_heard W b1 b2)) (fun g M => xm_heard M b1 b2)
  refine ⟨g2, ⟨mk', _, _, _, _, _, _, _, _, _, _, _, _, _, ⟨W', M', B', h2'⟩, ⟨I, Iu, Ik, L0, hv, Hs⟩⟩, fun K => ?_⟩
  unfold fL_law_J1223
  simp only [s1, s2, Option.bind_some, e1, e2, if_true]
theorem lw_forget (V : LV h)  : ∃ h2, LV h2 ∧ ∀ (K : AH → Nat → Nat → Nat → Int32 → Option Unit), fL_law_J1260 xs L K h 0 145 166 v4 = K h2 0 145 166 v4 := by
  obtain ⟨mk, tx, len, w, un, us, kp, ks, C, ρ, rn, row, hq, sq, ⟨W, M, B, h2⟩, ⟨I, Iu, Ik, L0, Hh, Hs⟩⟩ := V
  have gC := rlr_good L0
  obtain ⟨g1, g2, e1, e2, mk', W', M', B', h2'⟩ := lv_c2 M B h2 (c_of (P := fun g' m' => CIk g' m' _ _ _ _ _ _ _ _ _ _ _) (xc_forget W)) (fun g M => xm_forget M)
  refine ⟨g2, ⟨mk', _, _, _, _, _, _, _, _, _, _, _, _, _, ⟨W', M', B', h2'⟩, ⟨I, Iu, Ik, L0, (fun i q hi => by cases hi), Hs⟩⟩, fun K => ?_⟩
  unfold fL_law_J1260
  simp only [Option.bind_some, e1, e2, if_true]
theorem lw_fits (V : LV h)  : ∃ h2, LV h2 ∧ ∀ (K : AH → Nat → Nat → Nat → Int32 → Option Unit), fL_law_J1273 xs L K h 0 145 166 v4 = K h2 0 145 166 v4 := by
  obtain ⟨mk, tx, len, w, un, us, kp, ks, C, ρ, rn, row, hq, sq, ⟨W, M, B, h2⟩, ⟨I, Iu, Ik, L0, Hh, Hs⟩⟩ := V
  have gC := rlr_good L0
  obtain ⟨g1, g2, e1, e2, mk', W', M', B', h2'⟩ := lv_c2 M B h2 (c_of (P := fun g' m' => CIk g' m' _ _ _ _ _ _ _ _ _ _ _) (xc_fits W I Hh)) (fun g M => xm_fits M I Hh)
  refine ⟨g2, ⟨mk', _, _, _, _, _, _, _, _, _, _, _, _, _, ⟨W', M', B', h2'⟩, ⟨I, Iu, Ik, L0, Hh, Hs⟩⟩, fun K => ?_⟩
  unfold fL_law_J1273
  simp only [Option.bind_some, e1, e2, if_true]
theorem lw_asks (V : LV h)  : ∃ h2, LV h2 ∧ ∀ (K : AH → Nat → Nat → Nat → Int32 → Option Unit), fL_law_J1286 xs L K h 0 145 166 v4 = K h2 0 145 166 v4 := by
  obtain ⟨mk, tx, len, w, un, us, kp, ks, C, ρ, rn, row, hq, sq, ⟨W, M, B, h2⟩, ⟨I, Iu, Ik, L0, Hh, Hs⟩⟩ := V
  have gC := rlr_good L0
  obtain ⟨g1, g2, e1, e2, mk', W', M', B', h2'⟩ := lv_c2 M B h2 (c_of (P := fun g' m' => CIk g' m' _ _ _ _ _ _ _ _ _ _ _) (xc_asks W I Hh)) (fun g M => xm_asks M I Hh)
  refine ⟨g2, ⟨mk', _, _, _, _, _, _, _, _, _, _, _, _, _, ⟨W', M', B', h2'⟩, ⟨I, Iu, Ik, L0, Hh, Hs⟩⟩, fun K => ?_⟩
  unfold fL_law_J1286
  simp only [Option.bind_some, e1, e2, if_true]
theorem lw_saw (V : LV h) (s1 : scI xs L (v4 + 1) = some (J x1)) (b1 : x1 < 4294967296) (s2 : scI xs L (v4 + 2) = some (J x2)) (b2 : x2 < 4294967296) (s3 : scI xs L (v4 + 3) = some (J x3)) (b3 : x3 < 4294967296) : ∃ h2, LV h2 ∧ ∀ (K : AH → Nat → Nat → Nat → Int32 → Option Unit), fL_law_J1299 xs L K h 0 145 166 v4 = K h2 0 145 166 v4 := by
  obtain ⟨mk, tx, len, w, un, us, kp, ks, C, ρ, rn, row, hq, sq, ⟨W, M, B, h2⟩, ⟨I, Iu, Ik, L0, Hh, Hs⟩⟩ := V
  have gC := rlr_good L0
  have hv : HSQ (seQ x1 x2 x3 sq) := by
    unfold seQ
    by_cases z : seO x1 x2 x3 sq
    · rw [if_pos z]
      intro i q hi
      rcases Nat.lt_or_ge i sq.length with y | y
      · rw [List.getElem?_append_left y] at hi; exact Hs i q hi
      · rw [List.getElem?_append_right y] at hi
        by_cases u : i - sq.length = 0
        · rw [u] at hi
          cases hi
          exact ⟨z.1, z.2.1⟩
        · rw [List.getElem?_eq_none (by show 1 ≤ i - sq.length; omega)] at hi
          cases hi
    · rw [if_neg z]; exact Hs
  obtain ⟨g1, g2, e1, e2, mk', W', M', B', h2'⟩ := lv_c2 M B h2 (c_of (P := fun g' m' => CIk g' m' _ _ _ _ _ _ _ _ _ _ _) (xc_saw W b1 b2 b3)) (fun g M => xm_saw M b1 b2 b3)
  refine ⟨g2, ⟨mk', _, _, _, _, _, _, _, _, _, _, _, _, _, ⟨W', M', B', h2'⟩, ⟨I, Iu, Ik, L0, Hh, hv⟩⟩, fun K => ?_⟩
  unfold fL_law_J1299
  simp only [s1, s2, s3, Option.bind_some, e1, e2, if_true]
theorem lw_denies (V : LV h)  : ∃ h2, LV h2 ∧ ∀ (K : AH → Nat → Nat → Nat → Int32 → Option Unit), fL_law_J1348 xs L K h 0 145 166 v4 = K h2 0 145 166 v4 := by
  obtain ⟨mk, tx, len, w, un, us, kp, ks, C, ρ, rn, row, hq, sq, ⟨W, M, B, h2⟩, ⟨I, Iu, Ik, L0, Hh, Hs⟩⟩ := V
  have gC := rlr_good L0
  obtain ⟨g1, g2, e1, e2, mk', W', M', B', h2'⟩ := lv_c2 M B h2 (c_of (P := fun g' m' => CIk g' m' _ _ _ _ _ _ _ _ _ _ _) (xc_denies W)) (fun g M => xm_denies M)
  refine ⟨g2, ⟨mk', _, _, _, _, _, _, _, _, _, _, _, _, _, ⟨W', M', B', h2'⟩, ⟨I, Iu, Ik, L0, Hh, fun i q hi => by cases hi⟩⟩, fun K => ?_⟩
  unfold fL_law_J1348
  simp only [Option.bind_some, e1, e2, if_true]
theorem lw_laws (V : LV h)  : ∃ h2, LV h2 ∧ ∀ (K : AH → Nat → Nat → Nat → Int32 → Option Unit), fL_law_J1361 xs L K h 0 145 166 v4 = K h2 0 145 166 v4 := by
  obtain ⟨mk, tx, len, w, un, us, kp, ks, C, ρ, rn, row, hq, sq, ⟨W, M, B, h2⟩, ⟨I, Iu, Ik, L0, Hh, Hs⟩⟩ := V
  have gC := rlr_good L0
  obtain ⟨g1, g2, e1, e2, mk', W', M', B', h2'⟩ := lv_c2 M B h2 (c_of (P := fun g' m' => CIk g' m' _ _ _ _ _ _ _ _ _ _ _) (xc_laws W Hs)) (fun g M => xm_laws M Hs)
  refine ⟨g2, ⟨mk', _, _, _, _, _, _, _, _, _, _, _, _, _, ⟨W', M', B', h2'⟩, ⟨I, Iu, Ik, L0, Hh, Hs⟩⟩, fun K => ?_⟩
  unfold fL_law_J1361
  simp only [Option.bind_some, e1, e2, if_true]
theorem lw_looks (V : LV h)  : ∃ h2, LV h2 ∧ ∀ (K : AH → Nat → Nat → Nat → Int32 → Option Unit), fL_law_J1374 xs L K h 0 145 166 v4 = K h2 0 145 166 v4 := by
  obtain ⟨mk, tx, len, w, un, us, kp, ks, C, ρ, rn, row, hq, sq, ⟨W, M, B, h2⟩, ⟨I, Iu, Ik, L0, Hh, Hs⟩⟩ := V
  have gC := rlr_good L0
  obtain ⟨g1, g2, e1, e2, mk', W', M', B', h2'⟩ := lv_c2 M B h2 (c_of (P := fun g' m' => CIk g' m' _ _ _ _ _ _ _ _ _ _ _) (xc_looks W Hs)) (fun g M => xm_looks M Hs)
  refine ⟨g2, ⟨mk', _, _, _, _, _, _, _, _, _, _, _, _, _, ⟨W', M', B', h2'⟩, ⟨I, Iu, Ik, L0, Hh, Hs⟩⟩, fun K => ?_⟩
  unfold fL_law_J1374
  simp only [Option.bind_some, e1, e2, if_true]
theorem lw_pages (V : LV h) (s1 : scI xs L (v4 + 1) = some (J x1)) (b1 : x1 < 4294967296) : ∃ h2, LV h2 ∧ ∀ (K : AH → Nat → Nat → Nat → Int32 → Option Unit), fL_law_J1387 xs L K h 0 145 166 v4 = K h2 0 145 166 v4 := by
  obtain ⟨mk, tx, len, w, un, us, kp, ks, C, ρ, rn, row, hq, sq, ⟨W, M, B, h2⟩, ⟨I, Iu, Ik, L0, Hh, Hs⟩⟩ := V
  have gC := rlr_good L0
  obtain ⟨g1, g2, e1, e2, mk', W', M', B', h2'⟩ := lv_c2 M B h2 (c_of (P := fun g' m' => CIk g' m' _ _ _ _ _ _ _ _ _ _ _) (xc_pages W b1)) (fun g M => xm_pages M b1)
  refine ⟨g2, ⟨mk', _, _, _, _, _, _, _, _, _, _, _, _, _, ⟨W', M', B', h2'⟩, ⟨I, Iu, Ik, L0, Hh, Hs⟩⟩, fun K => ?_⟩
  unfold fL_law_J1387
  simp only [s1, Option.bind_some, e1, e2, if_true]
theorem lw_rests (V : LV h) (s1 : scI xs L (v4 + 1) = some (J x1)) (b1 : x1 < 4294967296) : ∃ h2, LV h2 ∧ ∀ (K : AH → Nat → Nat → Nat → Int32 → Option Unit), fL_law_J1412 xs L K h 0 145 166 v4 = K h2 0 145 166 v4 := by
  obtain ⟨mk, tx, len, w, un, us, kp, ks, C, ρ, rn, row, hq, sq, ⟨W, M, B, h2⟩, ⟨I, Iu, Ik, L0, Hh, Hs⟩⟩ := V
  have gC := rlr_good L0
  obtain ⟨g1, g2, e1, e2, mk', W', M', B', h2'⟩ := lv_c2 M B h2 (c_of (P := fun g' m' => CIk g' m' _ _ _ _ _ _ _ _ _ _ _) (xc_rests W b1)) (fun g M => xm_rests M b1)
  refine ⟨g2, ⟨mk', _, _, _, _, _, _, _, _, _, _, _, _, _, ⟨W', M', B', h2'⟩, ⟨I, Iu, Ik, L0, Hh, Hs⟩⟩, fun K => ?_⟩
  unfold fL_law_J1412
  simp only [s1, Option.bind_some, e1, e2, if_true]
theorem lw_law (V : LV h)  : ∃ h2, LV h2 ∧ ∀ (K : AH → Nat → Nat → Nat → Int32 → Option Unit), fL_law_J1437 xs L K h 0 145 166 v4 = K h2 0 145 166 v4 := by
  obtain ⟨mk, tx, len, w, un, us, kp, ks, C, ρ, rn, row, hq, sq, ⟨W, M, B, h2⟩, ⟨I, Iu, Ik, L0, Hh, Hs⟩⟩ := V
  have gC := rlr_good L0
  obtain ⟨g1, g2, e1, e2, mk', W', M', B', h2'⟩ := lv_c2 M B h2 (c_of (P := fun g' m' => CIk g' m' _ _ _ _ _ _ _ _ _ _ _) (xc_law W I gC)) (fun g M => xm_law M I L0)
  refine ⟨g2, ⟨mk', _, _, _, _, _, _, _, _, _, _, _, _, _, ⟨W', M', B', h2'⟩, ⟨I, Iu, Ik, L0, Hh, Hs⟩⟩, fun K => ?_⟩
  unfold fL_law_J1437
  simp only [Option.bind_some, e1, e2, if_true]
theorem lw_years (V : LV h) (s1 : scI xs L (v4 + 1) = some (J x1)) (b1 : x1 < 4294967296) (s2 : scI xs L (v4 + 2) = some (J x2)) (b2 : x2 < 4294967296) : ∃ h2, LV h2 ∧ ∀ (K : AH → Nat → Nat → Nat → Int32 → Option Unit), fL_law_J1450 xs L K h 0 145 166 v4 = K h2 0 145 166 v4 := by
  obtain ⟨mk, tx, len, w, un, us, kp, ks, C, ρ, rn, row, hq, sq, ⟨W, M, B, h2⟩, ⟨I, Iu, Ik, L0, Hh, Hs⟩⟩ := V
  have gC := rlr_good L0
  obtain ⟨g1, g2, e1, e2, mk', W', M', B', h2'⟩ := lv_c2 M B h2 (xc_years (X := drx) (V := drv) dv_p dc_p W I gC h2 (J x1) b2) (fun g M => xm_years (X := drx) (V := drv) dv_p dm_p M I L0 (J x1) b2)
  refine ⟨g2, ⟨mk', _, _, _, _, _, _, _, _, _, _, _, _, _, ⟨W', M', B', h2'⟩, ⟨I, Iu, Ik, L0, Hh, Hs⟩⟩, fun K => ?_⟩
  unfold fL_law_J1450
  simp only [s1, s2, Option.bind_some, e1, e2, if_true]
theorem lw_keep (V : LV h) (s1 : scI xs L (v4 + 1) = some (J x1)) (b1 : x1 < 4294967296) : ∃ h2, LV h2 ∧ ∀ (K : AH → Nat → Nat → Nat → Int32 → Option Unit), fL_law_J1487 xs L K h 0 145 166 v4 = K h2 0 145 166 v4 := by
  obtain ⟨mk, tx, len, w, un, us, kp, ks, C, ρ, rn, row, hq, sq, ⟨W, M, B, h2⟩, ⟨I, Iu, Ik, L0, Hh, Hs⟩⟩ := V
  have gC := rlr_good L0
  have ik : ∀ j, kpN kp x1 j = true → INV (ksN ks x1 w j) := by
    intro j hj
    unfold kpN at hj
    unfold ksN
    by_cases z : x1 < 2
    · rw [if_pos z] at hj ⊢
      have hj' : (if j = x1 then true else kp j) = true := hj
      show INV (if j = x1 then w else ks j)
      by_cases y : j = x1
      · rw [if_pos y]; exact I
      · rw [if_neg y] at hj' ⊢; exact Ik j hj'
    · rw [if_neg z] at hj ⊢
      exact Ik j hj
  obtain ⟨g1, g2, e1, e2, mk', W', M', B', h2'⟩ := lv_c2 M B h2 (c_of (P := fun g' m' => CIk g' m' _ _ _ _ _ _ _ _ _ _ _) (xc_keep W b1)) (fun g M => xm_keep M b1)
  refine ⟨g2, ⟨mk', _, _, _, _, _, _, _, _, _, _, _, _, _, ⟨W', M', B', h2'⟩, ⟨I, Iu, ik, L0, Hh, Hs⟩⟩, fun K => ?_⟩
  unfold fL_law_J1487
  simp only [s1, Option.bind_some, e1, e2, if_true]
theorem lw_again (V : LV h) (s1 : scI xs L (v4 + 1) = some (J x1)) (b1 : x1 < 4294967296) : ∃ h2, LV h2 ∧ ∀ (K : AH → Nat → Nat → Nat → Int32 → Option Unit), fL_law_J1512 xs L K h 0 145 166 v4 = K h2 0 145 166 v4 := by
  obtain ⟨mk, tx, len, w, un, us, kp, ks, C, ρ, rn, row, hq, sq, ⟨W, M, B, h2⟩, ⟨I, Iu, Ik, L0, Hh, Hs⟩⟩ := V
  have gC := rlr_good L0
  have iv : INV (agW w kp ks x1) := by
    unfold agW
    by_cases z : agB kp x1 = true
    · rw [if_pos z]
      unfold agB at z
      rw [Bool.and_eq_true] at z
      exact Ik _ z.2
    · rw [if_neg z]; exact I
  have iu : ∀ i, i < agU un kp x1 → INV (us i) := by
    intro i hi
    unfold agU at hi
    by_cases z : agB kp x1 = true
    · rw [if_pos z] at hi
      exact absurd hi (Nat.not_lt_zero i)
    · rw [if_neg z] at hi
      exact Iu i hi
  obtain ⟨g1, g2, e1, e2, mk', W', M', B', h2'⟩ := lv_c2 M B h2 (c_of (P := fun g' m' => CIk g' m' _ _ _ _ _ _ _ _ _ _ _) (xc_again W b1)) (fun g M => xm_again M b1)
  refine ⟨g2, ⟨mk', _, _, _, _, _, _, _, _, _, _, _, _, _, ⟨W', M', B', h2'⟩, ⟨iv, iu, Ik, L0, Hh, Hs⟩⟩, fun K => ?_⟩
  unfold fL_law_J1512
  simp only [s1, Option.bind_some, e1, e2, if_true]
theorem lw_sheet (V : LV h) (s1 : scI xs L (v4 + 1) = some (J x1)) (b1 : x1 < 4294967296) (s2 : scI xs L (v4 + 2) = some (J x2)) (b2 : x2 < 4294967296) (s3 : scI xs L (v4 + 3) = some (J x3)) (s4 : scI xs L (v4 + 4) = some (J x4)) : ∃ h2, LV h2 ∧ ∀ (K : AH → Nat → Nat → Nat → Int32 → Option Unit), fL_law_J516 xs L K h 0 145 166 v4 = K h2 0 145 166 v4 := by
  obtain ⟨mk, tx, len, w, un, us, kp, ks, C, ρ, rn, row, hq, sq, ⟨W, M, B, h2⟩, ⟨I, Iu, Ik, L0, Hh, Hs⟩⟩ := V
  obtain ⟨g1, g2, e1, e2, mk', W', M', B', h2'⟩ := lv_c2 M B h2 (c_of (P := fun g' m' => CIk g' m' _ _ _ _ _ _ _ _ _ _ _) (xc_sheet W I (J x3) (J x4) b1 b2)) (fun g M => xm_sheet M I (J x3) (J x4) b1 b2)
  refine ⟨g2, ⟨mk', _, _, _, _, _, _, _, _, _, _, _, _, _, ⟨W', M', B', h2'⟩, ⟨shW_inv I, Iu, Ik, L0, Hh, Hs⟩⟩, fun K => ?_⟩
  unfold fL_law_J516
  simp only [s1, s2, s3, s4, Option.bind_some, e1, e2, if_true]
theorem lw_count (V : LV h) (s1 : scI xs L (v4 + 1) = some (J x1)) (b1 : x1 < 4294967296) : ∃ h2, LV h2 ∧ ∀ (K : AH → Nat → Nat → Nat → Int32 → Option Unit), fL_law_J1537 xs L K h 0 145 166 v4 = K h2 0 145 166 v4 := by
  obtain ⟨mk, tx, len, w, un, us, kp, ks, C, ρ, rn, row, hq, sq, ⟨W, M, B, h2⟩, N⟩ := V
  have e1 := xc_count W N.1 b1
  obtain ⟨g2, e2, M2, O2⟩ := xm_count M N.1 b1
  obtain ⟨f, B⟩ := B
  refine ⟨g2, ⟨mk, _, _, _, _, _, _, _, _, _, _, _, _, _, ⟨W.on O2 (fun k hk => by show ¬ (145 ≤ k ∧ k < 166); omega), M2, ⟨f, (O2.2 166 (by show ¬ (145 ≤ 166 ∧ 166 < 166); omega)).trans B⟩, by rw [O2.1]; exact h2⟩, N⟩, fun K => ?_⟩
  unfold fL_law_J1537
  simp only [s1, Option.bind_some, e1, e2, if_true]
/-- what a look answers lies in the row -/
theorem lv_put (W : CIk h mk tx len w un us kp ks C row hq sq) (M : MIv h tx len w un us kp ks ρ rn row hq sq) (B : TB h) (x : Int64) : ∃ g f, sJ h 166 0 x = some g ∧ CIk g mk tx len w un us kp ks C row hq sq ∧ MIv g tx len w un us kp ks ρ rn row hq sq ∧ g.1 166 = some (.inl (1, 1, .inr (.inl f))) ∧ f 0 = x ∧ g.2 = h.2 := by
  obtain ⟨f, B⟩ := B
  obtain ⟨g, e, c, O⟩ := wa_J B (show 0 < 1 by decide) (by decide) x
  have O' : On (fun k => k = 166) h g := O.on1 rfl
  exact ⟨g, _, e, W.on O' (fun k hk => by omega), M.on O' (fun k h1 h2 => by omega), c, if_pos rfl, O'.1⟩
theorem y_thr (M : MIv h tx len w un us kp ks ρ rn row hq sq) {x : Int32} (e : gI h 11 145 5 = some x) : fX11_thrown h 145 = some x := by
  unfold fX11_thrown
  rw [if_pos (y_h M.1), e, Option.bind_some]
theorem cmp_s (x : Int64) : lg_cmp x x = 0 := by
  unfold lg_cmp
  rw [if_neg (fun y => by
    have y' : x < x := y
    rw [Int64.lt_iff_toInt_lt] at y'
    omega), if_pos rfl]

theorem lw_space (V : LV h) (s1 : scI xs L (v4 + 1) = some (J x1)) (b1 : x1 < 4294967296) (s2 : scI xs L (v4 + 2) = some (J x2)) (b2 : x2 < 4294967296) : ∃ h2, LV h2 ∧ ∀ (K : AH → Nat → Nat → Nat → Int32 → Option Unit), fL_law_J312 xs L K h 0 145 166 v4 = K h2 0 145 166 v4 := by
  obtain ⟨mk, tx, len, w, un, us, kp, ks, C, ρ, rn, row, hq, sq, ⟨W, M, B, h2⟩, N⟩ := V
  have I := N.1
  have L0 := N.2.2.2.1
  have gC := rlr_good L0
  have z0 : (0 : Int32) = J 0 := rfl
  by_cases hc : hs w x1 = true ∧ x2 < 4
  · obtain ⟨g1, mk1, e1, W1, O1⟩ := xc_space W I gC hc.1 hc.2
    have M1 := M.on O1 (fun k h1 h2 => by show ¬ k < 145; omega)
    have B1 : TB g1 := by
      obtain ⟨f, B⟩ := B
      exact ⟨f, (O1.2 166 (by show ¬ 166 < 145; omega)).trans B⟩
    obtain ⟨g2, f, e2, W2, M2, c2, f0, n2⟩ := lv_put W1 M1 B1 (Int32.toInt64 (spA C w x1 x2))
    obtain ⟨g3, e3, t3, M3, O3⟩ := xm_space M2 I L0 hc.1 hc.2
    have c3 : g3.1 166 = some (.inl (1, 1, .inr (.inl f))) := (O3.2 166 (by show ¬ (145 ≤ 166 ∧ 166 < 166); omega)).trans c2
    have r3 : aJ g3 166 0 = some (f 0) := aJ_at c3 (show 0 < 1 by decide) (by decide)
    refine ⟨g3, ⟨mk1, _, _, _, _, _, _, _, _, _, _, _, _, _, ⟨W2.on O3 (fun k hk => by show ¬ (145 ≤ k ∧ k < 166); omega), M3, ⟨f, c3⟩, by rw [O3.1, n2, O1.1]; exact h2⟩, N⟩, fun K => ?_⟩
    have eL : fL_space h 0 (J x1) (J x2) 166 = some (0, g2) := by
      unfold fL_space
      rw [e1]
      show (sJ g1 166 0 (Int32.toInt64 (spA C w x1 x2))).bind (fun h1 => some (0, h1)) = _
      rw [e2, Option.bind_some]
    unfold fL_law_J312
    simp only [s1, s2, Option.bind_some, eL, e3, y_thr M3 t3, if_true, r3, f0]
    exact if_pos (cmp_s _)
  · obtain ⟨q1, q2⟩ := xc_space_no W I b1 b2 hc
    have O1 : Of (fun _ => False) h (h.1, h.2 + 1) := ⟨Nat.le_succ _, fun k _ _ => rfl⟩
    have W1 := W.of O1 h2 (fun k _ => id)
    have M1 := M.of O1 h2 (fun k _ _ => id)
    obtain ⟨x, g3, e3, t3, M3, O3⟩ := xm_space_no M1 I b1 b2 hc
    obtain ⟨f, B⟩ := B
    refine ⟨g3, ⟨mk, _, _, _, _, _, _, _, _, _, _, _, _, _, ⟨W1.on O3 (fun k hk => by show ¬ (145 ≤ k ∧ k < 166); omega), M3, ⟨f, (O3.2 166 (by show ¬ (145 ≤ 166 ∧ 166 < 166); omega)).trans B⟩, by rw [O3.1]; exact Nat.le_succ_of_le h2⟩, N⟩, fun K => ?_⟩
    have eL : fL_space h 0 (J x1) (J x2) 166 = some (1, (h.1, h.2 + 1)) := by
      unfold fL_space
      rw [q1, q2]
      rfl
    unfold fL_law_J312
    simp only [s1, s2, Option.bind_some, eL, e3, y_thr M3 t3, if_true]
    exact if_neg (by decide)

theorem lw_object (V : LV h) (s1 : scI xs L (v4 + 1) = some (J x1)) (b1 : x1 < 4294967296) (s2 : scI xs L (v4 + 2) = some (J x2)) (b2 : x2 < 4294967296) : ∃ h2, LV h2 ∧ ∀ (K : AH → Nat → Nat → Nat → Int32 → Option Unit), fL_law_J380 xs L K h 0 145 166 v4 = K h2 0 145 166 v4 := by
  obtain ⟨mk, tx, len, w, un, us, kp, ks, C, ρ, rn, row, hq, sq, ⟨W, M, B, h2⟩, N⟩ := V
  have I := N.1
  have L0 := N.2.2.2.1
  have gC := rlr_good L0
  have z0 : (0 : Int32) = J 0 := rfl
  by_cases hc : ho w x1 = true ∧ x2 < 7
  · obtain ⟨g1, mk1, e1, W1, O1⟩ := xc_object W I hc.1 hc.2
    have M1 := M.on O1 (fun k h1 h2 => by show ¬ k < 145; omega)
    have B1 : TB g1 := by
      obtain ⟨f, B⟩ := B
      exact ⟨f, (O1.2 166 (by show ¬ 166 < 145; omega)).trans B⟩
    obtain ⟨g2, f, e2, W2, M2, c2, f0, n2⟩ := lv_put W1 M1 B1 (Int32.toInt64 (J (obA w x1 x2)))
    obtain ⟨g3, e3, t3, M3, O3⟩ := xm_object M2 I hc.1 hc.2
    have c3 : g3.1 166 = some (.inl (1, 1, .inr (.inl f))) := (O3.2 166 (by show ¬ (145 ≤ 166 ∧ 166 < 166); omega)).trans c2
    have r3 : aJ g3 166 0 = some (f 0) := aJ_at c3 (show 0 < 1 by decide) (by decide)
    refine ⟨g3, ⟨mk1, _, _, _, _, _, _, _, _, _, _, _, _, _, ⟨W2.on O3 (fun k hk => by show ¬ (145 ≤ k ∧ k < 166); omega), M3, ⟨f, c3⟩, by rw [O3.1, n2, O1.1]; exact h2⟩, N⟩, fun K => ?_⟩
    have eL : fL_object h 0 (J x1) (J x2) 166 = some (0, g2) := by
      unfold fL_object
      rw [e1]
      show (sJ g1 166 0 (Int32.toInt64 (J (obA w x1 x2)))).bind (fun h1 => some (0, h1)) = _
      rw [e2, Option.bind_some]
    unfold fL_law_J380
    simp only [s1, s2, Option.bind_some, eL, e3, y_thr M3 t3, if_true, r3, f0]
    exact if_pos (cmp_s _)
  · obtain ⟨q1, q2⟩ := xc_object_no W I b1 b2 hc
    have O1 : Of (fun _ => False) h (h.1, h.2 + 1) := ⟨Nat.le_succ _, fun k _ _ => rfl⟩
    have W1 := W.of O1 h2 (fun k _ => id)
    have M1 := M.of O1 h2 (fun k _ _ => id)
    obtain ⟨x, g3, e3, t3, M3, O3⟩ := xm_object_no M1 I b1 b2 hc
    obtain ⟨f, B⟩ := B
    refine ⟨g3, ⟨mk, _, _, _, _, _, _, _, _, _, _, _, _, _, ⟨W1.on O3 (fun k hk => by show ¬ (145 ≤ k ∧ k < 166); omega), M3, ⟨f, (O3.2 166 (by show ¬ (145 ≤ 166 ∧ 166 < 166); omega)).trans B⟩, by rw [O3.1]; exact Nat.le_succ_of_le h2⟩, N⟩, fun K => ?_⟩
    have eL : fL_object h 0 (J x1) (J x2) 166 = some (1, (h.1, h.2 + 1)) := by
      unfold fL_object
      rw [q1, q2]
      rfl
    unfold fL_law_J380
    simp only [s1, s2, Option.bind_some, eL, e3, y_thr M3 t3, if_true]
    exact if_neg (by decide)

theorem lw_page (V : LV h) (s1 : scI xs L (v4 + 1) = some (J x1)) (b1 : x1 < 4294967296) (s2 : scI xs L (v4 + 2) = some (J x2)) (b2 : x2 < 4294967296) : ∃ h2, LV h2 ∧ ∀ (K : AH → Nat → Nat → Nat → Int32 → Option Unit), fL_law_J448 xs L K h 0 145 166 v4 = K h2 0 145 166 v4 := by
  obtain ⟨mk, tx, len, w, un, us, kp, ks, C, ρ, rn, row, hq, sq, ⟨W, M, B, h2⟩, N⟩ := V
  have I := N.1
  have L0 := N.2.2.2.1
  have gC := rlr_good L0
  have z0 : (0 : Int32) = J 0 := rfl
  by_cases hc : hd w x1 x2 = true
  · obtain ⟨g1, mk1, e1, W1, O1⟩ := xc_page W I hc
    have M1 := M.on O1 (fun k h1 h2 => by show ¬ k < 145; omega)
    have B1 : TB g1 := by
      obtain ⟨f, B⟩ := B
      exact ⟨f, (O1.2 166 (by show ¬ 166 < 145; omega)).trans B⟩
    obtain ⟨g2, f, e2, W2, M2, c2, f0, n2⟩ := lv_put W1 M1 B1 (Int32.toInt64 (J (w 6 (8 * x1 + x2))))
    obtain ⟨g3, e3, t3, M3, O3⟩ := xm_page M2 I hc
    have c3 : g3.1 166 = some (.inl (1, 1, .inr (.inl f))) := (O3.2 166 (by show ¬ (145 ≤ 166 ∧ 166 < 166); omega)).trans c2
    have r3 : aJ g3 166 0 = some (f 0) := aJ_at c3 (show 0 < 1 by decide) (by decide)
    refine ⟨g3, ⟨mk1, _, _, _, _, _, _, _, _, _, _, _, _, _, ⟨W2.on O3 (fun k hk => by show ¬ (145 ≤ k ∧ k < 166); omega), M3, ⟨f, c3⟩, by rw [O3.1, n2, O1.1]; exact h2⟩, N⟩, fun K => ?_⟩
    have eL : fL_page h 0 (J x1) (J x2) 166 = some (0, g2) := by
      unfold fL_page
      rw [e1]
      show (sJ g1 166 0 (Int32.toInt64 (J (w 6 (8 * x1 + x2))))).bind (fun h1 => some (0, h1)) = _
      rw [e2, Option.bind_some]
    unfold fL_law_J448
    simp only [s1, s2, Option.bind_some, eL, e3, y_thr M3 t3, if_true, r3, f0]
    exact if_pos (cmp_s _)
  · obtain ⟨q1, q2⟩ := xc_page_no W I b1 b2 hc
    have O1 : Of (fun _ => False) h (h.1, h.2 + 1) := ⟨Nat.le_succ _, fun k _ _ => rfl⟩
    have W1 := W.of O1 h2 (fun k _ => id)
    have M1 := M.of O1 h2 (fun k _ _ => id)
    obtain ⟨x, g3, e3, t3, M3, O3⟩ := xm_page_no M1 I b1 b2 hc
    obtain ⟨f, B⟩ := B
    refine ⟨g3, ⟨mk, _, _, _, _, _, _, _, _, _, _, _, _, _, ⟨W1.on O3 (fun k hk => by show ¬ (145 ≤ k ∧ k < 166); omega), M3, ⟨f, (O3.2 166 (by show ¬ (145 ≤ 166 ∧ 166 < 166); omega)).trans B⟩, by rw [O3.1]; exact Nat.le_succ_of_le h2⟩, N⟩, fun K => ?_⟩
    have eL : fL_page h 0 (J x1) (J x2) 166 = some (1, (h.1, h.2 + 1)) := by
      unfold fL_page
      rw [q1, q2]
      rfl
    unfold fL_law_J448
    simp only [s1, s2, Option.bind_some, eL, e3, y_thr M3 t3, if_true]
    exact if_neg (by decide)

theorem lw_row (V : LV h) (s1 : scI xs L (v4 + 1) = some (J x1)) (b1 : x1 < 4294967296) : ∃ h2, LV h2 ∧ ∀ (K : AH → Nat → Nat → Nat → Int32 → Option Unit), fL_law_J1562 xs L K h 0 145 166 v4 = K h2 0 145 166 v4 := by
  obtain ⟨mk, tx, len, w, un, us, kp, ks, C, ρ, rn, row, hq, sq, ⟨W, M, B, h2⟩, N⟩ := V
  have I := N.1
  have L0 := N.2.2.2.1
  have gC := rlr_good L0
  have z0 : (0 : Int32) = J 0 := rfl
  cases hx : row[x1]? with
  | some x =>
    have e1 := xc_row W b1 hx
    have W1 := W
    have O1 : On PC0 h h := On.rf
    have g1e : h = h := rfl
    have M1 := M.on O1 (fun k h1 h2 => by show ¬ k < 145; omega)
    have B1 : TB h := by
      obtain ⟨f, B⟩ := B
      exact ⟨f, (O1.2 166 (by show ¬ 166 < 145; omega)).trans B⟩
    obtain ⟨g2, f, e2, W2, M2, c2, f0, n2⟩ := lv_put W1 M1 B1 (x)
    obtain ⟨g3, e3, t3, M3, O3⟩ := xm_row M2 b1 hx
    have c3 : g3.1 166 = some (.inl (1, 1, .inr (.inl f))) := (O3.2 166 (by show ¬ (145 ≤ 166 ∧ 166 < 166); omega)).trans c2
    have r3 : aJ g3 166 0 = some (f 0) := aJ_at c3 (show 0 < 1 by decide) (by decide)
    refine ⟨g3, ⟨mk, _, _, _, _, _, _, _, _, _, _, _, _, _, ⟨W2.on O3 (fun k hk => by show ¬ (145 ≤ k ∧ k < 166); omega), M3, ⟨f, c3⟩, by rw [O3.1, n2, O1.1]; exact h2⟩, N⟩, fun K => ?_⟩
    have eL : fL_row h 0 (J x1) 166 = some (0, g2) := by
      unfold fL_row
      rw [e1]
      show (sJ h 166 0 (x)).bind (fun h1 => some (0, h1)) = _
      rw [e2, Option.bind_some]
    unfold fL_law_J1562
    simp only [s1, Option.bind_some, eL, e3, y_thr M3 t3, if_true, r3, f0]
    exact if_pos (cmp_s _)
  | none =>
    obtain ⟨q1, q2⟩ := xc_row_no W b1 hx
    have O1 : Of (fun _ => False) h (h.1, h.2 + 1) := ⟨Nat.le_succ _, fun k _ _ => rfl⟩
    have W1 := W.of O1 h2 (fun k _ => id)
    have M1 := M.of O1 h2 (fun k _ _ => id)
    obtain ⟨x, g3, e3, t3, M3, O3⟩ := xm_row_no M1 b1 hx
    obtain ⟨f, B⟩ := B
    refine ⟨g3, ⟨mk, _, _, _, _, _, _, _, _, _, _, _, _, _, ⟨W1.on O3 (fun k hk => by show ¬ (145 ≤ k ∧ k < 166); omega), M3, ⟨f, (O3.2 166 (by show ¬ (145 ≤ 166 ∧ 166 < 166); omega)).trans B⟩, by rw [O3.1]; exact Nat.le_succ_of_le h2⟩, N⟩, fun K => ?_⟩
    have eL : fL_row h 0 (J x1) 166 = some (1, (h.1, h.2 + 1)) := by
      unfold fL_row
      rw [q1, q2]
      rfl
    unfold fL_law_J1562
    simp only [s1, Option.bind_some, eL, e3, y_thr M3 t3, if_true]
    exact if_neg (by decide)

end LW
