/-! writing into a world of the class -/
def Ot (lo hi : Nat) (h h' : AH) : Prop := h'.2 = h.2 ∧ ∀ k, (k < lo ∨ hi ≤ k) → h'.1 k = h.1 k
theorem Ot.rf {lo hi : Nat} {h : AH} : Ot lo hi h h := ⟨rfl, fun _ _ => rfl⟩
theorem Ot.trans {lo hi : Nat} {h h1 h2 : AH} (a : Ot lo hi h h1) (b : Ot lo hi h1 h2) : Ot lo hi h h2 := ⟨b.1.trans a.1, fun k hk => (b.2 k hk).trans (a.2 k hk)⟩
theorem Ot.mono {lo hi lo' hi' : Nat} {h h1 : AH} (a : Ot lo hi h h1) (h1' : lo' ≤ lo) (h2' : hi ≤ hi') : Ot lo' hi' h h1 := ⟨a.1, fun k hk => a.2 k (by omega)⟩
theorem hset_eq {h : AH} {k : Nat} {e : AE} : (hset h k e).1 k = some e := by simp [hset, va_up]
theorem hset_ne {h : AH} {k j : Nat} {e : AE} (hj : j ≠ k) : (hset h k e).1 j = h.1 j := by simp [hset, va_up, hj]
theorem Ot_hset {lo hi : Nat} {h : AH} {k : Nat} {e : AE} (hk : lo ≤ k ∧ k < hi) : Ot lo hi h (hset h k e) := ⟨rfl, fun j hj => hset_ne (by omega)⟩
def WRk (h : AH) (w : Nat) (σ : ST) (c b : Nat) : Prop := ∃ A I, WC h w A I ∧ WS A I σ ∧ I 4 = J c ∧ I 5 = J b
theorem WRk.wr {h : AH} {w : Nat} {σ : ST} {c b : Nat} (W : WRk h w σ c b) : WR h w σ := by
  obtain ⟨A, I, C, S, -⟩ := W
  exact ⟨A, I, C, S⟩
theorem WR.wk {h : AH} {w : Nat} {σ : ST} (W : WR h w σ) : ∃ c b, WRk h w σ c b := by
  obtain ⟨A, I, C, S⟩ := W
  obtain ⟨c, -, hc⟩ := J_surj (I 4)
  obtain ⟨b, -, hb⟩ := J_surj (I 5)
  exact ⟨c, b, A, I, C, S, hc, hb⟩
theorem WC.frame {h h' : AH} {w lo hi : Nat} {A : Nat → Nat → Int32} {I : Nat → Int32} (C : WC h w A I) (O : Ot lo hi h h') (hw : w + 9 ≤ lo ∨ hi ≤ w) : WC h' w A I := by
  unfold WC at C ⊢
  rw [O.2 w (by omega), O.2 (w + 1) (by omega), O.2 (w + 2) (by omega), O.2 (w + 3) (by omega), O.2 (w + 4) (by omega), O.2 (w + 5) (by omega), O.2 (w + 6) (by omega), O.2 (w + 7) (by omega), O.2 (w + 8) (by omega)]
  exact C
theorem WRk.frame {h h' : AH} {w lo hi : Nat} {σ : ST} {c b : Nat} (W : WRk h w σ c b) (O : Ot lo hi h h') (hw : w + 9 ≤ lo ∨ hi ≤ w) : WRk h' w σ c b := by
  obtain ⟨A, I, C, S⟩ := W
  exact ⟨A, I, C.frame O hw, S⟩
theorem WR.frame {h h' : AH} {w lo hi : Nat} {σ : ST} (W : WR h w σ) (O : Ot lo hi h h') (hw : w + 9 ≤ lo ∨ hi ≤ w) : WR h' w σ := by
  obtain ⟨A, I, C, S⟩ := W
  exact ⟨A, I, C.frame O hw, S⟩
def WC1 (h : AH) (w : Nat) : Prop := ∃ A I, WC h w A I
theorem put_eq {σ : ST} {f k v : Nat} : put σ f k v f k = v := by simp [put]
theorem put_f {σ : ST} {f k v f' k' : Nat} (h : f' ≠ f) : put σ f k v f' k' = σ f' k' := by simp [put, h]
theorem put_k {σ : ST} {f k v f' k' : Nat} (h : k' ≠ k) : put σ f k v f' k' = σ f' k' := by simp [put, h]
section WK
variable {h : AH} {w c b : Nat} {σ : ST}
theorem wc_p0 {A : Nat → Nat → Int32} {I : Nat → Int32} (C : WC h w A I) (x : Int32) : ∃ h', pF h 9 w 0 (.int x) = some h' ∧ WC h' w A (fun j => if j = 0 then x else I j) ∧ Ot w (w + 9) h h' :=
  ⟨_, pF_at C.1 (Nat.le_of_ble_eq_true rfl), ⟨hset_eq, (hset_ne (by omega)).trans C.2.1, (hset_ne (by omega)).trans C.2.2.1, (hset_ne (by omega)).trans C.2.2.2.1, (hset_ne (by omega)).trans C.2.2.2.2.1, (hset_ne (by omega)).trans C.2.2.2.2.2.1, (hset_ne (by omega)).trans C.2.2.2.2.2.2.1, (hset_ne (by omega)).trans C.2.2.2.2.2.2.2.1, (hset_ne (by omega)).trans C.2.2.2.2.2.2.2.2⟩, Ot_hset ⟨Nat.le_refl _, by omega⟩⟩
theorem wc_p1 {A : Nat → Nat → Int32} {I : Nat → Int32} (C : WC h w A I) (x : Int32) : ∃ h', pF h 9 w 1 (.int x) = some h' ∧ WC h' w A (fun j => if j = 1 then x else I j) ∧ Ot w (w + 9) h h' :=
  ⟨_, pF_at C.1 (Nat.le_of_ble_eq_true rfl), ⟨hset_eq, (hset_ne (by omega)).trans C.2.1, (hset_ne (by omega)).trans C.2.2.1, (hset_ne (by omega)).trans C.2.2.2.1, (hset_ne (by omega)).trans C.2.2.2.2.1, (hset_ne (by omega)).trans C.2.2.2.2.2.1, (hset_ne (by omega)).trans C.2.2.2.2.2.2.1, (hset_ne (by omega)).trans C.2.2.2.2.2.2.2.1, (hset_ne (by omega)).trans C.2.2.2.2.2.2.2.2⟩, Ot_hset ⟨Nat.le_refl _, by omega⟩⟩
theorem wc_p2 {A : Nat → Nat → Int32} {I : Nat → Int32} (C : WC h w A I) (x : Int32) : ∃ h', pF h 9 w 2 (.int x) = some h' ∧ WC h' w A (fun j => if j = 2 then x else I j) ∧ Ot w (w + 9) h h' :=
  ⟨_, pF_at C.1 (Nat.le_of_ble_eq_true rfl), ⟨hset_eq, (hset_ne (by omega)).trans C.2.1, (hset_ne (by omega)).trans C.2.2.1, (hset_ne (by omega)).trans C.2.2.2.1, (hset_ne (by omega)).trans C.2.2.2.2.1, (hset_ne (by omega)).trans C.2.2.2.2.2.1, (hset_ne (by omega)).trans C.2.2.2.2.2.2.1, (hset_ne (by omega)).trans C.2.2.2.2.2.2.2.1, (hset_ne (by omega)).trans C.2.2.2.2.2.2.2.2⟩, Ot_hset ⟨Nat.le_refl _, by omega⟩⟩
theorem wc_p3 {A : Nat → Nat → Int32} {I : Nat → Int32} (C : WC h w A I) (x : Int32) : ∃ h', pF h 9 w 3 (.int x) = some h' ∧ WC h' w A (fun j => if j = 3 then x else I j) ∧ Ot w (w + 9) h h' :=
  ⟨_, pF_at C.1 (Nat.le_of_ble_eq_true rfl), ⟨hset_eq, (hset_ne (by omega)).trans C.2.1, (hset_ne (by omega)).trans C.2.2.1, (hset_ne (by omega)).trans C.2.2.2.1, (hset_ne (by omega)).trans C.2.2.2.2.1, (hset_ne (by omega)).trans C.2.2.2.2.2.1, (hset_ne (by omega)).trans C.2.2.2.2.2.2.1, (hset_ne (by omega)).trans C.2.2.2.2.2.2.2.1, (hset_ne (by omega)).trans C.2.2.2.2.2.2.2.2⟩, Ot_hset ⟨Nat.le_refl _, by omega⟩⟩
theorem wc_p12 {A : Nat → Nat → Int32} {I : Nat → Int32} (C : WC h w A I) (x : Int32) : ∃ h', pF h 9 w 12 (.int x) = some h' ∧ WC h' w A (fun j => if j = 4 then x else I j) ∧ Ot w (w + 9) h h' :=
  ⟨_, pF_at C.1 (Nat.le_of_ble_eq_true rfl), ⟨hset_eq, (hset_ne (by omega)).trans C.2.1, (hset_ne (by omega)).trans C.2.2.1, (hset_ne (by omega)).trans C.2.2.2.1, (hset_ne (by omega)).trans C.2.2.2.2.1, (hset_ne (by omega)).trans C.2.2.2.2.2.1, (hset_ne (by omega)).trans C.2.2.2.2.2.2.1, (hset_ne (by omega)).trans C.2.2.2.2.2.2.2.1, (hset_ne (by omega)).trans C.2.2.2.2.2.2.2.2⟩, Ot_hset ⟨Nat.le_refl _, by omega⟩⟩
theorem wc_p13 {A : Nat → Nat → Int32} {I : Nat → Int32} (C : WC h w A I) (x : Int32) : ∃ h', pF h 9 w 13 (.int x) = some h' ∧ WC h' w A (fun j => if j = 5 then x else I j) ∧ Ot w (w + 9) h h' :=
  ⟨_, pF_at C.1 (Nat.le_of_ble_eq_true rfl), ⟨hset_eq, (hset_ne (by omega)).trans C.2.1, (hset_ne (by omega)).trans C.2.2.1, (hset_ne (by omega)).trans C.2.2.2.1, (hset_ne (by omega)).trans C.2.2.2.2.1, (hset_ne (by omega)).trans C.2.2.2.2.2.1, (hset_ne (by omega)).trans C.2.2.2.2.2.2.1, (hset_ne (by omega)).trans C.2.2.2.2.2.2.2.1, (hset_ne (by omega)).trans C.2.2.2.2.2.2.2.2⟩, Ot_hset ⟨Nat.le_refl _, by omega⟩⟩
theorem wc_s0 {A : Nat → Nat → Int32} {I : Nat → Int32} (C : WC h w A I) {i : Nat} (hi : i < 6) (x : Int32) : ∃ h', sI h 0 (w + 1) (J i) x = some h' ∧ WC h' w (fun k j => if k = 0 ∧ j = i then x else A k j) I ∧ Ot w (w + 9) h h' := by
  refine ⟨_, sI_at C.2.1 hi (by decide), ⟨(hset_ne (by omega)).trans C.1, ?_, (hset_ne (by omega)).trans C.2.2.1, (hset_ne (by omega)).trans C.2.2.2.1, (hset_ne (by omega)).trans C.2.2.2.2.1, (hset_ne (by omega)).trans C.2.2.2.2.2.1, (hset_ne (by omega)).trans C.2.2.2.2.2.2.1, (hset_ne (by omega)).trans C.2.2.2.2.2.2.2.1, (hset_ne (by omega)).trans C.2.2.2.2.2.2.2.2⟩, Ot_hset ⟨by omega, by omega⟩⟩
  rw [hset_eq]
  congr 5
  funext j
  simp only [upd, true_and]
  rfl
theorem wc_s1 {A : Nat → Nat → Int32} {I : Nat → Int32} (C : WC h w A I) {i : Nat} (hi : i < 24) (x : Int32) : ∃ h', sI h 0 (w + 2) (J i) x = some h' ∧ WC h' w (fun k j => if k = 1 ∧ j = i then x else A k j) I ∧ Ot w (w + 9) h h' := by
  refine ⟨_, sI_at C.2.2.1 hi (by decide), ⟨(hset_ne (by omega)).trans C.1, (hset_ne (by omega)).trans C.2.1, ?_, (hset_ne (by omega)).trans C.2.2.2.1, (hset_ne (by omega)).trans C.2.2.2.2.1, (hset_ne (by omega)).trans C.2.2.2.2.2.1, (hset_ne (by omega)).trans C.2.2.2.2.2.2.1, (hset_ne (by omega)).trans C.2.2.2.2.2.2.2.1, (hset_ne (by omega)).trans C.2.2.2.2.2.2.2.2⟩, Ot_hset ⟨by omega, by omega⟩⟩
  rw [hset_eq]
  congr 5
  funext j
  simp only [upd, true_and]
  rfl
theorem wc_s2 {A : Nat → Nat → Int32} {I : Nat → Int32} (C : WC h w A I) {i : Nat} (hi : i < 24) (x : Int32) : ∃ h', sI h 0 (w + 3) (J i) x = some h' ∧ WC h' w (fun k j => if k = 2 ∧ j = i then x else A k j) I ∧ Ot w (w + 9) h h' := by
  refine ⟨_, sI_at C.2.2.2.1 hi (by decide), ⟨(hset_ne (by omega)).trans C.1, (hset_ne (by omega)).trans C.2.1, (hset_ne (by omega)).trans C.2.2.1, ?_, (hset_ne (by omega)).trans C.2.2.2.2.1, (hset_ne (by omega)).trans C.2.2.2.2.2.1, (hset_ne (by omega)).trans C.2.2.2.2.2.2.1, (hset_ne (by omega)).trans C.2.2.2.2.2.2.2.1, (hset_ne (by omega)).trans C.2.2.2.2.2.2.2.2⟩, Ot_hset ⟨by omega, by omega⟩⟩
  rw [hset_eq]
  congr 5
  funext j
  simp only [upd, true_and]
  rfl
theorem wc_s3 {A : Nat → Nat → Int32} {I : Nat → Int32} (C : WC h w A I) {i : Nat} (hi : i < 24) (x : Int32) : ∃ h', sI h 0 (w + 4) (J i) x = some h' ∧ WC h' w (fun k j => if k = 3 ∧ j = i then x else A k j) I ∧ Ot w (w + 9) h h' := by
  refine ⟨_, sI_at C.2.2.2.2.1 hi (by decide), ⟨(hset_ne (by omega)).trans C.1, (hset_ne (by omega)).trans C.2.1, (hset_ne (by omega)).trans C.2.2.1, (hset_ne (by omega)).trans C.2.2.2.1, ?_, (hset_ne (by omega)).trans C.2.2.2.2.2.1, (hset_ne (by omega)).trans C.2.2.2.2.2.2.1, (hset_ne (by omega)).trans C.2.2.2.2.2.2.2.1, (hset_ne (by omega)).trans C.2.2.2.2.2.2.2.2⟩, Ot_hset ⟨by omega, by omega⟩⟩
  rw [hset_eq]
  congr 5
  funext j
  simp only [upd, true_and]
  rfl
theorem wc_s4 {A : Nat → Nat → Int32} {I : Nat → Int32} (C : WC h w A I) {i : Nat} (hi : i < 24) (x : Int32) : ∃ h', sI h 0 (w + 5) (J i) x = some h' ∧ WC h' w (fun k j => if k = 4 ∧ j = i then x else A k j) I ∧ Ot w (w + 9) h h' := by
  refine ⟨_, sI_at C.2.2.2.2.2.1 hi (by decide), ⟨(hset_ne (by omega)).trans C.1, (hset_ne (by omega)).trans C.2.1, (hset_ne (by omega)).trans C.2.2.1, (hset_ne (by omega)).trans C.2.2.2.1, (hset_ne (by omega)).trans C.2.2.2.2.1, ?_, (hset_ne (by omega)).trans C.2.2.2.2.2.2.1, (hset_ne (by omega)).trans C.2.2.2.2.2.2.2.1, (hset_ne (by omega)).trans C.2.2.2.2.2.2.2.2⟩, Ot_hset ⟨by omega, by omega⟩⟩
  rw [hset_eq]
  congr 5
  funext j
  simp only [upd, true_and]
  rfl
theorem wc_s5 {A : Nat → Nat → Int32} {I : Nat → Int32} (C : WC h w A I) {i : Nat} (hi : i < 24) (x : Int32) : ∃ h', sI h 0 (w + 6) (J i) x = some h' ∧ WC h' w (fun k j => if k = 5 ∧ j = i then x else A k j) I ∧ Ot w (w + 9) h h' := by
  refine ⟨_, sI_at C.2.2.2.2.2.2.1 hi (by decide), ⟨(hset_ne (by omega)).trans C.1, (hset_ne (by omega)).trans C.2.1, (hset_ne (by omega)).trans C.2.2.1, (hset_ne (by omega)).trans C.2.2.2.1, (hset_ne (by omega)).trans C.2.2.2.2.1, (hset_ne (by omega)).trans C.2.2.2.2.2.1, ?_, (hset_ne (by omega)).trans C.2.2.2.2.2.2.2.1, (hset_ne (by omega)).trans C.2.2.2.2.2.2.2.2⟩, Ot_hset ⟨by omega, by omega⟩⟩
  rw [hset_eq]
  congr 5
  funext j
  simp only [upd, true_and]
  rfl
theorem wc_s6 {A : Nat → Nat → Int32} {I : Nat → Int32} (C : WC h w A I) {i : Nat} (hi : i < 24) (x : Int32) : ∃ h', sI h 0 (w + 7) (J i) x = some h' ∧ WC h' w (fun k j => if k = 6 ∧ j = i then x else A k j) I ∧ Ot w (w + 9) h h' := by
  refine ⟨_, sI_at C.2.2.2.2.2.2.2.1 hi (by decide), ⟨(hset_ne (by omega)).trans C.1, (hset_ne (by omega)).trans C.2.1, (hset_ne (by omega)).trans C.2.2.1, (hset_ne (by omega)).trans C.2.2.2.1, (hset_ne (by omega)).trans C.2.2.2.2.1, (hset_ne (by omega)).trans C.2.2.2.2.2.1, (hset_ne (by omega)).trans C.2.2.2.2.2.2.1, ?_, (hset_ne (by omega)).trans C.2.2.2.2.2.2.2.2⟩, Ot_hset ⟨by omega, by omega⟩⟩
  rw [hset_eq]
  congr 5
  funext j
  simp only [upd, true_and]
  rfl
theorem wc_s7 {A : Nat → Nat → Int32} {I : Nat → Int32} (C : WC h w A I) {i : Nat} (hi : i < 192) (x : Int32) : ∃ h', sI h 0 (w + 8) (J i) x = some h' ∧ WC h' w (fun k j => if k = 7 ∧ j = i then x else A k j) I ∧ Ot w (w + 9) h h' := by
  refine ⟨_, sI_at C.2.2.2.2.2.2.2.2 hi (by decide), ⟨(hset_ne (by omega)).trans C.1, (hset_ne (by omega)).trans C.2.1, (hset_ne (by omega)).trans C.2.2.1, (hset_ne (by omega)).trans C.2.2.2.1, (hset_ne (by omega)).trans C.2.2.2.2.1, (hset_ne (by omega)).trans C.2.2.2.2.2.1, (hset_ne (by omega)).trans C.2.2.2.2.2.2.1, (hset_ne (by omega)).trans C.2.2.2.2.2.2.2.1, ?_⟩, Ot_hset ⟨by omega, by omega⟩⟩
  rw [hset_eq]
  congr 5
  funext j
  simp only [upd, true_and]
  rfl
theorem wk_p0 (W : WRk h w σ c b) (v : Nat) : ∃ h', pF h 9 w 0 (.int (J v)) = some h' ∧ WRk h' w (put σ 1 1 v) c b ∧ Ot w (w + 9) h h' := by
  obtain ⟨A, I, C, S, K⟩ := W
  obtain ⟨h', e1, C1, O1⟩ := wc_p0 C (J v)
  refine ⟨h', e1, ⟨_, _, C1, ⟨?_, ?_⟩, K⟩, O1⟩
  · simp [put, S.1.1, S.1.2.1, S.1.2.2.1, S.1.2.2.2]
  · simpa [put] using S.2
theorem wk_p1 (W : WRk h w σ c b) (v : Nat) : ∃ h', pF h 9 w 1 (.int (J v)) = some h' ∧ WRk h' w (put σ 1 0 v) c b ∧ Ot w (w + 9) h h' := by
  obtain ⟨A, I, C, S, K⟩ := W
  obtain ⟨h', e1, C1, O1⟩ := wc_p1 C (J v)
  refine ⟨h', e1, ⟨_, _, C1, ⟨?_, ?_⟩, K⟩, O1⟩
  · simp [put, S.1.1, S.1.2.1, S.1.2.2.1, S.1.2.2.2]
  · simpa [put] using S.2
theorem wk_p2 (W : WRk h w σ c b) (v : Nat) : ∃ h', pF h 9 w 2 (.int (J v)) = some h' ∧ WRk h' w (put σ 1 2 v) c b ∧ Ot w (w + 9) h h' := by
  obtain ⟨A, I, C, S, K⟩ := W
  obtain ⟨h', e1, C1, O1⟩ := wc_p2 C (J v)
  refine ⟨h', e1, ⟨_, _, C1, ⟨?_, ?_⟩, K⟩, O1⟩
  · simp [put, S.1.1, S.1.2.1, S.1.2.2.1, S.1.2.2.2]
  · simpa [put] using S.2
theorem wk_p3 (W : WRk h w σ c b) (v : Nat) : ∃ h', pF h 9 w 3 (.int (J v)) = some h' ∧ WRk h' w (put σ 1 3 v) c b ∧ Ot w (w + 9) h h' := by
  obtain ⟨A, I, C, S, K⟩ := W
  obtain ⟨h', e1, C1, O1⟩ := wc_p3 C (J v)
  refine ⟨h', e1, ⟨_, _, C1, ⟨?_, ?_⟩, K⟩, O1⟩
  · simp [put, S.1.1, S.1.2.1, S.1.2.2.1, S.1.2.2.2]
  · simpa [put] using S.2
theorem wk_p12 (W : WRk h w σ c b) (v : Nat) : ∃ h', pF h 9 w 12 (.int (J v)) = some h' ∧ WRk h' w σ v b ∧ Ot w (w + 9) h h' := by
  obtain ⟨A, I, C, S, K⟩ := W
  obtain ⟨h', e1, C1, O1⟩ := wc_p12 C (J v)
  refine ⟨h', e1, ⟨_, _, C1, ⟨?_, S.2⟩, ?_⟩, O1⟩
  · simpa using S.1
  · simpa using K.2
theorem wk_p13 (W : WRk h w σ c b) (v : Nat) : ∃ h', pF h 9 w 13 (.int (J v)) = some h' ∧ WRk h' w σ c v ∧ Ot w (w + 9) h h' := by
  obtain ⟨A, I, C, S, K⟩ := W
  obtain ⟨h', e1, C1, O1⟩ := wc_p13 C (J v)
  refine ⟨h', e1, ⟨_, _, C1, ⟨?_, S.2⟩, ?_⟩, O1⟩
  · simpa using S.1
  · simpa using K.1
theorem wk_s0 (W : WRk h w σ c b) {i : Nat} (hi : i < 6) (v : Nat) : ∃ h', sI h 0 (w + 1) (J i) (J v) = some h' ∧ WRk h' w (put σ 0 i v) c b ∧ Ot w (w + 9) h h' := by
  obtain ⟨A, I, C, S, K⟩ := W
  obtain ⟨h', e1, C1, O1⟩ := wc_s0 C hi (J v)
  refine ⟨h', e1, ⟨_, _, C1, ⟨(by simpa [put] using S.1), ?_, (by simpa [put] using S.2.2.1), (by simpa [put] using S.2.2.2.1), (by simpa [put] using S.2.2.2.2.1), (by simpa [put] using S.2.2.2.2.2.1), (by simpa [put] using S.2.2.2.2.2.2.1), (by simpa [put] using S.2.2.2.2.2.2.2.1), (by simpa [put] using S.2.2.2.2.2.2.2.2)⟩, K⟩, O1⟩
  intro o ho
  by_cases e : o = i
  · subst e; simp [put]
  · simpa [put, e] using S.2.1 o ho
theorem wk_s2 (W : WRk h w σ c b) {i : Nat} (hi : i < 24) (v : Nat) : ∃ h', sI h 0 (w + 3) (J i) (J v) = some h' ∧ WRk h' w (put σ 7 i v) c b ∧ Ot w (w + 9) h h' := by
  obtain ⟨A, I, C, S, K⟩ := W
  obtain ⟨h', e1, C1, O1⟩ := wc_s2 C hi (J v)
  refine ⟨h', e1, ⟨_, _, C1, ⟨(by simpa [put] using S.1), (by simpa [put] using S.2.1), (by simpa [put] using S.2.2.1), ?_, (by simpa [put] using S.2.2.2.2.1), (by simpa [put] using S.2.2.2.2.2.1), (by simpa [put] using S.2.2.2.2.2.2.1), (by simpa [put] using S.2.2.2.2.2.2.2.1), (by simpa [put] using S.2.2.2.2.2.2.2.2)⟩, K⟩, O1⟩
  intro o ho
  by_cases e : o = i
  · subst e; simp [put]
  · simpa [put, e] using S.2.2.2.1 o ho
theorem wk_s3 (W : WRk h w σ c b) {i : Nat} (hi : i < 24) (v : Nat) : ∃ h', sI h 0 (w + 4) (J i) (J v) = some h' ∧ WRk h' w (put σ 4 i v) c b ∧ Ot w (w + 9) h h' := by
  obtain ⟨A, I, C, S, K⟩ := W
  obtain ⟨h', e1, C1, O1⟩ := wc_s3 C hi (J v)
  refine ⟨h', e1, ⟨_, _, C1, ⟨(by simpa [put] using S.1), (by simpa [put] using S.2.1), (by simpa [put] using S.2.2.1), (by simpa [put] using S.2.2.2.1), ?_, (by simpa [put] using S.2.2.2.2.2.1), (by simpa [put] using S.2.2.2.2.2.2.1), (by simpa [put] using S.2.2.2.2.2.2.2.1), (by simpa [put] using S.2.2.2.2.2.2.2.2)⟩, K⟩, O1⟩
  intro o ho
  by_cases e : o = i
  · subst e; simp [put]
  · simpa [put, e] using S.2.2.2.2.1 o ho
theorem wk_s4 (W : WRk h w σ c b) {i : Nat} (hi : i < 24) (v : Nat) : ∃ h', sI h 0 (w + 5) (J i) (J v) = some h' ∧ WRk h' w (put σ 5 i v) c b ∧ Ot w (w + 9) h h' := by
  obtain ⟨A, I, C, S, K⟩ := W
  obtain ⟨h', e1, C1, O1⟩ := wc_s4 C hi (J v)
  refine ⟨h', e1, ⟨_, _, C1, ⟨(by simpa [put] using S.1), (by simpa [put] using S.2.1), (by simpa [put] using S.2.2.1), (by simpa [put] using S.2.2.2.1), (by simpa [put] using S.2.2.2.2.1), ?_, (by simpa [put] using S.2.2.2.2.2.2.1), (by simpa [put] using S.2.2.2.2.2.2.2.1), (by simpa [put] using S.2.2.2.2.2.2.2.2)⟩, K⟩, O1⟩
  intro o ho
  by_cases e : o = i
  · subst e; simp [put]
  · simpa [put, e] using S.2.2.2.2.2.1 o ho
/-- held bits that only become fewer -/
theorem wk_s1 (W : WRk h w σ c b) {i : Nat} (hi : i < 24) (v : Nat) (hv : ∀ p, v.testBit p = true → (σ 8 i).testBit p = true) : ∃ h', sI h 0 (w + 2) (J i) (J v) = some h' ∧ WRk h' w (put σ 8 i v) c b ∧ Ot w (w + 9) h h' := by
  obtain ⟨A, I, C, S, K⟩ := W
  obtain ⟨h', e1, C1, O1⟩ := wc_s1 C hi (J v)
  refine ⟨h', e1, ⟨_, _, C1, ⟨(by simpa [put] using S.1), (by simpa [put] using S.2.1), ?_, (by simpa [put] using S.2.2.2.1), (by simpa [put] using S.2.2.2.2.1), (by simpa [put] using S.2.2.2.2.2.1), (by simpa [put] using S.2.2.2.2.2.2.1), (by simpa [put] using S.2.2.2.2.2.2.2.1), ?_⟩, K⟩, O1⟩
  · intro o ho
    by_cases e : o = i
    · subst e; simp [put]
    · simpa [put, e] using S.2.2.1 o ho
  · intro o p ho hp hb
    have hb' : (σ 8 o).testBit p = true := by
      by_cases e : o = i
      · subst e
        rw [put_eq] at hb
        exact hv p hb
      · rwa [put_k e] at hb
    have := S.2.2.2.2.2.2.2.2 o p ho hp hb'
    simpa [put] using this
/-- the digit of one that is there -/
theorem wk_s6 (W : WRk h w σ c b) {i : Nat} (hi : i < 24) (v : Nat) : ∃ h', sI h 0 (w + 7) (J i) (J v) = some h' ∧ WRk h' w (put σ 3 i v) c b ∧ Ot w (w + 9) h h' := by
  obtain ⟨A, I, C, S, K⟩ := W
  obtain ⟨h', e1, C1, O1⟩ := wc_s6 C hi (J v)
  refine ⟨h', e1, ⟨_, _, C1, ⟨(by simpa [put] using S.1), (by simpa [put] using S.2.1), (by simpa [put] using S.2.2.1), (by simpa [put] using S.2.2.2.1), (by simpa [put] using S.2.2.2.2.1), (by simpa [put] using S.2.2.2.2.2.1), (by simpa [put] using S.2.2.2.2.2.2.1), ?_, (by simpa [put] using S.2.2.2.2.2.2.2.2)⟩, K⟩, O1⟩
  intro o ho h4
  by_cases e : o = i
  · subst e; simp [put]
  · simpa [put, e] using S.2.2.2.2.2.2.2.1 o ho (by simpa [put] using h4)
/-- a page held, and its value -/
theorem wk_hold (W : WRk h w σ c b) {o p v : Nat} (ho : o < 24) (hp : p < 8) : ∃ h1 h2, sI h 0 (w + 2) (J o) (J (bset (σ 8 o) p)) = some h1 ∧ WC1 h1 w ∧ sI h1 0 (w + 8) (J (8 * o + p)) (J v) = some h2 ∧ WRk h2 w (put (put σ 8 o (bset (σ 8 o) p)) 6 (8 * o + p) v) c b ∧ Ot w (w + 9) h h2 := by
  obtain ⟨A, I, C, S, K⟩ := W
  obtain ⟨h1, e1, C1, O1⟩ := wc_s1 C ho (J (bset (σ 8 o) p))
  obtain ⟨h2, e2, C2, O2⟩ := wc_s7 C1 (show 8 * o + p < 192 by omega) (J v)
  refine ⟨h1, h2, e1, ⟨_, _, C1⟩, e2, ⟨_, _, C2, ⟨(by simpa [put] using S.1), (by simpa [put] using S.2.1), ?_, (by simpa [put] using S.2.2.2.1), (by simpa [put] using S.2.2.2.2.1), (by simpa [put] using S.2.2.2.2.2.1), (by simpa [put] using S.2.2.2.2.2.2.1), (by simpa [put] using S.2.2.2.2.2.2.2.1), ?_⟩, K⟩, O1.trans O2⟩
  · intro o' ho'
    by_cases e : o' = o
    · subst e; simp [put]
    · simpa [put, e] using S.2.2.1 o' ho'
  · intro o' p' ho' hp' hb
    by_cases e : 8 * o' + p' = 8 * o + p
    · simp [put, e]
    · have hb' : (σ 8 o').testBit p' = true := by
        by_cases e2 : o' = o
        · subst e2
          rw [put_f (by decide), put_eq, bset_tb, decide_eq_false (show ¬ p' = p by omega), Bool.or_false] at hb
          exact hb
        · simpa [put, e2] using hb
      have := S.2.2.2.2.2.2.2.2 o' p' ho' hp' hb'
      simpa [put, e] using this

end WK
