/-! writing into a world of the reference -/
theorem wa_s {h : AH} {A n i : Nat} {a : Nat → Int32} (C : h.1 A = some (.inl (0, n, .inl a))) (hi : i < n) (hn : n ≤ 2147483648) (x : Int32) : ∃ h', sI h 0 A (J i) x = some h' ∧ h'.1 A = some (.inl (0, n, .inl (fun j => if j = i then x else a j))) ∧ Ot A (A + 1) h h' := by
  refine ⟨_, sI_at C hi hn, ?_, Ot_hset ⟨Nat.le_refl _, by omega⟩⟩
  rw [hset_eq]
  congr 5
def SE (σ τ : ST) : Prop := (∀ k, τ 0 k = σ 0 k) ∧ (τ 1 0 = σ 1 0 ∧ τ 1 3 = σ 1 3) ∧ (∀ k, τ 2 k = σ 2 k) ∧ (∀ k, τ 3 k = σ 3 k) ∧ (∀ k, τ 4 k = σ 4 k) ∧ (∀ k, τ 5 k = σ 5 k) ∧ (∀ k, τ 6 k = σ 6 k) ∧ (∀ k, τ 7 k = σ 7 k) ∧ (∀ k, τ 8 k = σ 8 k)
theorem put_put {σ : ST} {f k v w : Nat} : put (put σ f k v) f k w = put σ f k w := by
  funext f' k'
  unfold put
  by_cases e : f' = f ∧ k' = k
  · rw [if_pos e, if_pos e]
  · rw [if_neg e, if_neg e, if_neg e]
theorem put_id {σ : ST} {f k v : Nat} (h : σ f k = v) : put σ f k v = σ := by
  funext f' k'
  unfold put
  by_cases e : f' = f ∧ k' = k
  · rw [if_pos e, e.1, e.2, h]
  · rw [if_neg e]
section RW
variable {h : AH} {A : Nat} {σ τ : ST}
theorem RA.frame {h' : AH} {lo hi : Nat} (W : RA h A σ) (O : Ot lo hi h h') (hA : A < lo ∨ hi ≤ A) : RA h' A σ := by
  obtain ⟨a, C, S⟩ := W
  exact ⟨a, (O.2 A (by omega)).trans C, S⟩
theorem RA.cg (W : RA h A σ) (e : SE σ τ) : RA h A τ := by
  obtain ⟨a, C, S⟩ := W
  obtain ⟨e0, ⟨e10, e13⟩, e2, e3, e4, e5, e6, e7, e8⟩ := e
  refine ⟨a, C, fun o p ho hp => ?_, fun o ho => ?_, fun o ho => ?_, fun o ho => ?_, fun o ho => ?_, fun o ho => ?_, fun o ho => ?_, fun o ho => ?_, ?_⟩
  · rw [S.1 o p ho hp]; unfold pv; rw [e8, e6]
  · rw [S.2.1 o ho, e4]
  · rw [S.2.2.1 o ho]; unfold pr; rw [e2]
  · rw [S.2.2.2.1 o ho, e3]
  · rw [S.2.2.2.2.1 o ho, e5]
  · rw [S.2.2.2.2.2.1 o ho, e7]
  · rw [S.2.2.2.2.2.2.1 o ho, e0]
  · rw [S.2.2.2.2.2.2.2.1 o ho]; unfold sb; rw [e10]
  · rw [S.2.2.2.2.2.2.2.2, e13]

theorem rw_sh (W : RA h A σ) {o : Nat} (ho : o < 24) (x : Nat) : ∃ h', sI h 0 A (J (192 + o)) (J (nn x)) = some h' ∧ RA h' A (put σ 4 o x) ∧ Ot A (A + 1) h h' := by
  obtain ⟨a, C, S⟩ := W
  obtain ⟨h', e1, C1, O1⟩ := wa_s C (show 192 + o < 325 by omega) (by decide) (J (nn x))
  refine ⟨h', e1, ⟨_, C1, ?_, ?_, ?_, ?_, ?_, ?_, ?_, ?_, ?_⟩, O1⟩
  · intro o' p' ho' hp'; dsimp only; rw [if_neg (by omega), S.1 o' p' ho' hp']; simp [pv, put]
  · intro o' ho'
    dsimp only
    by_cases e : o' = o
    · subst e; rw [if_pos rfl]; simp [put, pr]
    · rw [if_neg (by omega), S.2.1 o' ho']; simp [put, pr, e]
  · intro o' ho'; dsimp only; rw [if_neg (by omega), S.2.2.1 o' ho']; simp [put, pr, sb]
  · intro o' ho'; dsimp only; rw [if_neg (by omega), S.2.2.2.1 o' ho']; simp [put, pr, sb]
  · intro o' ho'; dsimp only; rw [if_neg (by omega), S.2.2.2.2.1 o' ho']; simp [put, pr, sb]
  · intro o' ho'; dsimp only; rw [if_neg (by omega), S.2.2.2.2.2.1 o' ho']; simp [put, pr, sb]
  · intro o' ho'; dsimp only; rw [if_neg (by omega), S.2.2.2.2.2.2.1 o' ho']; simp [put, pr, sb]
  · intro o' ho'; dsimp only; rw [if_neg (by omega), S.2.2.2.2.2.2.2.1 o' ho']; simp [put, pr, sb]
  · dsimp only; rw [if_neg (by omega), S.2.2.2.2.2.2.2.2]; simp [put]
theorem rw_pr (W : RA h A σ) {o : Nat} (ho : o < 24) (x : Nat) : ∃ h', sI h 0 A (J (216 + o)) (J (if x < 4 then x else 4294967295)) = some h' ∧ RA h' A (put σ 2 o x) ∧ Ot A (A + 1) h h' := by
  obtain ⟨a, C, S⟩ := W
  obtain ⟨h', e1, C1, O1⟩ := wa_s C (show 216 + o < 325 by omega) (by decide) (J (if x < 4 then x else 4294967295))
  refine ⟨h', e1, ⟨_, C1, ?_, ?_, ?_, ?_, ?_, ?_, ?_, ?_, ?_⟩, O1⟩
  · intro o' p' ho' hp'; dsimp only; rw [if_neg (by omega), S.1 o' p' ho' hp']; simp [pv, put]
  · intro o' ho'; dsimp only; rw [if_neg (by omega), S.2.1 o' ho']; simp [put, pr, sb]
  · intro o' ho'
    dsimp only
    by_cases e : o' = o
    · subst e; rw [if_pos rfl]; simp [put, pr]
    · rw [if_neg (by omega), S.2.2.1 o' ho']; simp [put, pr, e]
  · intro o' ho'; dsimp only; rw [if_neg (by omega), S.2.2.2.1 o' ho']; simp [put, pr, sb]
  · intro o' ho'; dsimp only; rw [if_neg (by omega), S.2.2.2.2.1 o' ho']; simp [put, pr, sb]
  · intro o' ho'; dsimp only; rw [if_neg (by omega), S.2.2.2.2.2.1 o' ho']; simp [put, pr, sb]
  · intro o' ho'; dsimp only; rw [if_neg (by omega), S.2.2.2.2.2.2.1 o' ho']; simp [put, pr, sb]
  · intro o' ho'; dsimp only; rw [if_neg (by omega), S.2.2.2.2.2.2.2.1 o' ho']; simp [put, pr, sb]
  · dsimp only; rw [if_neg (by omega), S.2.2.2.2.2.2.2.2]; simp [put]
theorem rw_dg (W : RA h A σ) {o : Nat} (ho : o < 24) (x : Nat) : ∃ h', sI h 0 A (J (240 + o)) (J (x)) = some h' ∧ RA h' A (put σ 3 o x) ∧ Ot A (A + 1) h h' := by
  obtain ⟨a, C, S⟩ := W
  obtain ⟨h', e1, C1, O1⟩ := wa_s C (show 240 + o < 325 by omega) (by decide) (J (x))
  refine ⟨h', e1, ⟨_, C1, ?_, ?_, ?_, ?_, ?_, ?_, ?_, ?_, ?_⟩, O1⟩
  · intro o' p' ho' hp'; dsimp only; rw [if_neg (by omega), S.1 o' p' ho' hp']; simp [pv, put]
  · intro o' ho'; dsimp only; rw [if_neg (by omega), S.2.1 o' ho']; simp [put, pr, sb]
  · intro o' ho'; dsimp only; rw [if_neg (by omega), S.2.2.1 o' ho']; simp [put, pr, sb]
  · intro o' ho'
    dsimp only
    by_cases e : o' = o
    · subst e; rw [if_pos rfl]; simp [put, pr]
    · rw [if_neg (by omega), S.2.2.2.1 o' ho']; simp [put, pr, e]
  · intro o' ho'; dsimp only; rw [if_neg (by omega), S.2.2.2.2.1 o' ho']; simp [put, pr, sb]
  · intro o' ho'; dsimp only; rw [if_neg (by omega), S.2.2.2.2.2.1 o' ho']; simp [put, pr, sb]
  · intro o' ho'; dsimp only; rw [if_neg (by omega), S.2.2.2.2.2.2.1 o' ho']; simp [put, pr, sb]
  · intro o' ho'; dsimp only; rw [if_neg (by omega), S.2.2.2.2.2.2.2.1 o' ho']; simp [put, pr, sb]
  · dsimp only; rw [if_neg (by omega), S.2.2.2.2.2.2.2.2]; simp [put]
theorem rw_cp (W : RA h A σ) {o : Nat} (ho : o < 24) (x : Nat) : ∃ h', sI h 0 A (J (264 + o)) (J (nn x)) = some h' ∧ RA h' A (put σ 5 o x) ∧ Ot A (A + 1) h h' := by
  obtain ⟨a, C, S⟩ := W
  obtain ⟨h', e1, C1, O1⟩ := wa_s C (show 264 + o < 325 by omega) (by decide) (J (nn x))
  refine ⟨h', e1, ⟨_, C1, ?_, ?_, ?_, ?_, ?_, ?_, ?_, ?_, ?_⟩, O1⟩
  · intro o' p' ho' hp'; dsimp only; rw [if_neg (by omega), S.1 o' p' ho' hp']; simp [pv, put]
  · intro o' ho'; dsimp only; rw [if_neg (by omega), S.2.1 o' ho']; simp [put, pr, sb]
  · intro o' ho'; dsimp only; rw [if_neg (by omega), S.2.2.1 o' ho']; simp [put, pr, sb]
  · intro o' ho'; dsimp only; rw [if_neg (by omega), S.2.2.2.1 o' ho']; simp [put, pr, sb]
  · intro o' ho'
    dsimp only
    by_cases e : o' = o
    · subst e; rw [if_pos rfl]; simp [put, pr]
    · rw [if_neg (by omega), S.2.2.2.2.1 o' ho']; simp [put, pr, e]
  · intro o' ho'; dsimp only; rw [if_neg (by omega), S.2.2.2.2.2.1 o' ho']; simp [put, pr, sb]
  · intro o' ho'; dsimp only; rw [if_neg (by omega), S.2.2.2.2.2.2.1 o' ho']; simp [put, pr, sb]
  · intro o' ho'; dsimp only; rw [if_neg (by omega), S.2.2.2.2.2.2.2.1 o' ho']; simp [put, pr, sb]
  · dsimp only; rw [if_neg (by omega), S.2.2.2.2.2.2.2.2]; simp [put]
theorem rw_aw (W : RA h A σ) {o : Nat} (ho : o < 24) (x : Nat) : ∃ h', sI h 0 A (J (288 + o)) (J (x)) = some h' ∧ RA h' A (put σ 7 o x) ∧ Ot A (A + 1) h h' := by
  obtain ⟨a, C, S⟩ := W
  obtain ⟨h', e1, C1, O1⟩ := wa_s C (show 288 + o < 325 by omega) (by decide) (J (x))
  refine ⟨h', e1, ⟨_, C1, ?_, ?_, ?_, ?_, ?_, ?_, ?_, ?_, ?_⟩, O1⟩
  · intro o' p' ho' hp'; dsimp only; rw [if_neg (by omega), S.1 o' p' ho' hp']; simp [pv, put]
  · intro o' ho'; dsimp only; rw [if_neg (by omega), S.2.1 o' ho']; simp [put, pr, sb]
  · intro o' ho'; dsimp only; rw [if_neg (by omega), S.2.2.1 o' ho']; simp [put, pr, sb]
  · intro o' ho'; dsimp only; rw [if_neg (by omega), S.2.2.2.1 o' ho']; simp [put, pr, sb]
  · intro o' ho'; dsimp only; rw [if_neg (by omega), S.2.2.2.2.1 o' ho']; simp [put, pr, sb]
  · intro o' ho'
    dsimp only
    by_cases e : o' = o
    · subst e; rw [if_pos rfl]; simp [put, pr]
    · rw [if_neg (by omega), S.2.2.2.2.2.1 o' ho']; simp [put, pr, e]
  · intro o' ho'; dsimp only; rw [if_neg (by omega), S.2.2.2.2.2.2.1 o' ho']; simp [put, pr, sb]
  · intro o' ho'; dsimp only; rw [if_neg (by omega), S.2.2.2.2.2.2.2.1 o' ho']; simp [put, pr, sb]
  · dsimp only; rw [if_neg (by omega), S.2.2.2.2.2.2.2.2]; simp [put]
theorem rw_tp (W : RA h A σ) {o : Nat} (ho : o < 6) (x : Nat) : ∃ h', sI h 0 A (J (312 + o)) (J (nn x)) = some h' ∧ RA h' A (put σ 0 o x) ∧ Ot A (A + 1) h h' := by
  obtain ⟨a, C, S⟩ := W
  obtain ⟨h', e1, C1, O1⟩ := wa_s C (show 312 + o < 325 by omega) (by decide) (J (nn x))
  refine ⟨h', e1, ⟨_, C1, ?_, ?_, ?_, ?_, ?_, ?_, ?_, ?_, ?_⟩, O1⟩
  · intro o' p' ho' hp'; dsimp only; rw [if_neg (by omega), S.1 o' p' ho' hp']; simp [pv, put]
  · intro o' ho'; dsimp only; rw [if_neg (by omega), S.2.1 o' ho']; simp [put, pr, sb]
  · intro o' ho'; dsimp only; rw [if_neg (by omega), S.2.2.1 o' ho']; simp [put, pr, sb]
  · intro o' ho'; dsimp only; rw [if_neg (by omega), S.2.2.2.1 o' ho']; simp [put, pr, sb]
  · intro o' ho'; dsimp only; rw [if_neg (by omega), S.2.2.2.2.1 o' ho']; simp [put, pr, sb]
  · intro o' ho'; dsimp only; rw [if_neg (by omega), S.2.2.2.2.2.1 o' ho']; simp [put, pr, sb]
  · intro o' ho'
    dsimp only
    by_cases e : o' = o
    · subst e; rw [if_pos rfl]; simp [put, pr]
    · rw [if_neg (by omega), S.2.2.2.2.2.2.1 o' ho']; simp [put, pr, e]
  · intro o' ho'; dsimp only; rw [if_neg (by omega), S.2.2.2.2.2.2.2.1 o' ho']; simp [put, pr, sb]
  · dsimp only; rw [if_neg (by omega), S.2.2.2.2.2.2.2.2]; simp [put]
theorem rw_sr (W : RA h A σ) {o : Nat} (ho : o < 6) (x : Nat) (hx : ∀ t, t ≠ o → x.testBit t = (σ 1 0).testBit t) : ∃ h', sI h 0 A (J (318 + o)) (J (if x.testBit o = true then 1 else 0)) = some h' ∧ RA h' A (put σ 1 0 x) ∧ Ot A (A + 1) h h' := by
  obtain ⟨a, C, S⟩ := W
  obtain ⟨h', e1, C1, O1⟩ := wa_s C (show 318 + o < 325 by omega) (by decide) (J (if x.testBit o = true then 1 else 0))
  refine ⟨h', e1, ⟨_, C1, ?_, ?_, ?_, ?_, ?_, ?_, ?_, ?_, ?_⟩, O1⟩
  · intro o' p' ho' hp'; dsimp only; rw [if_neg (by omega), S.1 o' p' ho' hp']; simp [pv, put]
  · intro o' ho'; dsimp only; rw [if_neg (by omega), S.2.1 o' ho']; simp [put, pr, sb]
  · intro o' ho'; dsimp only; rw [if_neg (by omega), S.2.2.1 o' ho']; simp [put, pr, sb]
  · intro o' ho'; dsimp only; rw [if_neg (by omega), S.2.2.2.1 o' ho']; simp [put, pr, sb]
  · intro o' ho'; dsimp only; rw [if_neg (by omega), S.2.2.2.2.1 o' ho']; simp [put, pr, sb]
  · intro o' ho'; dsimp only; rw [if_neg (by omega), S.2.2.2.2.2.1 o' ho']; simp [put, pr, sb]
  · intro o' ho'; dsimp only; rw [if_neg (by omega), S.2.2.2.2.2.2.1 o' ho']; simp [put, pr, sb]
  · intro o' ho'
    dsimp only
    by_cases e : o' = o
    · subst e; rw [if_pos rfl]; simp [put, sb]
    · rw [if_neg (by omega), S.2.2.2.2.2.2.2.1 o' ho']; simp [put, sb, hx o' e]
  · dsimp only; rw [if_neg (by omega), S.2.2.2.2.2.2.2.2]; simp [put]
theorem rw_wr (W : RA h A σ) (x : Nat) : ∃ h', sI h 0 A (J 324) (J x) = some h' ∧ RA h' A (put σ 1 3 x) ∧ Ot A (A + 1) h h' := by
  obtain ⟨a, C, S⟩ := W
  obtain ⟨h', e1, C1, O1⟩ := wa_s C (show 324 < 325 by omega) (by decide) (J x)
  refine ⟨h', e1, ⟨_, C1, ?_, ?_, ?_, ?_, ?_, ?_, ?_, ?_, ?_⟩, O1⟩
  · intro o' p' ho' hp'; dsimp only; rw [if_neg (by omega), S.1 o' p' ho' hp']; simp [pv, put]
  · intro o' ho'; dsimp only; rw [if_neg (by omega), S.2.1 o' ho']; simp [put, pr, sb]
  · intro o' ho'; dsimp only; rw [if_neg (by omega), S.2.2.1 o' ho']; simp [put, pr, sb]
  · intro o' ho'; dsimp only; rw [if_neg (by omega), S.2.2.2.1 o' ho']; simp [put, pr, sb]
  · intro o' ho'; dsimp only; rw [if_neg (by omega), S.2.2.2.2.1 o' ho']; simp [put, pr, sb]
  · intro o' ho'; dsimp only; rw [if_neg (by omega), S.2.2.2.2.2.1 o' ho']; simp [put, pr, sb]
  · intro o' ho'; dsimp only; rw [if_neg (by omega), S.2.2.2.2.2.2.1 o' ho']; simp [put, pr, sb]
  · intro o' ho'; dsimp only; rw [if_neg (by omega), S.2.2.2.2.2.2.2.1 o' ho']; simp [put, pr, sb]
  · dsimp only; rw [if_pos rfl]; simp [put]
theorem rw_pg (W : RA h A σ) {o p : Nat} (ho : o < 24) (hp : p < 8) (v : Nat) : ∃ h', sI h 0 A (J (8 * o + p)) (J v) = some h' ∧ RA h' A (holdS σ o p v) ∧ Ot A (A + 1) h h' := by
  obtain ⟨a, C, S⟩ := W
  obtain ⟨h', e1, C1, O1⟩ := wa_s C (show 8 * o + p < 325 by omega) (by decide) (J v)
  refine ⟨h', e1, ⟨_, C1, ?_, ?_, ?_, ?_, ?_, ?_, ?_, ?_, ?_⟩, O1⟩
  · intro o' p' ho' hp'
    dsimp only
    by_cases e : 8 * o' + p' = 8 * o + p
    · have e1 : o' = o := by omega
      have e2 : p' = p := by omega
      subst e1 e2
      rw [if_pos rfl]
      simp [pv, holdS, put, bset_tb]
    · rw [if_neg e, S.1 o' p' ho' hp']
      by_cases e1 : o' = o
      · have e2 : ¬ p' = p := by omega
        subst e1
        have e3 : ¬ 8 * o' + p' = 8 * o' + p := by omega
        simp [pv, holdS, put, bset_tb, e2]
      · simp [pv, holdS, put, e, e1]
  · intro o' ho'; dsimp only; rw [if_neg (by omega), S.2.1 o' ho']; simp [holdS, put, pr, sb]
  · intro o' ho'; dsimp only; rw [if_neg (by omega), S.2.2.1 o' ho']; simp [holdS, put, pr, sb]
  · intro o' ho'; dsimp only; rw [if_neg (by omega), S.2.2.2.1 o' ho']; simp [holdS, put, pr, sb]
  · intro o' ho'; dsimp only; rw [if_neg (by omega), S.2.2.2.2.1 o' ho']; simp [holdS, put, pr, sb]
  · intro o' ho'; dsimp only; rw [if_neg (by omega), S.2.2.2.2.2.1 o' ho']; simp [holdS, put, pr, sb]
  · intro o' ho'; dsimp only; rw [if_neg (by omega), S.2.2.2.2.2.2.1 o' ho']; simp [holdS, put, pr, sb]
  · intro o' ho'; dsimp only; rw [if_neg (by omega), S.2.2.2.2.2.2.2.1 o' ho']; simp [holdS, put, pr, sb]
  · dsimp only; rw [if_neg (by omega), S.2.2.2.2.2.2.2.2]; simp [holdS, put]
theorem rw_no (W : RA h A σ) {o p : Nat} (ho : o < 24) (hp : p < 8) : ∃ h', sI h 0 A (J (8 * o + p)) (J 4294967295) = some h' ∧ RA h' A (put σ 8 o (bclr (σ 8 o) p)) ∧ Ot A (A + 1) h h' := by
  obtain ⟨a, C, S⟩ := W
  obtain ⟨h', e1, C1, O1⟩ := wa_s C (show 8 * o + p < 325 by omega) (by decide) (J 4294967295)
  refine ⟨h', e1, ⟨_, C1, ?_, ?_, ?_, ?_, ?_, ?_, ?_, ?_, ?_⟩, O1⟩
  · intro o' p' ho' hp'
    dsimp only
    by_cases e : 8 * o' + p' = 8 * o + p
    · have e1 : o' = o := by omega
      have e2 : p' = p := by omega
      subst e1 e2
      rw [if_pos rfl]
      simp [pv, put, bclr_tb]
    · rw [if_neg e, S.1 o' p' ho' hp']
      by_cases e1 : o' = o
      · have e2 : ¬ p' = p := by omega
        subst e1
        simp [pv, put, bclr_tb, e2]
      · simp [pv, put, e1]
  · intro o' ho'; dsimp only; rw [if_neg (by omega), S.2.1 o' ho']; simp [put, pr, sb]
  · intro o' ho'; dsimp only; rw [if_neg (by omega), S.2.2.1 o' ho']; simp [put, pr, sb]
  · intro o' ho'; dsimp only; rw [if_neg (by omega), S.2.2.2.1 o' ho']; simp [put, pr, sb]
  · intro o' ho'; dsimp only; rw [if_neg (by omega), S.2.2.2.2.1 o' ho']; simp [put, pr, sb]
  · intro o' ho'; dsimp only; rw [if_neg (by omega), S.2.2.2.2.2.1 o' ho']; simp [put, pr, sb]
  · intro o' ho'; dsimp only; rw [if_neg (by omega), S.2.2.2.2.2.2.1 o' ho']; simp [put, pr, sb]
  · intro o' ho'; dsimp only; rw [if_neg (by omega), S.2.2.2.2.2.2.2.1 o' ho']; simp [put, pr, sb]
  · dsimp only; rw [if_neg (by omega), S.2.2.2.2.2.2.2.2]; simp [put]
/-- the row as it is written when nothing changes -/
theorem rw_same (W : RA h A σ) {i : Nat} {x : Int32} (hi : i < 325) (e : aI h 0 A (J i) = some x) : ∃ h', sI h 0 A (J i) x = some h' ∧ RA h' A σ ∧ Ot A (A + 1) h h' := by
  obtain ⟨a, C, S⟩ := W
  obtain ⟨h', e1, C1, O1⟩ := wa_s C hi (by decide) x
  have e2 := aI_at (h := h) C hi (by decide)
  rw [e2] at e
  have e3 : a i = x := Option.some.inj e
  have e4 : (fun j => if j = i then x else a j) = a := by
    funext j
    by_cases hj : j = i
    · rw [if_pos hj, hj, e3]
    · rw [if_neg hj]
  rw [e4] at C1
  exact ⟨h', e1, ⟨a, C1, S⟩, O1⟩
/-- all pages below k let go -/
def bcs (n : Nat) : Nat → Nat
  | 0 => n
  | k + 1 => bclr (bcs n k) k
theorem bcs_tb (n i : Nat) : ∀ k, (bcs n k).testBit i = (n.testBit i && !decide (i < k))
  | 0 => by simp [bcs]
  | k + 1 => by
    unfold bcs
    rw [bclr_tb, bcs_tb n i k]
    by_cases h1 : i < k
    · simp [h1, show i < k + 1 by omega]
    · by_cases h2 : i = k
      · subst h2; simp
      · simp [h1, h2, show ¬ i < k + 1 by omega]
theorem bcs_8 {n : Nat} (hn : n < 256) : bcs n 8 = 0 := by
  apply Nat.eq_of_testBit_eq
  intro i
  rw [bcs_tb, Nat.zero_testBit]
  by_cases h1 : i < 8
  · simp [h1]
  · rw [tb_hi (n := 8) hn (by omega)]; rfl
def clrS (σ : ST) (o : Nat) : ST := put (put (put (put (put (put σ 8 o 0) 4 o 24) 2 o 4) 3 o 0) 5 o 24) 7 o 0
theorem m_clear (W : RA h A σ) {o : Nat} (ho : o < 24) (h8 : σ 8 o < 256) : ∃ h', fX11_clear h A (J o) = some h' ∧ RA h' A (clrS σ o) ∧ Ot A (A + 1) h h' := by
  unfold fX11_clear
  have key : ∀ (K : AH → Nat → Int32 → Option AH) m n k h, k + m = 8 → m < n → RA h A (put σ 8 o (bcs (σ 8 o) k)) → ∃ h', fX11_clear_L2 K n h A (J o) (J k) = K h' A (J o) ∧ RA h' A (put σ 8 o 0) ∧ Ot A (A + 1) h h' := by
    intro K m
    induction m with
    | zero =>
      intro n k h h1 h2 W
      obtain ⟨n, rfl⟩ : ∃ x, n = x + 1 := ⟨n - 1, by omega⟩
      have : k = 8 := by omega
      subst this
      rw [bcs_8 h8] at W
      refine ⟨h, ?_, W, Ot.rf⟩
      rw [fX11_clear_L2]
      simp (disch := omega) only [l_8, J_le]
      rw [if_pos (by omega)]
    | succ m ih =>
      intro n k h h1 h2 W
      obtain ⟨n, rfl⟩ : ∃ x, n = x + 1 := ⟨n - 1, by omega⟩
      obtain ⟨g1, e1, W1, O1⟩ := rw_no W ho (show k < 8 by omega)
      rw [put_put, put_eq] at W1
      obtain ⟨g2, e2, W2, O2⟩ := ih n (k + 1) g1 (by omega) (by omega) W1
      refine ⟨g2, ?_, W2, O1.trans O2⟩
      rw [fX11_clear_L2]
      simp (disch := omega) only [l_8, J_le]
      rw [if_neg (by omega)]
      simp (disch := omega) only [J_mul, J_add, l_1, neg_l1, e1, Option.bind_some, letF]
      exact e2
  rw [l_0]
  obtain ⟨g0, f0, W0, O0⟩ := key (fun h5 x3 x4 =>
      (sI h5 0 x3 (192 + x4) ((-1))).bind fun h6 =>
      (sI h6 0 x3 (216 + x4) ((-1))).bind fun h7 =>
      (sI h7 0 x3 (240 + x4) (J 0)).bind fun h8 =>
      (sI h8 0 x3 (264 + x4) ((-1))).bind fun h9 =>
      (sI h9 0 x3 (288 + x4) (J 0)).bind fun h10 =>
      some h10) 8 FU 0 h rfl (FU_gt (by decide)) (by rw [show bcs (σ 8 o) 0 = σ 8 o from rfl, put_id rfl]; exact W)
  obtain ⟨g1, f1, W1, O1⟩ := rw_sh W0 ho 24
  obtain ⟨g2, f2, W2, O2⟩ := rw_pr W1 ho 4
  obtain ⟨g3, f3, W3, O3⟩ := rw_dg W2 ho 0
  obtain ⟨g4, f4, W4, O4⟩ := rw_cp W3 ho 24
  obtain ⟨g5, f5, W5, O5⟩ := rw_aw W4 ho 0
  refine ⟨g5, ?_, W5, ((((O0.trans O1).trans O2).trans O3).trans O4).trans O5⟩
  rw [f0]
  rw [nn_24] at f1 f4
  rw [if_neg (by decide)] at f2
  simp (disch := omega) only [l_192, l_216, l_240, l_264, l_288, J_add, m1_J, f1, f2, f3, f4, f5, Option.bind_some]
theorem m_forget (W : RA h A σ) (R : RG σ) {o x : Nat} (ho : o < 24) (hx : x ≤ 24) : ∃ h', fX11_forgetCopy h A (J o) (J (nn x)) = some h' ∧ RA h' A (pasS σ o x 24) ∧ Ot A (A + 1) h h' := by
  unfold fX11_forgetCopy
  have key : ∀ m n k h, k + m = 24 → m < n → RA h A (pasS σ o x k) → ∃ h', fX11_forgetCopy_L2 n h A (J o) (J (nn x)) (J k) = some h' ∧ RA h' A (pasS σ o x 24) ∧ Ot A (A + 1) h h' := by
    intro m
    induction m with
    | zero =>
      intro n k h h1 h2 W
      obtain ⟨n, rfl⟩ : ∃ x, n = x + 1 := ⟨n - 1, by omega⟩
      have : k = 24 := by omega
      subst this
      refine ⟨h, ?_, W, Ot.rf⟩
      rw [fX11_forgetCopy_L2]
      simp (disch := omega) only [l_24, J_le]
      rw [if_pos (by omega)]
    | succ m ih =>
      intro n k h h1 h2 W
      obtain ⟨n, rfl⟩ : ∃ x, n = x + 1 := ⟨n - 1, by omega⟩
      have hk : k < 24 := by omega
      have r1 := (R.2.2.1 k hk).2.2.2.1
      have r2 := nn_lt r1
      have e5 : pasS σ o x k 5 k = σ 5 k := by simp [pasS]
      have e1 : J k + 1 = J (k + 1) := by rw [l_1, J_add]
      rw [fX11_forgetCopy_L2]
      simp (disch := omega) only [l_24, J_le]
      rw [if_neg (by omega)]
      simp (disch := omega) only [l_264, J_add, ra_cp W, Option.bind_some, e5, J_inj, letF, e1, nn_eq ho r1]
      by_cases e : σ 5 k = o
      · obtain ⟨h3, e3, W3, O3⟩ := rw_cp W hk x
        rw [pas_succ_y hk e] at W3
        obtain ⟨h4, e4, W4, O4⟩ := ih n (k + 1) h3 (by omega) (by omega) W3
        refine ⟨h4, ?_, W4, O3.trans O4⟩
        rw [if_pos e, e3]
        exact e4
      · rw [pas_succ_n e] at W
        obtain ⟨h4, e4, W4, O4⟩ := ih n (k + 1) h (by omega) (by omega) W
        refine ⟨h4, ?_, W4, O4⟩
        rw [if_neg e]
        exact e4
  rw [l_0]
  exact key 24 FU 0 h rfl (FU_gt (by decide)) (by rw [pas_0]; exact W)
theorem m_remove (W : RA h A σ) (R : RG σ) {o x : Nat} (ho : o < 24) (hx : x ≤ 24) : ∃ h1 h', fX11_forgetCopy h A (J o) (J (nn x)) = some h1 ∧ fX11_clear h1 A (J o) = some h' ∧ RA h' A (remS σ o x) ∧ Ot A (A + 1) h h' := by
  obtain ⟨g1, e1, W1, O1⟩ := m_forget W R ho hx
  obtain ⟨g2, e2, W2, O2⟩ := m_clear W1 ho (by rw [pas_f (by decide)]; exact (R.2.2.1 o ho).2.2.2.2.2)
  refine ⟨g1, g2, e1, e2, W2.cg ?_, O1.trans O2⟩
  refine ⟨?_, ⟨?_, ?_⟩, ?_, ?_, ?_, ?_, ?_, ?_, ?_⟩ <;> (try intro k) <;> simp [remS, clrS, put]
end RW
/-! who is freed -/
def NZ (σ : ST) (a : Nat) : Prop := ∀ o, o < 24 → σ 2 o < 4 → o ≠ a → hol σ o ≠ 0
def mu (σ : ST) : Nat := cnt (fun o => decide (σ 2 o < 4)) 24
theorem hol_rem {σ : ST} {a x o : Nat} (h1 : o ≠ σ 4 a) (h2 : o < 24) : hol (remS σ a x) o = hol σ o := by
  unfold hol
  congr 1
  refine cnt_congr fun k _ => ?_
  by_cases e : k = a
  · subst e
    have e1 : remS σ k x 4 k = 24 := by simp [remS, put]
    rw [e1, decide_eq_false (by omega), decide_eq_false (by omega)]
  · have e1 : remS σ a x 4 k = σ 4 k := by simp [remS, put, pasS, e]
    rw [e1]
theorem mu_rem {σ : ST} {a x : Nat} (h1 : a < 24) (h2 : σ 2 a < 4) : mu σ = mu (remS σ a x) + 1 := by
  unfold mu
  refine cnt_upd (p := a) (decide_eq_false (by simp [remS, put])) (decide_eq_true h2) (fun i hi => ?_) h1
  simp [remS, put, pasS, hi]
theorem nz_rem {σ : ST} {a x : Nat} (h : NZ σ a) : NZ (remS σ a x) (σ 4 a) := by
  intro o h1 h2 h3
  have h4 : o ≠ a := by
    intro e
    subst e
    simp [remS, put] at h2
  rw [hol_rem h3 h1]
  refine h o h1 ?_ h4
  simpa [remS, put, pasS, h4] using h2
section GFR
variable {A : Nat}
theorem m_free_in (K : AH → Nat → Int32 → Int32 → Option (Int32 × AH)) : ∀ m n k h (σ : ST) a c fl, k + m = 24 → m < n → RA h A σ → RG σ → NZ σ a → c + mu σ ≤ 24 → ∃ j σ' a' h' fl', fX11_goFree_L12 K n h A (J c) (J fl) (J k) = K h' A (J (c + j)) (J fl') ∧ RA h' A σ' ∧ RG σ' ∧ NZ σ' a' ∧ Ot A (A + 1) h h' ∧ mu σ = mu σ' + j ∧ (∀ f, relS (f + j) σ a = ((relS f σ' a').1 + j, (relS f σ' a').2)) ∧ (j = 0 → fl' = fl ∧ σ' = σ ∧ a' = a ∧ ∀ o, k ≤ o → o < 24 → σ 2 o < 4 → hol σ o ≠ 0) ∧ (j ≠ 0 → fl' = 1)
  | 0, n + 1, k, h, σ, a, c, fl, h1, h2, W, R, N, hc => by
    refine ⟨0, σ, a, h, fl, ?_, W, R, N, Ot.rf, rfl, fun f => rfl, fun _ => ⟨rfl, rfl, rfl, fun o h3 h4 => absurd h4 (by omega)⟩, fun h9 => absurd rfl h9⟩
    rw [fX11_goFree_L12]
    simp (disch := omega) only [l_24, J_le]
    rw [if_pos (by omega)]
    rfl
  | m + 1, n + 1, k, h, σ, a, c, fl, h1, h2, W, R, N, hc => by
    have hk : k < 24 := by omega
    have e1 : J k + 1 = J (k + 1) := by rw [l_1, J_add]
    have e2 : J c + 1 = J (c + 1) := by rw [l_1, J_add]
    have q1 := hol_lt (σ := σ) (n := k)
    rw [fX11_goFree_L12]
    simp (disch := omega) only [l_24, J_le]
    rw [if_neg (by omega)]
    simp (disch := omega) only [m_there W R, Option.bind_some, letF, e1, e2]
    by_cases h3 : σ 2 k < 4
    · rw [decide_eq_true h3, if_pos rfl]
      simp (disch := omega) only [m_hol W R, Option.bind_some, l_0, J_le]
      by_cases h4 : hol σ k = 0
      · have ha : k = a := Classical.byContradiction fun hne => N k hk h3 hne h4
        subst ha
        obtain ⟨g1, g2, f1, f2, W2, O2⟩ := m_remove W R hk (x := 24) (Nat.le_refl _)
        have R2 := rg_rem R hk (x := 24) (Nat.le_refl _)
        have mu2 := mu_rem (x := 24) hk h3
        obtain ⟨j, σ', a', h', fl', i1, i2, i3, i4, i5, i6, i7, i8, i9⟩ := m_free_in K m n (k + 1) g2 (remS σ k 24) (σ 4 k) (c + 1) 1 (by omega) (by omega) W2 R2 (nz_rem N) (by omega)
        refine ⟨j + 1, σ', a', h', fl', ?_, i2, i3, i4, O2.trans i5, by omega, fun f => ?_, fun h9 => absurd h9 (by omega), fun _ => ?_⟩
        · rw [if_pos (by omega)]
          rw [nn_24, ← m1_J] at f1
          simp only [f1, f2, Option.bind_some]
          rw [l_1, i1, show c + 1 + j = c + (j + 1) by omega]
        · have := i7 f
          rw [show f + (j + 1) = (f + j) + 1 by omega]
          show (if ho σ k = true ∧ hol σ k = 0 then _ else _) = _
          rw [if_pos ⟨ho_of hk h3, h4⟩, this]
          rfl
        · by_cases hj : j = 0
          · exact (i8 hj).1
          · exact i9 hj
      · rw [if_neg (by omega)]
        obtain ⟨j, σ', a', h', fl', i1, i2, i3, i4, i5, i6, i7, i8, i9⟩ := m_free_in K m n (k + 1) h σ a c fl (by omega) (by omega) W R N hc
        refine ⟨j, σ', a', h', fl', i1, i2, i3, i4, i5, i6, i7, fun hj => ?_, i9⟩
        obtain ⟨k1, k2, k3, k4⟩ := i8 hj
        refine ⟨k1, k2, k3, fun o h5 h6 h7 => ?_⟩
        by_cases hok : o = k
        · subst hok; exact h4
        · exact k4 o (by omega) h6 h7
    · rw [decide_eq_false h3, if_neg (by decide)]
      obtain ⟨j, σ', a', h', fl', i1, i2, i3, i4, i5, i6, i7, i8, i9⟩ := m_free_in K m n (k + 1) h σ a c fl (by omega) (by omega) W R N hc
      refine ⟨j, σ', a', h', fl', i1, i2, i3, i4, i5, i6, i7, fun hj => ?_, i9⟩
      obtain ⟨k1, k2, k3, k4⟩ := i8 hj
      refine ⟨k1, k2, k3, fun o h5 h6 h7 => ?_⟩
      by_cases hok : o = k
      · subst hok; exact absurd h7 h3
      · exact k4 o (by omega) h6 h7
def HL (σ : ST) : Prop := ∀ o, o < 24 → σ 2 o < 4 → hol σ o ≠ 0
theorem rel_stop {σ : ST} (H : HL σ) (a f : Nat) : relS f σ a = (0, σ) := by
  cases f with
  | zero => rfl
  | succ f =>
    unfold relS
    rw [if_neg (fun z => H a (ho_lt z.1).1 (ho_lt z.1).2 z.2)]
theorem m_free_out : ∀ M n h (σ : ST) a c, mu σ ≤ M → M + 1 < n → RA h A σ → RG σ → NZ σ a → c + mu σ ≤ 24 → ∃ j σ' h', fX11_goFree_L4 n h A (J c) (J 1) = some (J (c + j), h') ∧ RA h' A σ' ∧ RG σ' ∧ HL σ' ∧ Ot A (A + 1) h h' ∧ mu σ = mu σ' + j ∧ ∀ f, relS (f + j) σ a = (j, σ') := by
  intro M
  induction M with
  | zero =>
    intro n h σ a c hM hn W R N hc
    obtain ⟨n, rfl⟩ : ∃ x, n = x + 1 + 1 := ⟨n - 2, by omega⟩
    obtain ⟨j, σ', a', h', fl', i1, i2, i3, i4, i5, i6, i7, i8, i9⟩ := m_free_in (fun h12 x9 x10 x11 => fX11_goFree_L4 (n + 1) h12 x9 x10 x11) 24 FU 0 h σ a c 0 rfl (FU_gt (by decide)) W R N hc
    have hj : j = 0 := by omega
    obtain ⟨k1, k2, k3, k4⟩ := i8 hj
    subst hj k1 k2 k3
    have H : HL σ' := fun o h1 h2 => k4 o (Nat.zero_le _) h1 h2
    refine ⟨0, σ', h', ?_, i2, R, H, i5, rfl, fun f => rel_stop H a' f⟩
    rw [fX11_goFree_L4]
    simp (disch := omega) only [l_0, J_inj]
    rw [if_neg (by decide), i1, fX11_goFree_L4]
    simp only [l_0, if_true]
  | succ M ih =>
    intro n h σ a c hM hn W R N hc
    obtain ⟨n, rfl⟩ : ∃ x, n = x + 1 + 1 := ⟨n - 2, by omega⟩
    obtain ⟨j, σ', a', h', fl', i1, i2, i3, i4, i5, i6, i7, i8, i9⟩ := m_free_in (fun h12 x9 x10 x11 => fX11_goFree_L4 (n + 1) h12 x9 x10 x11) 24 FU 0 h σ a c 0 rfl (FU_gt (by decide)) W R N hc
    by_cases hj : j = 0
    · obtain ⟨k1, k2, k3, k4⟩ := i8 hj
      subst hj k1 k2 k3
      have H : HL σ' := fun o h1 h2 => k4 o (Nat.zero_le _) h1 h2
      refine ⟨0, σ', h', ?_, i2, R, H, i5, rfl, fun f => rel_stop H a' f⟩
      rw [fX11_goFree_L4]
      simp (disch := omega) only [l_0, J_inj]
      rw [if_neg (by decide), i1, fX11_goFree_L4]
      simp only [l_0, if_true]
    · have hf := i9 hj
      subst hf
      obtain ⟨j2, σ2, h2, q1, q2, q3, q4, q5, q6, q7⟩ := ih (n + 1) h' σ' a' (c + j) (by omega) (by omega) i2 i3 i4 (by omega)
      refine ⟨j + j2, σ2, h2, ?_, q2, q3, q4, i5.trans q5, by omega, fun f => ?_⟩
      · rw [fX11_goFree_L4]
        simp (disch := omega) only [l_0, J_inj]
        rw [if_neg (by decide), i1, q1, Nat.add_assoc]
      · have := i7 (f + j2)
        rw [show f + (j + j2) = f + j2 + j by omega, this, q7 f]
        show (j2 + j, σ2) = _
        rw [Nat.add_comm j2 j]
theorem m_free {h : AH} {σ : ST} {a : Nat} (W : RA h A σ) (R : RG σ) (N : NZ σ a) : ∃ h', fX11_goFree h A = some (J (relS 24 σ a).1, h') ∧ RA h' A (relS 24 σ a).2 ∧ HL (relS 24 σ a).2 ∧ Ot A (A + 1) h h' := by
  have m1 : mu σ ≤ 24 := cnt_le
  obtain ⟨j, σ', h', q1, q2, q3, q4, q5, q6, q7⟩ := m_free_out (A := A) 24 FU h σ a 0 m1 (FU_gt (by decide)) W R N (by omega)
  have q8 := q7 (24 - j)
  rw [show 24 - j + j = 24 by omega] at q8
  rw [q8]
  refine ⟨h', ?_, q2, q4, q5⟩
  unfold fX11_goFree
  rw [Nat.zero_add] at q1
  rw [l_0, l_1]
  exact q1
end GFR
