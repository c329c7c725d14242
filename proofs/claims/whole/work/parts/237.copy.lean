/-! a rule always comes to a number; worlds copied; rows laid -/
theorem pzl_val {hr : Nat → Nat} (e : Nat → Int32) (rc : Nat → PR) {st : Nat} (hst : st = 2 ∨ st = 3) (hrc : ∀ a q, rc a = some q → q.2.2 = true → ∃ v, ∀ s, ev e q.1 s = v :: s) : ∀ n c a q, pzl rc st hr n c a = some q → q.2.2 = true → (∃ v, ∀ s, ev e c s = v :: s) → ∃ v, ∀ s, ev e q.1 s = v :: s
  | 0, c, a, q, h, _, _ => by cases h
  | n + 1, c, a, q, h, hok, hc => by
    unfold pzl at h
    by_cases h1 : stg (hr a) = st
    · rw [if_pos h1] at h
      obtain ⟨r, hr1, hr2⟩ := Option.bind_eq_some_iff.mp h
      by_cases h2 : r.2.2 = true
      · rw [if_pos h2] at hr2
        obtain ⟨v, hv⟩ := hc
        obtain ⟨v2, hv2⟩ := hrc _ _ hr1 h2
        refine pzl_val e rc hst hrc n _ _ q hr2 hok ⟨bnd (hr a) v v2, fun s => ?_⟩
        rw [ev_app, ev_app, hv, hv2, ev_one, nstep_b (by omega) (fun z => by rw [z] at h1; rcases hst with y | y <;> rw [y] at h1 <;> revert h1 <;> decide)]
      · rw [if_neg h2] at hr2
        cases hr2
        cases hok
    · rw [if_neg h1] at h
      cases h
      exact hc
theorem pz_val {hr : Nat → Nat} (e : Nat → Int32) : ∀ d k deep a q, k ≤ 3 → pz hr d k deep a = some q → q.2.2 = true → ∃ v, ∀ s, ev e q.1 s = v :: s := by
  intro d
  induction d with
  | zero => intro k deep a q _ h; cases h
  | succ d ih =>
    intro k deep a q hk h hok
    match k, hk, h with
    | 1, _, h =>
      obtain ⟨r, h1, h2⟩ := Option.bind_eq_some_iff.mp (pz_1.symm.trans h)
      by_cases h3 : r.2.2 = true
      · rw [if_pos h3] at h2
        exact pzl_val e _ (Or.inl rfl) (fun a q hq => ih 2 deep a q (by omega) hq) _ _ _ q h2 hok (ih 2 deep a r (by omega) h1 h3)
      · rw [if_neg h3] at h2
        cases h2
        exact absurd hok h3
    | 2, _, h =>
      obtain ⟨r, h1, h2⟩ := Option.bind_eq_some_iff.mp (pz_2.symm.trans h)
      by_cases h3 : r.2.2 = true
      · rw [if_pos h3] at h2
        exact pzl_val e _ (Or.inr rfl) (fun a q hq => ih 3 deep a q (by omega) hq) _ _ _ q h2 hok (ih 3 deep a r (by omega) h1 h3)
      · rw [if_neg h3] at h2
        cases h2
        exact absurd hok h3
    | 0, _, h =>
      obtain ⟨r, h1, h2⟩ := Option.bind_eq_some_iff.mp (pz_0.symm.trans h)
      by_cases h3 : r.2.2 = true
      · rw [if_pos h3] at h2
        have p1 := ih 1 deep a r (by omega) h1 h3
        by_cases h4 : stg (hr r.2.1) = 1
        · rw [if_pos h4] at h2
          obtain ⟨u, h5, h6⟩ := Option.bind_eq_some_iff.mp h2
          cases h6
          obtain ⟨v, hv⟩ := p1
          obtain ⟨v2, hv2⟩ := ih 1 deep _ u (by omega) h5 hok
          refine ⟨bnd (hr r.2.1) v v2, fun s => ?_⟩
          show ev e (r.1 ++ u.1 ++ [1000 + hr r.2.1]) s = _
          rw [ev_app, ev_app, hv, hv2, ev_one, nstep_b (by omega) (fun z => by rw [z] at h4; revert h4; decide)]
        · rw [if_neg h4] at h2
          cases h2
          exact p1
      · rw [if_neg h3] at h2
        cases h2
        exact absurd hok h3
    | 3, _, h =>
      have h' := pz_3.symm.trans h
      by_cases h1 : hr a = 45
      · rw [if_pos h1] at h'
        obtain ⟨u, h5, h6⟩ := Option.bind_eq_some_iff.mp h'
        cases h6
        obtain ⟨v, hv⟩ := ih 3 deep _ u (by omega) h5 hok
        refine ⟨-v, fun s => ?_⟩
        show ev e (u.1 ++ [1126]) s = _
        rw [ev_app, hv, ev_one]
        rfl
      · rw [if_neg h1] at h'
        by_cases h2 : hr a = 40 ∧ deep < 4
        · rw [if_pos h2] at h'
          obtain ⟨u, h5, h6⟩ := Option.bind_eq_some_iff.mp h'
          by_cases h3 : u.2.2 = true
          · rw [if_pos h3] at h6
            have p1 := ih 0 _ _ u (by omega) h5 h3
            split at h6
            · cases h6; exact p1
            · cases h6; exact p1
          · rw [if_neg h3] at h6
            cases h6
            exact absurd hok h3
        · rw [if_neg h2] at h'
          by_cases h3 : dgc (hr a) = true
          · rw [if_pos h3] at h'
            cases h'
            refine ⟨J (nval hr a), fun s => ?_⟩
            have hv : nval hr a < 1000 := by
              have q1 := dgc_r h3
              unfold nval
              split
              · rename_i d1
                have q2 := dgc_r d1
                split
                · rename_i d2
                  have q3 := dgc_r d2
                  omega
                · omega
              · omega
            show ev e [nval hr a] s = _
            rw [ev_one]
            unfold nstep
            rw [if_pos hv]
          · rw [if_neg h3] at h'
            by_cases h4 : ltc (hr a) = true
            · rw [if_pos h4] at h'
              cases h'
              refine ⟨e (hr a), fun s => ?_⟩
              show ev e [1000 + hr a] s = _
              rw [ev_one]
              unfold nstep
              have s0 : stg (hr a) = 0 := by
                rcases ltc_v.mp h4 with z | z | z | z | z | z | z <;> rw [z] <;> decide
              have n126 : hr a ≠ 126 := by
                rcases ltc_v.mp h4 with z | z | z | z | z | z | z <;> rw [z] <;> decide
              rw [if_neg (by omega), if_neg (by omega), Nat.add_sub_cancel_left, if_neg (by omega)]
            · rw [if_neg h4] at h'
              cases h'
              cases hok
theorem rlr_good {C : List Nat} {ρ : Nat → Nat} {n : Nat} (L : RLR C ρ n) : GR1 C := by
  refine ⟨rlr_pc L, fun e => ?_⟩
  rcases L with ⟨-, rfl⟩ | ⟨h1, h2, h3, h4⟩
  · exact ⟨_, rfl⟩
  · obtain ⟨v, hv⟩ := pz_val e RD 0 0 0 _ (by omega) h4 rfl
    exact ⟨v, hv []⟩
section CC
variable {h : AH} {w u : Nat} {σ : ST}

theorem wc_ac0 {A : Nat → Nat → Int32} {I : Nat → Int32} (C : WC h w A I) {x : Nat} {f : Nat → Int32} (hx : h.1 x = some (.inl (0, 6, .inl f))) : ∃ h', acI h x 0 (w + 1) 0 6 = some h' ∧ WC h' w (fun k j => if k = 0 ∧ j < 6 then f j else A k j) I ∧ Ot w (w + 9) h h' := by
  have e : acI h x 0 (w + 1) 0 6 = some (hset h (w + 1) (.inl (0, 6, .inl (va_cpy f (A 0) 0 0 6)))) := by
    unfold acI
    rw [hx, C.2.1]
    rfl
  refine ⟨_, e, ⟨(hset_ne (by omega)).trans C.1, ?_, (hset_ne (by omega)).trans C.2.2.1, (hset_ne (by omega)).trans C.2.2.2.1, (hset_ne (by omega)).trans C.2.2.2.2.1, (hset_ne (by omega)).trans C.2.2.2.2.2.1, (hset_ne (by omega)).trans C.2.2.2.2.2.2.1, (hset_ne (by omega)).trans C.2.2.2.2.2.2.2.1, (hset_ne (by omega)).trans C.2.2.2.2.2.2.2.2⟩, Ot_hset ⟨by omega, by omega⟩⟩
  rw [hset_eq]
  congr 5
  funext j
  unfold va_cpy
  show (if 0 ≤ j ∧ j < 0 + 6 then f (0 + (j - 0)) else A 0 j) = (if 0 = 0 ∧ j < 6 then f j else A 0 j)
  by_cases hj : j < 6
  · rw [if_pos ⟨Nat.zero_le _, by omega⟩, if_pos ⟨rfl, hj⟩, Nat.sub_zero, Nat.zero_add]
  · rw [if_neg (by omega), if_neg (fun z => hj z.2)]
theorem wc_ac1 {A : Nat → Nat → Int32} {I : Nat → Int32} (C : WC h w A I) {x : Nat} {f : Nat → Int32} (hx : h.1 x = some (.inl (0, 24, .inl f))) : ∃ h', acI h x 0 (w + 2) 0 24 = some h' ∧ WC h' w (fun k j => if k = 1 ∧ j < 24 then f j else A k j) I ∧ Ot w (w + 9) h h' := by
  have e : acI h x 0 (w + 2) 0 24 = some (hset h (w + 2) (.inl (0, 24, .inl (va_cpy f (A 1) 0 0 24)))) := by
    unfold acI
    rw [hx, C.2.2.1]
    rfl
  refine ⟨_, e, ⟨(hset_ne (by omega)).trans C.1, (hset_ne (by omega)).trans C.2.1, ?_, (hset_ne (by omega)).trans C.2.2.2.1, (hset_ne (by omega)).trans C.2.2.2.2.1, (hset_ne (by omega)).trans C.2.2.2.2.2.1, (hset_ne (by omega)).trans C.2.2.2.2.2.2.1, (hset_ne (by omega)).trans C.2.2.2.2.2.2.2.1, (hset_ne (by omega)).trans C.2.2.2.2.2.2.2.2⟩, Ot_hset ⟨by omega, by omega⟩⟩
  rw [hset_eq]
  congr 5
  funext j
  unfold va_cpy
  show (if 0 ≤ j ∧ j < 0 + 24 then f (0 + (j - 0)) else A 1 j) = (if 1 = 1 ∧ j < 24 then f j else A 1 j)
  by_cases hj : j < 24
  · rw [if_pos ⟨Nat.zero_le _, by omega⟩, if_pos ⟨rfl, hj⟩, Nat.sub_zero, Nat.zero_add]
  · rw [if_neg (by omega), if_neg (fun z => hj z.2)]
theorem wc_ac2 {A : Nat → Nat → Int32} {I : Nat → Int32} (C : WC h w A I) {x : Nat} {f : Nat → Int32} (hx : h.1 x = some (.inl (0, 24, .inl f))) : ∃ h', acI h x 0 (w + 3) 0 24 = some h' ∧ WC h' w (fun k j => if k = 2 ∧ j < 24 then f j else A k j) I ∧ Ot w (w + 9) h h' := by
  have e : acI h x 0 (w + 3) 0 24 = some (hset h (w + 3) (.inl (0, 24, .inl (va_cpy f (A 2) 0 0 24)))) := by
    unfold acI
    rw [hx, C.2.2.2.1]
    rfl
  refine ⟨_, e, ⟨(hset_ne (by omega)).trans C.1, (hset_ne (by omega)).trans C.2.1, (hset_ne (by omega)).trans C.2.2.1, ?_, (hset_ne (by omega)).trans C.2.2.2.2.1, (hset_ne (by omega)).trans C.2.2.2.2.2.1, (hset_ne (by omega)).trans C.2.2.2.2.2.2.1, (hset_ne (by omega)).trans C.2.2.2.2.2.2.2.1, (hset_ne (by omega)).trans C.2.2.2.2.2.2.2.2⟩, Ot_hset ⟨by omega, by omega⟩⟩
  rw [hset_eq]
  congr 5
  funext j
  unfold va_cpy
  show (if 0 ≤ j ∧ j < 0 + 24 then f (0 + (j - 0)) else A 2 j) = (if 2 = 2 ∧ j < 24 then f j else A 2 j)
  by_cases hj : j < 24
  · rw [if_pos ⟨Nat.zero_le _, by omega⟩, if_pos ⟨rfl, hj⟩, Nat.sub_zero, Nat.zero_add]
  · rw [if_neg (by omega), if_neg (fun z => hj z.2)]
theorem wc_ac3 {A : Nat → Nat → Int32} {I : Nat → Int32} (C : WC h w A I) {x : Nat} {f : Nat → Int32} (hx : h.1 x = some (.inl (0, 24, .inl f))) : ∃ h', acI h x 0 (w + 4) 0 24 = some h' ∧ WC h' w (fun k j => if k = 3 ∧ j < 24 then f j else A k j) I ∧ Ot w (w + 9) h h' := by
  have e : acI h x 0 (w + 4) 0 24 = some (hset h (w + 4) (.inl (0, 24, .inl (va_cpy f (A 3) 0 0 24)))) := by
    unfold acI
    rw [hx, C.2.2.2.2.1]
    rfl
  refine ⟨_, e, ⟨(hset_ne (by omega)).trans C.1, (hset_ne (by omega)).trans C.2.1, (hset_ne (by omega)).trans C.2.2.1, (hset_ne (by omega)).trans C.2.2.2.1, ?_, (hset_ne (by omega)).trans C.2.2.2.2.2.1, (hset_ne (by omega)).trans C.2.2.2.2.2.2.1, (hset_ne (by omega)).trans C.2.2.2.2.2.2.2.1, (hset_ne (by omega)).trans C.2.2.2.2.2.2.2.2⟩, Ot_hset ⟨by omega, by omega⟩⟩
  rw [hset_eq]
  congr 5
  funext j
  unfold va_cpy
  show (if 0 ≤ j ∧ j < 0 + 24 then f (0 + (j - 0)) else A 3 j) = (if 3 = 3 ∧ j < 24 then f j else A 3 j)
  by_cases hj : j < 24
  · rw [if_pos ⟨Nat.zero_le _, by omega⟩, if_pos ⟨rfl, hj⟩, Nat.sub_zero, Nat.zero_add]
  · rw [if_neg (by omega), if_neg (fun z => hj z.2)]
theorem wc_ac4 {A : Nat → Nat → Int32} {I : Nat → Int32} (C : WC h w A I) {x : Nat} {f : Nat → Int32} (hx : h.1 x = some (.inl (0, 24, .inl f))) : ∃ h', acI h x 0 (w + 5) 0 24 = some h' ∧ WC h' w (fun k j => if k = 4 ∧ j < 24 then f j else A k j) I ∧ Ot w (w + 9) h h' := by
  have e : acI h x 0 (w + 5) 0 24 = some (hset h (w + 5) (.inl (0, 24, .inl (va_cpy f (A 4) 0 0 24)))) := by
    unfold acI
    rw [hx, C.2.2.2.2.2.1]
    rfl
  refine ⟨_, e, ⟨(hset_ne (by omega)).trans C.1, (hset_ne (by omega)).trans C.2.1, (hset_ne (by omega)).trans C.2.2.1, (hset_ne (by omega)).trans C.2.2.2.1, (hset_ne (by omega)).trans C.2.2.2.2.1, ?_, (hset_ne (by omega)).trans C.2.2.2.2.2.2.1, (hset_ne (by omega)).trans C.2.2.2.2.2.2.2.1, (hset_ne (by omega)).trans C.2.2.2.2.2.2.2.2⟩, Ot_hset ⟨by omega, by omega⟩⟩
  rw [hset_eq]
  congr 5
  funext j
  unfold va_cpy
  show (if 0 ≤ j ∧ j < 0 + 24 then f (0 + (j - 0)) else A 4 j) = (if 4 = 4 ∧ j < 24 then f j else A 4 j)
  by_cases hj : j < 24
  · rw [if_pos ⟨Nat.zero_le _, by omega⟩, if_pos ⟨rfl, hj⟩, Nat.sub_zero, Nat.zero_add]
  · rw [if_neg (by omega), if_neg (fun z => hj z.2)]
theorem wc_ac5 {A : Nat → Nat → Int32} {I : Nat → Int32} (C : WC h w A I) {x : Nat} {f : Nat → Int32} (hx : h.1 x = some (.inl (0, 24, .inl f))) : ∃ h', acI h x 0 (w + 6) 0 24 = some h' ∧ WC h' w (fun k j => if k = 5 ∧ j < 24 then f j else A k j) I ∧ Ot w (w + 9) h h' := by
  have e : acI h x 0 (w + 6) 0 24 = some (hset h (w + 6) (.inl (0, 24, .inl (va_cpy f (A 5) 0 0 24)))) := by
    unfold acI
    rw [hx, C.2.2.2.2.2.2.1]
    rfl
  refine ⟨_, e, ⟨(hset_ne (by omega)).trans C.1, (hset_ne (by omega)).trans C.2.1, (hset_ne (by omega)).trans C.2.2.1, (hset_ne (by omega)).trans C.2.2.2.1, (hset_ne (by omega)).trans C.2.2.2.2.1, (hset_ne (by omega)).trans C.2.2.2.2.2.1, ?_, (hset_ne (by omega)).trans C.2.2.2.2.2.2.2.1, (hset_ne (by omega)).trans C.2.2.2.2.2.2.2.2⟩, Ot_hset ⟨by omega, by omega⟩⟩
  rw [hset_eq]
  congr 5
  funext j
  unfold va_cpy
  show (if 0 ≤ j ∧ j < 0 + 24 then f (0 + (j - 0)) else A 5 j) = (if 5 = 5 ∧ j < 24 then f j else A 5 j)
  by_cases hj : j < 24
  · rw [if_pos ⟨Nat.zero_le _, by omega⟩, if_pos ⟨rfl, hj⟩, Nat.sub_zero, Nat.zero_add]
  · rw [if_neg (by omega), if_neg (fun z => hj z.2)]
theorem wc_ac6 {A : Nat → Nat → Int32} {I : Nat → Int32} (C : WC h w A I) {x : Nat} {f : Nat → Int32} (hx : h.1 x = some (.inl (0, 24, .inl f))) : ∃ h', acI h x 0 (w + 7) 0 24 = some h' ∧ WC h' w (fun k j => if k = 6 ∧ j < 24 then f j else A k j) I ∧ Ot w (w + 9) h h' := by
  have e : acI h x 0 (w + 7) 0 24 = some (hset h (w + 7) (.inl (0, 24, .inl (va_cpy f (A 6) 0 0 24)))) := by
    unfold acI
    rw [hx, C.2.2.2.2.2.2.2.1]
    rfl
  refine ⟨_, e, ⟨(hset_ne (by omega)).trans C.1, (hset_ne (by omega)).trans C.2.1, (hset_ne (by omega)).trans C.2.2.1, (hset_ne (by omega)).trans C.2.2.2.1, (hset_ne (by omega)).trans C.2.2.2.2.1, (hset_ne (by omega)).trans C.2.2.2.2.2.1, (hset_ne (by omega)).trans C.2.2.2.2.2.2.1, ?_, (hset_ne (by omega)).trans C.2.2.2.2.2.2.2.2⟩, Ot_hset ⟨by omega, by omega⟩⟩
  rw [hset_eq]
  congr 5
  funext j
  unfold va_cpy
  show (if 0 ≤ j ∧ j < 0 + 24 then f (0 + (j - 0)) else A 6 j) = (if 6 = 6 ∧ j < 24 then f j else A 6 j)
  by_cases hj : j < 24
  · rw [if_pos ⟨Nat.zero_le _, by omega⟩, if_pos ⟨rfl, hj⟩, Nat.sub_zero, Nat.zero_add]
  · rw [if_neg (by omega), if_neg (fun z => hj z.2)]
theorem wc_ac7 {A : Nat → Nat → Int32} {I : Nat → Int32} (C : WC h w A I) {x : Nat} {f : Nat → Int32} (hx : h.1 x = some (.inl (0, 192, .inl f))) : ∃ h', acI h x 0 (w + 8) 0 192 = some h' ∧ WC h' w (fun k j => if k = 7 ∧ j < 192 then f j else A k j) I ∧ Ot w (w + 9) h h' := by
  have e : acI h x 0 (w + 8) 0 192 = some (hset h (w + 8) (.inl (0, 192, .inl (va_cpy f (A 7) 0 0 192)))) := by
    unfold acI
    rw [hx, C.2.2.2.2.2.2.2.2]
    rfl
  refine ⟨_, e, ⟨(hset_ne (by omega)).trans C.1, (hset_ne (by omega)).trans C.2.1, (hset_ne (by omega)).trans C.2.2.1, (hset_ne (by omega)).trans C.2.2.2.1, (hset_ne (by omega)).trans C.2.2.2.2.1, (hset_ne (by omega)).trans C.2.2.2.2.2.1, (hset_ne (by omega)).trans C.2.2.2.2.2.2.1, (hset_ne (by omega)).trans C.2.2.2.2.2.2.2.1, ?_⟩, Ot_hset ⟨by omega, by omega⟩⟩
  rw [hset_eq]
  congr 5
  funext j
  unfold va_cpy
  show (if 0 ≤ j ∧ j < 0 + 192 then f (0 + (j - 0)) else A 7 j) = (if 7 = 7 ∧ j < 192 then f j else A 7 j)
  by_cases hj : j < 192
  · rw [if_pos ⟨Nat.zero_le _, by omega⟩, if_pos ⟨rfl, hj⟩, Nat.sub_zero, Nat.zero_add]
  · rw [if_neg (by omega), if_neg (fun z => hj z.2)]
theorem c_copy (D : WC1 h w) (W : WR h u σ) (hd : w + 9 ≤ u ∨ u + 9 ≤ w) : ∃ h', fX9_copyFrom h w u = some h' ∧ WR h' w σ ∧ Ot w (w + 9) h h' := by
  obtain ⟨A, I, C⟩ := D
  obtain ⟨B, K, S, V⟩ := W
  have fr : ∀ {g : AH}, Ot w (w + 9) h g → WC g u B K := fun O => S.frame O (by omega)
  obtain ⟨g1, e1, C1, O1⟩ := wc_p0 C (K 0)
  obtain ⟨g2, e2, C2, O2⟩ := wc_p1 C1 (K 1)
  have P2 := O1.trans O2
  obtain ⟨g3, e3, C3, O3⟩ := wc_p2 C2 (K 2)
  have P3 := P2.trans O3
  obtain ⟨g4, e4, C4, O4⟩ := wc_p3 C3 (K 3)
  have P4 := P3.trans O4
  obtain ⟨g5, e5, C5, O5⟩ := wc_ac0 C4 (fr P4).2.1
  have P5 := P4.trans O5
  obtain ⟨g6, e6, C6, O6⟩ := wc_ac1 C5 (fr P5).2.2.1
  have P6 := P5.trans O6
  obtain ⟨g7, e7, C7, O7⟩ := wc_ac2 C6 (fr P6).2.2.2.1
  have P7 := P6.trans O7
  obtain ⟨g8, e8, C8, O8⟩ := wc_ac3 C7 (fr P7).2.2.2.2.1
  have P8 := P7.trans O8
  obtain ⟨g9, e9, C9, O9⟩ := wc_ac4 C8 (fr P8).2.2.2.2.2.1
  have P9 := P8.trans O9
  obtain ⟨g10, e10, C10, O10⟩ := wc_ac5 C9 (fr P9).2.2.2.2.2.2.1
  have P10 := P9.trans O10
  obtain ⟨g11, e11, C11, O11⟩ := wc_ac6 C10 (fr P10).2.2.2.2.2.2.2.1
  have P11 := P10.trans O11
  obtain ⟨g12, e12, C12, O12⟩ := wc_ac7 C11 (fr P11).2.2.2.2.2.2.2.2
  have P12 := P11.trans O12
  refine ⟨g12, ?_, ⟨_, _, C12, ?_⟩, P12⟩
  · unfold fX9_copyFrom
    have s0 : gI h 9 u 0 = some (K 0) := gI_at S.1 rfl
    have s1 : gI g1 9 u 1 = some (K 1) := gI_at (fr O1).1 rfl
    have s2 : gI g2 9 u 2 = some (K 2) := gI_at (fr P2).1 rfl
    have s3 : gI g3 9 u 3 = some (K 3) := gI_at (fr P3).1 rfl
    simp only [hasC_at C.1, if_true, s0, e1, s1, e2, s2, e3, s3, e4, Option.bind_some, wc_r4 (fr P4), wc_r4 C4, e5, wc_r5 (fr P5), wc_r5 C5, e6, wc_r6 (fr P6), wc_r6 C6, e7, wc_r7 (fr P7), wc_r7 C7, e8, wc_r8 (fr P8), wc_r8 C8, e9, wc_r9 (fr P9), wc_r9 C9, e10, wc_r10 (fr P10), wc_r10 C10, e11, wc_r11 (fr P11), wc_r11 C11, e12]
  · obtain ⟨v1, v2, v3, v4, v5, v6, v7, v8, v9⟩ := V
    refine ⟨⟨v1.1, v1.2.1, v1.2.2.1, v1.2.2.2⟩, fun s hs => ?_, fun o ho => ?_, fun o ho => ?_, fun o ho => ?_, fun o ho => ?_, fun o ho h4 => ?_, fun o ho h4 => ?_, fun o p ho hp hb => ?_⟩
    · rw [← v2 s hs]; simp [hs]
    · rw [← v3 o ho]; simp [ho]
    · rw [← v4 o ho]; simp [ho]
    · rw [← v5 o ho]; simp [ho]
    · rw [← v6 o ho]; simp [ho]
    · rw [← v7 o ho h4]; simp [ho]
    · rw [← v8 o ho h4]; simp [ho]
    · rw [← v9 o p ho hp hb]; simp [show 8 * o + p < 192 by omega]
theorem WR.c1 (W : WR h w σ) : WC1 h w := by
  obtain ⟨A, I, C, -⟩ := W
  exact ⟨A, I, C⟩
theorem WC1.on {h' : AH} {P : Nat → Prop} (W : WC1 h w) (O : On P h h') (hP : ∀ k, w ≤ k → k < w + 9 → ¬ P k) : WC1 h' w := by
  obtain ⟨A, I, C⟩ := W
  refine ⟨A, I, ?_⟩
  unfold WC at C ⊢
  rw [O.2 w (hP _ (by omega) (by omega)), O.2 (w + 1) (hP _ (by omega) (by omega)), O.2 (w + 2) (hP _ (by omega) (by omega)), O.2 (w + 3) (hP _ (by omega) (by omega)), O.2 (w + 4) (hP _ (by omega) (by omega)), O.2 (w + 5) (hP _ (by omega) (by omega)), O.2 (w + 6) (hP _ (by omega) (by omega)), O.2 (w + 7) (hP _ (by omega) (by omega)), O.2 (w + 8) (hP _ (by omega) (by omega))]
  exact C
theorem WR.on {h' : AH} {P : Nat → Prop} (W : WR h w σ) (O : On P h h') (hP : ∀ k, w ≤ k → k < w + 9 → ¬ P k) : WR h' w σ := by
  obtain ⟨A, I, C, S⟩ := W
  refine ⟨A, I, ?_, S⟩
  unfold WC at C ⊢
  rw [O.2 w (hP _ (by omega) (by omega)), O.2 (w + 1) (hP _ (by omega) (by omega)), O.2 (w + 2) (hP _ (by omega) (by omega)), O.2 (w + 3) (hP _ (by omega) (by omega)), O.2 (w + 4) (hP _ (by omega) (by omega)), O.2 (w + 5) (hP _ (by omega) (by omega)), O.2 (w + 6) (hP _ (by omega) (by omega)), O.2 (w + 7) (hP _ (by omega) (by omega)), O.2 (w + 8) (hP _ (by omega) (by omega))]
  exact C
/-- one row of 325 laid into another -/
theorem m_lay {A B N k : Nat} {a : Nat → Int32} (hAB : A ≠ B) (cA : h.1 A = some (.inl (0, 325, .inl a))) (hk : k + 325 ≤ N) (hN : N ≤ 100000) : ∀ {b : Nat → Int32}, h.1 B = some (.inl (0, N, .inl b)) → ∃ h', fX11_lay h A B (J k) = some h' ∧ h'.1 B = some (.inl (0, N, .inl (fun j => if k ≤ j ∧ j < k + 325 then a (j - k) else b j))) ∧ Ot B (B + 1) h h' := by
  have key : ∀ q n i g (b0 b : Nat → Int32), i + q = 325 → q < n → g.1 A = some (.inl (0, 325, .inl a)) → g.1 B = some (.inl (0, N, .inl (fun j => if k ≤ j ∧ j < k + i then a (j - k) else b j))) → ∃ h', fX11_lay_L2 n g A B (J k) (J i) = some h' ∧ h'.1 B = some (.inl (0, N, .inl (fun j => if k ≤ j ∧ j < k + 325 then a (j - k) else b j))) ∧ Ot B (B + 1) g h' := by
    intro q
    induction q with
    | zero =>
      intro n i g b0 b h1 h2 c1 c2
      obtain ⟨n, rfl⟩ : ∃ x, n = x + 1 := ⟨n - 1, by omega⟩
      have hi : i = 325 := by omega
      subst hi
      refine ⟨g, ?_, c2, Ot.rf⟩
      rw [fX11_lay_L2]
      simp (disch := omega) only [l_325, J_le]
      rw [if_pos (by omega)]
    | succ q ih =>
      intro n i g b0 b h1 h2 c1 c2
      obtain ⟨n, rfl⟩ : ∃ x, n = x + 1 := ⟨n - 1, by omega⟩
      obtain ⟨g1, e1, c3, O1⟩ := wa_s c2 (show k + i < N by omega) (by omega) (a i)
      have c4 : g1.1 B = some (.inl (0, N, .inl (fun j => if k ≤ j ∧ j < k + (i + 1) then a (j - k) else b j))) := by
        rw [c3]
        congr 5
        funext j
        by_cases hj : j = k + i
        · rw [if_pos hj, if_pos (by omega), show j - k = i by omega]
        · rw [if_neg hj]
          by_cases hj2 : k ≤ j ∧ j < k + i
          · rw [if_pos hj2, if_pos (by omega)]
          · rw [if_neg hj2, if_neg (by omega)]
      obtain ⟨g2, e2, c5, O2⟩ := ih n (i + 1) g1 b0 b (by omega) (by omega) ((O1.2 A (by omega)).trans c1) c4
      refine ⟨g2, ?_, c5, O1.trans O2⟩
      rw [fX11_lay_L2]
      simp (disch := omega) only [l_325, J_le]
      rw [if_neg (by omega)]
      simp (disch := omega) only [aI_at c1, Option.bind_some, J_add, e1, letF, l_1]
      exact e2
  intro b cB
  unfold fX11_lay
  rw [l_0]
  refine key 325 FU 0 h b b rfl (FU_gt (by decide)) cA ?_
  rw [cB]
  congr 5
  funext j
  rw [if_neg (by omega)]
end CC
