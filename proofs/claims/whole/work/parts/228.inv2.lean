/-! more invariants: what calls do -/
def encS (σ : ST) (i : Nat) : Int32 := if i < 192 then J (pv σ (i / 8) (i % 8)) else if i < 216 then J (nn (σ 4 (i - 192))) else if i < 240 then J (pr σ (i - 216)) else if i < 264 then J (σ 3 (i - 240)) else if i < 288 then J (nn (σ 5 (i - 264))) else if i < 312 then J (σ 7 (i - 288)) else if i < 318 then J (nn (σ 0 (i - 312))) else if i < 324 then J (sb σ (i - 318)) else J (σ 1 3)
theorem AS_enc (σ : ST) : AS (encS σ) σ := by
  refine ⟨fun o p ho hp => ?_, fun o ho => ?_, fun o ho => ?_, fun o ho => ?_, fun o ho => ?_, fun o ho => ?_, fun o ho => ?_, fun o ho => ?_, rfl⟩
  · unfold encS
    rw [if_pos (by omega), show (8 * o + p) / 8 = o by omega, show (8 * o + p) % 8 = p by omega]
  · unfold encS
    rw [if_neg (by omega), if_pos (by omega), Nat.add_sub_cancel_left]
  · unfold encS
    rw [if_neg (by omega), if_neg (by omega), if_pos (by omega), Nat.add_sub_cancel_left]
  · unfold encS
    rw [if_neg (by omega), if_neg (by omega), if_neg (by omega), if_pos (by omega), Nat.add_sub_cancel_left]
  · unfold encS
    rw [if_neg (by omega), if_neg (by omega), if_neg (by omega), if_neg (by omega), if_pos (by omega), Nat.add_sub_cancel_left]
  · unfold encS
    rw [if_neg (by omega), if_neg (by omega), if_neg (by omega), if_neg (by omega), if_neg (by omega), if_pos (by omega), Nat.add_sub_cancel_left]
  · unfold encS
    rw [if_neg (by omega), if_neg (by omega), if_neg (by omega), if_neg (by omega), if_neg (by omega), if_neg (by omega), if_pos (by omega), Nat.add_sub_cancel_left]
  · unfold encS
    rw [if_neg (by omega), if_neg (by omega), if_neg (by omega), if_neg (by omega), if_neg (by omega), if_neg (by omega), if_neg (by omega), if_pos (by omega), Nat.add_sub_cancel_left]
theorem hl_rel {σ : ST} {a : Nat} (R : RG σ) (N : NZ σ a) : HL (relS 24 σ a).2 := by
  obtain ⟨h', -, -, H, -⟩ := m_free (h := ((fun _ => some (.inl (0, 325, .inl (encS σ)))), 0)) (A := 0) ⟨encS σ, rfl, AS_enc σ⟩ R N
  exact H
theorem hold_f {σ : ST} {o p v f k : Nat} (h8 : f ≠ 8) (h6 : f ≠ 6) : holdS σ o p v f k = σ f k := by simp [holdS, put, h8, h6]
section IVS
variable {σ : ST}
theorem inv_hold (I : INV σ) {o p v : Nat} (h0 : ho σ o = true) (hp : p < 8) (hv : v < 100) (ht : tot (holdS σ o p v) 8 ≤ 64) : INV (holdS σ o p v) :=
  I.cg (rg_hold I.rg h0 hp hv) (fun k => hold_f (by decide) (by decide)) (fun k => hold_f (by decide) (by decide)) (fun k => hold_f (by decide) (by decide)) (fun k => hold_f (by decide) (by decide)) ht (fun s h1 h2 => by
    rw [hold_f (by decide) (by decide)] at h2 ⊢
    exact I.sb s h1 h2)
theorem inv_put {f o v : Nat} (I : INV σ) (hf : f = 3 ∨ f = 7) (R : RG (put σ f o v)) : INV (put σ f o v) := by
  have e : ∀ g, g ≠ f → ∀ k, put σ f o v g k = σ g k := fun g hg k => put_f hg
  refine I.cg R (e 0 (by omega)) (e 2 (by omega)) (e 4 (by omega)) (e 5 (by omega)) ?_ (fun s h1 h2 => ?_)
  · rw [tot_cg (e 8 (by omega))]; exact I.frm
  · rw [e 1 (by omega)] at h2
    rw [e 0 (by omega)]
    exact I.sb s h1 h2
theorem inv_aw (I : INV σ) {s p : Nat} (hp : p < 8) (h1 : ho σ (las σ s) = true) : INV (awS σ s p) := inv_put I (Or.inr rfl) (rg_aw I.rg hp h1)
theorem inv_dig (I : INV σ) {o v : Nat} (h0 : ho σ o = true) (hv : v ≤ 9) : INV (put σ 3 o v) := inv_put I (Or.inl rfl) (rg_put3 I.rg (ho_lt h0).2 hv)
theorem inv_share (I : INV σ) {v : Nat} (hv : v < 64) (hs : ∀ s, s < 6 → v.testBit s = true → σ 0 s < 24) : INV (put σ 1 0 v) := by
  have e : ∀ g, g ≠ 1 → ∀ k, put σ 1 0 v g k = σ g k := fun g hg k => put_f hg
  refine I.cg (rg_share I.rg hv) (e 0 (by omega)) (e 2 (by omega)) (e 4 (by omega)) (e 5 (by omega)) ?_ (fun s h1 h2 => ?_)
  · rw [tot_cg (e 8 (by omega))]; exact I.frm
  · rw [put_eq] at h2
    rw [e 0 (by omega)]
    exact hs s h1 h2
theorem inv_wrote (I : INV σ) {v : Nat} (hv : v < 4294967296) : INV (put σ 1 3 v) := by
  have e : ∀ g, g ≠ 1 → ∀ k, put σ 1 3 v g k = σ g k := fun g hg k => put_f hg
  refine I.cg (rg_wrote I.rg hv) (e 0 (by omega)) (e 2 (by omega)) (e 4 (by omega)) (e 5 (by omega)) ?_ (fun s h1 h2 => ?_)
  · rw [tot_cg (e 8 (by omega))]; exact I.frm
  · rw [put_k (by decide)] at h2
    rw [e 0 (by omega)]
    exact I.sb s h1 h2
theorem inv_arr (I : INV σ) {o p v : Nat} (h : arrOk σ o p v) : INV (arrS σ o p v) := by
  obtain ⟨⟨h0, hp, hv⟩, h1, h2⟩ := h
  obtain ⟨o1, o2⟩ := ho_lt h0
  have I1 := inv_put (f := 7) (o := o) (v := bclr (σ 7 o) p) I (Or.inr rfl) (rg_put7 I.rg o2 (bclr_lt (n := 8) (I.rg.2.2.1 o o1).2.2.2.2.1))
  refine inv_hold I1 h0 hp hv ?_
  rw [tot_hold o1 hp]
  have : tot (put σ 7 o (bclr (σ 7 o) p)) 8 = tot σ 8 := tot_cg fun k => put_f (by decide)
  rw [this]
  split <;> omega
theorem fro_miss (R : RG σ) (hf : frO σ < 24) : σ 2 (frO σ) = 4 ∧ σ 4 (frO σ) = 24 ∧ σ 5 (frO σ) = 24 ∧ σ 7 (frO σ) = 0 ∧ σ 8 (frO σ) = 0 := by
  have h1 := frO_spec R hf
  have h2 := (R.2.2.1 _ hf).1
  exact ⟨by omega, R.2.2.2.2.2.2 _ hf h1⟩
section ABV
variable {s : Nat}
theorem abv_0 {k : Nat} : abvS σ s 0 k = if k = s then frO σ else σ 0 k := by simp [abvS, comeS, put]
theorem abv_2 {k : Nat} : abvS σ s 2 k = if k = frO σ then 0 else σ 2 k := by simp [abvS, comeS, put]
theorem abv_4 {k : Nat} : abvS σ s 4 k = if k = frO σ then σ 0 s else σ 4 k := by simp [abvS, comeS, put]
theorem abv_5 {k : Nat} : abvS σ s 5 k = σ 5 k := by simp [abvS, comeS, put]
theorem abv_6 {k : Nat} : abvS σ s 6 k = σ 6 k := by simp [abvS, comeS, put]
theorem abv_8 {k : Nat} : abvS σ s 8 k = σ 8 k := by simp [abvS, comeS, put]
theorem abv_10 : abvS σ s 1 0 = σ 1 0 := by simp [abvS, comeS, put]
theorem abv_13 : abvS σ s 1 3 = σ 1 3 := by simp [abvS, comeS, put]
theorem rg_abv (R : RG σ) (h0 : hs σ s = true) (hf : frO σ < 24) : RG (abvS σ s) := by
  obtain ⟨s1, s2⟩ := hs_lt h0
  have R1 := rg_come R (pg := 0) (dg := 0) hf (by decide) (by decide) (frO_spec R hf)
  have R2 := rg_put4 R1 (o := frO σ) (v := σ 0 s) (by simp [comeS, put]) (by omega)
  exact rg_put0 R2 s1 (by simpa [comeS, put] using s2) hf
theorem inv_abv (I : INV σ) (h0 : hs σ s = true) (hf : frO σ < 24) : INV (abvS σ s) := by
  obtain ⟨s1, s2⟩ := hs_lt h0
  obtain ⟨rk, ⟨R, ⟨g1, g2, g3⟩, g4, g5, g6, g7, g8⟩, H⟩ := I
  obtain ⟨m2, m4, m5, m7, m8⟩ := fro_miss R hf
  have nt : ∀ {x : Nat}, σ 2 x < 4 → x ≠ frO σ := fun h e => by rw [e] at h; omega
  refine ⟨fun k => if k = frO σ then rk (σ 0 s) + 1 else rk k, ⟨rg_abv R h0 hf, ⟨fun t k1 k2 => ?_, fun o k1 k2 => ?_, fun o k1 k2 => ?_⟩, fun o k1 k2 => ?_, fun o k1 k2 => ?_, fun o k1 k2 k3 => ?_, ?_, fun t k1 k2 => ?_⟩, fun o k1 k2 => ?_⟩
  · rw [abv_0] at k2 ⊢
    rw [abv_2]
    by_cases e : t = s
    · rw [if_pos e, if_pos rfl]; omega
    · rw [if_neg e] at k2 ⊢
      have := g1 t k1 k2
      rw [if_neg (nt this)]
      exact this
  · rw [abv_4] at k2 ⊢
    rw [abv_2]
    by_cases e : o = frO σ
    · rw [if_pos e] at k2 ⊢
      have := g1 s s1 s2
      rw [if_neg (nt this)]
      exact this
    · rw [if_neg e] at k2 ⊢
      have := g2 o k1 k2
      rw [if_neg (nt this)]
      exact this
  · rw [abv_5] at k2 ⊢
    rw [abv_2]
    have := g3 o k1 k2
    rw [if_neg (nt this)]
    exact this
  · rw [abv_4] at k2 ⊢
    by_cases e : o = frO σ
    · rw [if_pos e] at k2 ⊢
      have := g1 s s1 s2
      show (if σ 0 s = frO σ then _ else _) < (if o = frO σ then _ else _)
      rw [if_neg (nt this), if_pos e]
      omega
    · rw [if_neg e] at k2 ⊢
      have := g2 o k1 k2
      show (if σ 4 o = frO σ then _ else _) < (if o = frO σ then _ else _)
      rw [if_neg (nt this), if_neg e]
      exact g4 o k1 k2
  · rw [abv_5] at k2 ⊢
    have q := g5 o k1 k2
    have := g3 o k1 k2
    rw [abv_4, if_neg (nt this), abv_2]
    have e : o ≠ frO σ := fun e => by rw [e] at k2; omega
    rw [if_neg e]
    exact q
  · rw [abv_2] at k2 k3
    rw [abv_4]
    by_cases e : o = frO σ
    · rw [if_pos e] at k3; exact absurd rfl k3
    · rw [if_neg e] at k2 k3 ⊢
      exact g6 o k1 k2 k3
  · rw [tot_cg (fun k => abv_8)]
    exact g7
  · rw [abv_10] at k2
    rw [abv_0]
    by_cases e : t = s
    · rw [if_pos e]; exact hf
    · rw [if_neg e]; exact g8 t k1 k2
  · rw [abv_2] at k2
    rw [hol_yes]
    by_cases e : o = frO σ
    · exact Or.inl ⟨s, s1, by rw [abv_0, if_pos rfl, e]⟩
    · rw [if_neg e] at k2
      have := H o k1 k2
      rw [hol_yes] at this
      rcases this with ⟨t, h4, h5⟩ | ⟨k, h4, h5⟩
      · by_cases e2 : t = s
        · exact Or.inr ⟨frO σ, hf, by rw [abv_4, if_pos rfl, ← e2]; exact h5⟩
        · exact Or.inl ⟨t, h4, by rw [abv_0, if_neg e2]; exact h5⟩
      · have e2 : k ≠ frO σ := fun e2 => by rw [e2] at h5; omega
        exact Or.inr ⟨k, h4, by rw [abv_4, if_neg e2]; exact h5⟩
end ABV
section CMP
variable {t : Nat}
theorem cmp_ho (R : RG σ) (hf : frO σ < 24) (g3 : σ 5 t < 24 → σ 2 (σ 5 t) < 4) : ho (put (comeS σ (frO σ) 0 0) 4 (frO σ) t) (σ 5 t) = decide (σ 5 t < 24) := by
  obtain ⟨m2, m4, m5, m7, m8⟩ := fro_miss R hf
  by_cases h : σ 5 t < 24
  · rw [decide_eq_true h]
    have h1 := g3 h
    have h2 : σ 5 t ≠ frO σ := fun e => by rw [e] at h1; omega
    exact ho_of h (by simpa [comeS, put, h2] using h1)
  · unfold ho
    rw [decide_eq_false h, Bool.false_and]
theorem cmp_0 {k : Nat} : cmpS σ t 0 k = σ 0 k := by
  unfold cmpS
  split <;> simp [comeS, put]
theorem cmp_2 {k : Nat} : cmpS σ t 2 k = if k = frO σ then 0 else σ 2 k := by
  unfold cmpS
  split <;> simp [comeS, put]
theorem cmp_5 {k : Nat} : cmpS σ t 5 k = if k = t then frO σ else σ 5 k := by
  unfold cmpS
  split <;> simp [comeS, put]
theorem cmp_8 {k : Nat} : cmpS σ t 8 k = σ 8 k := by
  unfold cmpS
  split <;> simp [comeS, put]
theorem cmp_10 : cmpS σ t 1 0 = σ 1 0 := by
  unfold cmpS
  split <;> simp [comeS, put]
theorem cmp_4 (R : RG σ) (hf : frO σ < 24) (g3 : σ 5 t < 24 → σ 2 (σ 5 t) < 4) {k : Nat} (hk : k < 24) : cmpS σ t 4 k = if k = σ 5 t then frO σ else if k = frO σ then t else σ 4 k := by
  unfold cmpS
  rw [cmp_ho R hf g3]
  by_cases h : σ 5 t < 24
  · rw [decide_eq_true h, if_pos rfl]
    simp [comeS, put]
  · rw [decide_eq_false h, if_neg (by decide), if_neg (show ¬ k = σ 5 t by omega)]
    simp [comeS, put]
end CMP
theorem inv_frk (I : INV σ) {s : Nat} (hk : frkOk σ s) : INV (frkS σ s) := by
  have RF := rg_frk I.rg I.gr hk
  obtain ⟨h0, hf6, h2⟩ := hk
  obtain ⟨s1, s2⟩ := hs_lt h0
  obtain ⟨rk, ⟨R, ⟨g1, g2, g3⟩, g4, g5, g6, g7, g8⟩, H⟩ := I
  have ht := g1 s s1 s2
  have f24 := frS_spec R hf6
  have hfs : frS σ ≠ s := fun e => by rw [e] at f24; omega
  have r11 : ∀ {f k : Nat}, f ≠ 0 → f ≠ 1 → frkS σ s f k = frk0 σ s f k := fun h0 h1 => by
    unfold frkS
    rw [put_f h1, put_f h0, put_f h1]
  have r0 : ∀ {k : Nat}, frk0 σ s 0 k = σ 0 k := by
    intro k
    unfold frk0
    split
    · exact put_f (by decide)
    · exact cmp_0
  have e0 : ∀ {k : Nat}, frkS σ s 0 k = if k = frS σ then frkT σ s else σ 0 k := by
    intro k
    unfold frkS
    rw [put_f (by decide)]
    by_cases e : k = frS σ
    · rw [if_pos e, e, put_eq]
    · rw [if_neg e, put_k e, put_f (by decide), r0]
  have e10 : frkS σ s 1 0 = bset (frk0 σ s 1 0) (frS σ) := by
    unfold frkS
    rw [put_eq]
  have sbs : SBs (frkS σ s) := by
    intro t k1 k2
    rw [e10, bset_tb] at k2
    rw [e0]
    have hT : frkT σ s < 24 := by
      unfold frkT
      split
      · exact s2
      · rename_i hp; exact h2.resolve_left hp
    by_cases e : t = frS σ
    · rw [if_pos e]; exact hT
    · rw [if_neg e]
      rw [decide_eq_false e, Bool.or_false] at k2
      unfold frk0 at k2
      split at k2
      · rw [put_eq, bset_tb] at k2
        by_cases e2 : t = s
        · rw [e2]; exact s2
        · rw [decide_eq_false e2, Bool.or_false] at k2
          exact g8 t k1 k2
      · rw [cmp_10] at k2
        exact g8 t k1 k2
  by_cases hp : pgr σ (σ 0 s) = 0
  · have z0 : frk0 σ s = put σ 1 0 (bset (σ 1 0) s) := by unfold frk0; rw [if_pos hp]
    have zT : frkT σ s = σ 0 s := by unfold frkT; rw [if_pos hp]
    have e : ∀ g, g ≠ 0 → g ≠ 1 → ∀ k, frkS σ s g k = σ g k := fun g h0 h1 k => by
      rw [r11 h0 h1, z0, put_f h1]
    refine ⟨rk, ⟨RF, ⟨fun t k1 k2 => ?_, fun o k1 k2 => ?_, fun o k1 k2 => ?_⟩, fun o k1 k2 => ?_, fun o k1 k2 => ?_, fun o k1 k2 k3 => ?_, ?_, sbs⟩, fun o k1 k2 => ?_⟩
    · rw [e0] at k2 ⊢
      rw [e 2 (by decide) (by decide)]
      by_cases q : t = frS σ
      · rw [if_pos q] at k2 ⊢; rw [zT]; exact ht
      · rw [if_neg q] at k2 ⊢; exact g1 t k1 k2
    · rw [e 4 (by decide) (by decide)] at k2 ⊢
      rw [e 2 (by decide) (by decide)]
      exact g2 o k1 k2
    · rw [e 5 (by decide) (by decide)] at k2 ⊢
      rw [e 2 (by decide) (by decide)]
      exact g3 o k1 k2
    · rw [e 4 (by decide) (by decide)] at k2 ⊢
      exact g4 o k1 k2
    · rw [e 5 (by decide) (by decide)] at k2 ⊢
      rw [e 4 (by decide) (by decide), e 2 (by decide) (by decide)]
      exact g5 o k1 k2
    · rw [e 2 (by decide) (by decide)] at k2 k3
      rw [e 4 (by decide) (by decide)]
      exact g6 o k1 k2 k3
    · rw [tot_cg (e 8 (by decide) (by decide))]
      exact g7
    · rw [e 2 (by decide) (by decide)] at k2
      have := H o k1 k2
      rw [hol_yes] at this ⊢
      rcases this with ⟨t, h4, h5⟩ | ⟨k, h4, h5⟩
      · have q : t ≠ frS σ := fun q => by rw [q] at h5; omega
        exact Or.inl ⟨t, h4, by rw [e0, if_neg q]; exact h5⟩
      · exact Or.inr ⟨k, h4, by rw [e 4 (by decide) (by decide)]; exact h5⟩
  · have hf := h2.resolve_left hp
    have z0 : frk0 σ s = cmpS σ (σ 0 s) := by unfold frk0; rw [if_neg hp]
    have zT : frkT σ s = frO σ := by unfold frkT; rw [if_neg hp]
    obtain ⟨m2, m4, m5, m7, m8⟩ := fro_miss R hf
    have nt : ∀ {x : Nat}, σ 2 x < 4 → x ≠ frO σ := fun h e => by rw [e] at h; omega
    have gc := g3 (σ 0 s) s2
    have hp2 : σ 2 (σ 0 s) ≠ 0 := fun z => hp (by unfold pgr; rw [if_pos (ho_of s2 ht)]; exact z)
    have e2 : ∀ {k : Nat}, frkS σ s 2 k = if k = frO σ then 0 else σ 2 k := fun {k} => by
      rw [r11 (by decide) (by decide), z0, cmp_2]
    have e5 : ∀ {k : Nat}, frkS σ s 5 k = if k = σ 0 s then frO σ else σ 5 k := fun {k} => by
      rw [r11 (by decide) (by decide), z0, cmp_5]
    have e8 : ∀ {k : Nat}, frkS σ s 8 k = σ 8 k := fun {k} => by
      rw [r11 (by decide) (by decide), z0, cmp_8]
    have e4 : ∀ {k : Nat}, k < 24 → frkS σ s 4 k = if k = σ 5 (σ 0 s) then frO σ else if k = frO σ then σ 0 s else σ 4 k := fun {k} hk => by
      rw [r11 (by decide) (by decide), z0, cmp_4 R hf gc hk]
    have cn : σ 5 (σ 0 s) ≠ frO σ := fun z => by
      have := gc (by rw [z]; exact hf)
      rw [z] at this
      omega
    refine ⟨fun k => if k = frO σ then 2 * rk (σ 0 s) + 1 else 2 * rk k, ⟨RF, ⟨fun t k1 k2 => ?_, fun o k1 k2 => ?_, fun o k1 k2 => ?_⟩, fun o k1 k2 => ?_, fun o k1 k2 => ?_, fun o k1 k2 k3 => ?_, ?_, sbs⟩, fun o k1 k2 => ?_⟩
    · rw [e0] at k2 ⊢
      rw [e2]
      by_cases q : t = frS σ
      · rw [if_pos q, zT, if_pos rfl]; omega
      · rw [if_neg q] at k2 ⊢
        have := g1 t k1 k2
        rw [if_neg (nt this)]
        exact this
    · rw [e4 k1] at k2 ⊢
      rw [e2]
      by_cases q : o = σ 5 (σ 0 s)
      · rw [if_pos q, if_pos rfl]; omega
      · rw [if_neg q] at k2 ⊢
        by_cases q2 : o = frO σ
        · rw [if_pos q2, if_neg (nt ht)]; exact ht
        · rw [if_neg q2] at k2 ⊢
          have := g2 o k1 k2
          rw [if_neg (nt this)]
          exact this
    · rw [e5] at k2 ⊢
      rw [e2]
      by_cases q : o = σ 0 s
      · rw [if_pos q, if_pos rfl]; omega
      · rw [if_neg q] at k2 ⊢
        have := g3 o k1 k2
        rw [if_neg (nt this)]
        exact this
    · rw [e4 k1] at k2 ⊢
      by_cases q : o = σ 5 (σ 0 s)
      · have c1 : σ 5 (σ 0 s) < 24 := by omega
        have c2 := g5 _ s2 c1
        have c3 := g4 _ c1 (by rw [c2.1]; exact s2)
        rw [c2.1] at c3
        rw [if_pos q]
        show (if frO σ = frO σ then _ else _) < (if o = frO σ then _ else _)
        rw [if_pos rfl, if_neg (by rw [q]; exact cn), q]
        omega
      · rw [if_neg q] at k2 ⊢
        by_cases q2 : o = frO σ
        · rw [if_pos q2]
          show (if σ 0 s = frO σ then _ else _) < (if o = frO σ then _ else _)
          rw [if_neg (nt ht), if_pos q2]
          omega
        · rw [if_neg q2] at k2 ⊢
          have := g2 o k1 k2
          have h9 := g4 o k1 k2
          show (if σ 4 o = frO σ then _ else _) < (if o = frO σ then _ else _)
          rw [if_neg (nt this), if_neg q2]
          omega
    · rw [e5] at k2 ⊢
      by_cases q : o = σ 0 s
      · rw [if_pos q, e4 hf, if_neg (Ne.symm cn), if_pos rfl, e2, if_neg (by rw [q]; exact nt ht)]
        exact ⟨q.symm, by rw [q]; exact hp2⟩
      · rw [if_neg q] at k2 ⊢
        have w := g5 o k1 k2
        have w3 := g3 o k1 k2
        have w4 : σ 5 o ≠ σ 5 (σ 0 s) := fun z => by
          have := g5 _ s2 (by rw [← z]; exact k2)
          rw [← z, w.1] at this
          exact q this.1
        have w5 : o ≠ frO σ := fun z => by rw [z] at k2; omega
        rw [e4 k2, if_neg w4, if_neg (nt w3), e2, if_neg w5]
        exact w
    · rw [e2] at k2 k3
      rw [e4 k1]
      by_cases q2 : o = frO σ
      · rw [if_pos q2] at k3; exact absurd rfl k3
      · rw [if_neg q2] at k2 k3
        by_cases q : o = σ 5 (σ 0 s)
        · exfalso
          have c2 := g5 _ s2 (by rw [← q]; exact k1)
          rw [← q] at c2
          have := g6 o k1 k2 k3
          omega
        · rw [if_neg q, if_neg q2]
          exact g6 o k1 k2 k3
    · rw [tot_cg (fun k => e8)]
      exact g7
    · rw [e2] at k2
      rw [hol_yes]
      by_cases q : o = frO σ
      · exact Or.inl ⟨frS σ, hf6, by rw [e0, if_pos rfl, zT, q]⟩
      · rw [if_neg q] at k2
        by_cases q3 : o = σ 0 s
        · exact Or.inl ⟨s, s1, by rw [e0, if_neg (Ne.symm hfs)]; exact q3.symm⟩
        · have := H o k1 k2
          rw [hol_yes] at this
          rcases this with ⟨t, h4, h5⟩ | ⟨k, h4, h5⟩
          · have q4 : t ≠ frS σ := fun z => by rw [z] at h5; omega
            exact Or.inl ⟨t, h4, by rw [e0, if_neg q4]; exact h5⟩
          · have q4 : k ≠ frO σ := fun z => by rw [z] at h5; omega
            have q5 : k ≠ σ 5 (σ 0 s) := fun z => by
              have := g5 _ s2 (by rw [← z]; exact h4)
              rw [← z] at this
              exact q3 (by rw [← h5]; exact this.1)
            exact Or.inr ⟨k, h4, by rw [e4 h4, if_neg q5, if_neg q4]; exact h5⟩
/-- what an end comes to before who is free is freed -/
def en0 (σ : ST) (s : Nat) : ST := put (put (put σ 1 1 (bclr (σ 1 1) s)) 1 0 (bclr (σ 1 0) s)) 0 s 24
theorem en0_f {s f k : Nat} (h0 : f ≠ 0) (h1 : f ≠ 1) : en0 σ s f k = σ f k := by
  unfold en0
  rw [put_f h0, put_f h1, put_f h1]
theorem en0_0 {s k : Nat} : en0 σ s 0 k = if k = s then 24 else σ 0 k := by simp [en0, put]
theorem en0_10 {s : Nat} : en0 σ s 1 0 = bclr (σ 1 0) s := by simp [en0, put]
theorem iv_en0 {rk : Nat → Nat} (I : IV1 rk σ) {s : Nat} (hs' : s < 6) : IV1 rk (en0 σ s) := by
  obtain ⟨R, ⟨g1, g2, g3⟩, g4, g5, g6, g7, g8⟩ := I
  refine ⟨rg_end0 R hs', ⟨fun t k1 k2 => ?_, fun o k1 k2 => ?_, fun o k1 k2 => ?_⟩, fun o k1 k2 => ?_, fun o k1 k2 => ?_, fun o k1 k2 k3 => ?_, ?_, fun t k1 k2 => ?_⟩
  · rw [en0_0] at k2 ⊢
    rw [en0_f (by decide) (by decide)]
    by_cases e : t = s
    · rw [if_pos e] at k2; omega
    · rw [if_neg e] at k2 ⊢
      exact g1 t k1 k2
  · rw [en0_f (by decide) (by decide)] at k2 ⊢
    rw [en0_f (by decide) (by decide)]
    exact g2 o k1 k2
  · rw [en0_f (by decide) (by decide)] at k2 ⊢
    rw [en0_f (by decide) (by decide)]
    exact g3 o k1 k2
  · rw [en0_f (by decide) (by decide)] at k2 ⊢
    exact g4 o k1 k2
  · rw [en0_f (by decide) (by decide)] at k2 ⊢
    rw [en0_f (by decide) (by decide), en0_f (by decide) (by decide)]
    exact g5 o k1 k2
  · rw [en0_f (by decide) (by decide)] at k2 k3 ⊢
    exact g6 o k1 k2 k3
  · rw [tot_cg (fun k => en0_f (by decide) (by decide))]
    exact g7
  · rw [en0_10, bclr_tb] at k2
    rw [en0_0]
    by_cases e : t = s
    · simp [e] at k2
    · rw [if_neg e]
      rw [decide_eq_false e] at k2
      exact g8 t k1 (by simpa using k2)
theorem nz_en0 (H : HL σ) {s : Nat} : NZ (en0 σ s) (σ 0 s) := by
  intro o h1 h2 h3
  rw [en0_f (by decide) (by decide)] at h2
  have := H o h1 h2
  rw [hol_yes] at this ⊢
  rcases this with ⟨t, h4, h5⟩ | ⟨k, h4, h5⟩
  · have e : t ≠ s := fun e => h3 (by rw [← h5, e])
    exact Or.inl ⟨t, h4, by rw [en0_0, if_neg e]; exact h5⟩
  · exact Or.inr ⟨k, h4, by rw [en0_f (by decide) (by decide)]; exact h5⟩
theorem inv_end (I : INV σ) {s : Nat} (hs' : s < 6) : INV (endS σ s).2 := by
  obtain ⟨rk, I1, H⟩ := I
  exact ⟨rk, iv_rel 24 (iv_en0 I1 hs'), hl_rel (iv_en0 I1 hs').1 (nz_en0 H)⟩
end IVS
