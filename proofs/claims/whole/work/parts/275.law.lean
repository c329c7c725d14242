/-! the law -/
theorem inv_w0 : INV w0 := by
  have n24 : ∀ {o : Nat}, o < 24 → w0 2 o = 4 ∧ w0 4 o = 24 ∧ w0 5 o = 24 := fun h => by
    rw [w0_2, w0_4, w0_5, if_pos h, if_pos h]
    exact ⟨rfl, rfl, rfl⟩
  have n6 : ∀ {s : Nat}, s < 6 → w0 0 s = 24 := fun h => by rw [w0_0, if_pos h]
  have z : ∀ {f k : Nat}, f ≠ 0 ∧ f ≠ 2 ∧ f ≠ 4 ∧ f ≠ 5 → w0 f k = 0 := fun h => w0_n h
  refine ⟨fun _ => 0, ⟨⟨fun s hs => ?_, ⟨?_, ?_, ?_, ?_⟩, fun o ho => ?_, fun k hk => ?_, fun s hs => ?_, fun o ho => ?_, fun o ho _ => ?_⟩, ⟨fun s hs y => ?_, fun o ho y => ?_, fun o ho y => ?_⟩, fun o ho y => ?_, fun o ho y => ?_, fun o ho y => ?_, ?_, fun s hs y => ?_⟩, fun o ho y => ?_⟩
  · rw [n6 hs]; exact Nat.le_refl _
  · rw [z (by decide)]; decide
  · rw [z (by decide)]; decide
  · rw [z (by decide)]; decide
  · rw [z (by decide)]; decide
  · obtain ⟨a, b, c⟩ := n24 ho
    rw [a, b, c, z (by decide), z (by decide), z (by decide)]
    decide
  · rw [z (by decide)]; decide
  · rw [z (by decide), n6 hs, Nat.zero_testBit]; rfl
  · rw [z (by decide), (n24 ho).1, Nat.zero_testBit]; rfl
  · obtain ⟨a, b, c⟩ := n24 ho
    rw [b, c, z (by decide), z (by decide)]
    exact ⟨rfl, rfl, rfl, rfl⟩
  · rw [n6 hs] at y; omega
  · rw [(n24 ho).2.1] at y; omega
  · rw [(n24 ho).2.2] at y; omega
  · rw [(n24 ho).2.1] at y; omega
  · rw [(n24 ho).2.2] at y; omega
  · rw [(n24 ho).1] at y; omega
  · have : tot w0 8 = 0 := by
      unfold tot
      rw [sm_congr (f := fun o => bc (w0 8 o)) (g := fun _ => 0) (fun i _ => by show bc (w0 8 i) = 0; rw [z (by decide)]; exact bc_0)]
      exact sm_0 24
    omega
  · rw [z (by decide), Nat.zero_testBit] at y
    cases y
  · rw [(n24 ho).1] at y; omega
theorem CIk.of5 {h g : AH} {mk : Nat} {tx : Nat → Nat} {len : Nat} {w : ST} {un : Nat} {us : Nat → ST} {kp : Nat → Bool} {ks : Nat → ST} {C : List Nat} {row : List Int64} {hq : List (Nat × Nat)} {sq : List (Nat × Nat × Bool)} {P : Nat → Prop} (W : CIk h mk tx len w un us kp ks C row hq sq) (O : Of P h g) (h2 : 145 ≤ h.2) (hP : ∀ k, k < 145 → ¬ P k) : CIk g mk tx len w un us kp ks C row hq sq := by
  have := W.on O.on (fun k hk z => z.elim (hP k hk) (fun y => by omega))
  exact this
theorem MIv.of6 {h g : AH} {tx : Nat → Nat} {len : Nat} {w : ST} {un : Nat} {us : Nat → ST} {kp : Nat → Bool} {ks : Nat → ST} {ρ : Nat → Nat} {rn : Nat} {row : List Int64} {hq : List (Nat × Nat)} {sq : List (Nat × Nat × Bool)} {P : Nat → Prop} (W : MIv h tx len w un us kp ks ρ rn row hq sq) (O : Of P h g) (h2 : 166 ≤ h.2) (hP : ∀ k, 145 ≤ k → k < 166 → ¬ P k) : MIv g tx len w un us kp ks ρ rn row hq sq := by
  have := W.on O.on (fun k h1 hk z => z.elim (hP k h1 hk) (fun y => by omega))
  exact this
theorem scI_at {xs : Nat → Int32} {L i : Nat} (hi : i < L) (hL : L ≤ 2560) : scI xs L (J i) = some (xs i) := by
  unfold scI
  rw [if_pos (J_in hi (by omega)), J_clamp (by omega)]
theorem ite_s {c : Prop} [Decidable c] {a b : Option Unit} (h1 : a = some ()) (h2 : b = some ()) : (if c then a else b) = some () := by
  by_cases z : c
  · rw [if_pos z]; exact h1
  · rw [if_neg z]; exact h2
theorem lw_fin {xs : Nat → Int32} {L n : Nat} {v4 : Int32} {Jk : (AH → Nat → Nat → Nat → Int32 → Option Unit) → Option Unit} (hx : ∃ h2, LV h2 ∧ ∀ K : AH → Nat → Nat → Nat → Int32 → Option Unit, Jk K = K h2 0 145 166 v4) (IH : ∀ h2, LV h2 → fL_law_L23 xs L n h2 0 145 166 (v4 + 5) = some ()) : Jk (fun h a b c d => letF (d + 5 : Int32) fun x => fL_law_L23 xs L n h a b c x) = some () := by
  obtain ⟨h2, V2, e⟩ := hx
  rw [e]
  exact IH h2 V2
theorem law_step {xs : Nat → Int32} {L n i : Nat} {h : AH} (hL : L ≤ 2560) (V : LV h) (h5 : 5 * i + 5 ≤ L) (IH : ∀ h2, LV h2 → fL_law_L23 xs L n h2 0 145 166 (J (5 * i) + 5) = some ()) : fL_law_L23 xs L (n + 1) h 0 145 166 (J (5 * i)) = some () := by
  obtain ⟨x1, b1, y1⟩ := J_surj (xs (5 * i + 1))
  obtain ⟨x2, b2, y2⟩ := J_surj (xs (5 * i + 2))
  obtain ⟨x3, b3, y3⟩ := J_surj (xs (5 * i + 3))
  obtain ⟨x4, b4, y4⟩ := J_surj (xs (5 * i + 4))
  have s1 : scI xs L (J (5 * i) + 1) = some (J x1) := by
    rw [l_1, J_add, scI_at (by omega) hL, y1]
  have s2 : scI xs L (J (5 * i) + 2) = some (J x2) := by
    rw [show (2 : Int32) = J 2 from rfl, J_add, scI_at (by omega) hL, y2]
  have s3 : scI xs L (J (5 * i) + 3) = some (J x3) := by
    rw [show (3 : Int32) = J 3 from rfl, J_add, scI_at (by omega) hL, y3]
  have s4 : scI xs L (J (5 * i) + 4) = some (J x4) := by
    rw [show (4 : Int32) = J 4 from rfl, J_add, scI_at (by omega) hL, y4]
  have eL : Int32.ofNat L - 5 = J (L - 5) := J_sub (a := L) (b := 5) (by omega)
  rw [fL_law_L23, eL, if_neg (fun y => by rw [J_lt (by omega) (by omega)] at y; omega), scI_at (by omega) hL, Option.bind_some]

  refine ite_s (lw_fin (Jk := fun K => fL_law_J236 xs L K h 0 145 166 (J (5 * i))) (lw_sign V s1 b1) IH) ?_
  refine ite_s (lw_fin (Jk := fun K => fL_law_J261 xs L K h 0 145 166 (J (5 * i))) (lw_end V s1 b1) IH) ?_
  refine ite_s (lw_fin (Jk := fun K => fL_law_J286 xs L K h 0 145 166 (J (5 * i))) (lw_spaces V ) IH) ?_
  refine ite_s (lw_fin (Jk := fun K => fL_law_J299 xs L K h 0 145 166 (J (5 * i))) (lw_rule V ) IH) ?_
  refine ite_s (lw_fin (Jk := fun K => fL_law_J312 xs L K h 0 145 166 (J (5 * i))) (lw_space V s1 b1 s2 b2) IH) ?_
  refine ite_s (lw_fin (Jk := fun K => fL_law_J380 xs L K h 0 145 166 (J (5 * i))) (lw_object V s1 b1 s2 b2) IH) ?_
  refine ite_s (lw_fin (Jk := fun K => fL_law_J448 xs L K h 0 145 166 (J (5 * i))) (lw_page V s1 b1 s2 b2) IH) ?_
  refine ite_s (lw_fin (Jk := fun K => fL_law_J516 xs L K h 0 145 166 (J (5 * i))) (lw_sheet V s1 b1 s2 b2 s3 s4) IH) ?_
  refine ite_s (lw_fin (Jk := fun K => fL_law_J577 xs L K h 0 145 166 (J (5 * i))) (lw_reads V s1 b1 s2 b2) IH) ?_
  refine ite_s (lw_fin (Jk := fun K => fL_law_J614 xs L K h 0 145 166 (J (5 * i))) (lw_writes V s1 b1 s2 b2 s3 b3) IH) ?_
  refine ite_s (lw_fin (Jk := fun K => fL_law_J663 xs L K h 0 145 166 (J (5 * i))) (lw_forks V s1 b1) IH) ?_
  refine ite_s (lw_fin (Jk := fun K => fL_law_J688 xs L K h 0 145 166 (J (5 * i))) (lw_ends V s1 b1) IH) ?_
  refine ite_s (lw_fin (Jk := fun K => fL_law_J713 xs L K h 0 145 166 (J (5 * i))) (lw_arrives V s1 b1 s2 b2 s3 b3) IH) ?_
  refine ite_s (lw_fin (Jk := fun K => fL_law_J762 xs L K h 0 145 166 (J (5 * i))) (lw_tidies V s1 b1) IH) ?_
  refine ite_s (lw_fin (Jk := fun K => fL_law_J787 xs L K h 0 145 166 (J (5 * i))) (lw_day V ) IH) ?_
  refine ite_s (lw_fin (Jk := fun K => fL_law_J800 xs L K h 0 145 166 (J (5 * i))) (lw_undo V ) IH) ?_
  refine ite_s (lw_fin (Jk := fun K => fL_law_J813 xs L K h 0 145 166 (J (5 * i))) (lw_chain V s1 b1) IH) ?_
  refine ite_s (lw_fin (Jk := fun K => fL_law_J838 xs L K h 0 145 166 (J (5 * i))) (lw_peeks V s1 b1 s2 b2) IH) ?_
  refine ite_s (lw_fin (Jk := fun K => fL_law_J875 xs L K h 0 145 166 (J (5 * i))) (lw_holders V s1 b1) IH) ?_
  refine ite_s (lw_fin (Jk := fun K => fL_law_J900 xs L K h 0 145 166 (J (5 * i))) (lw_shared V s1 b1 s2 b2) IH) ?_
  refine ite_s (lw_fin (Jk := fun K => fL_law_J937 xs L K h 0 145 166 (J (5 * i))) (lw_differ V s1 b1 s2 b2) IH) ?_
  refine ite_s (lw_fin (Jk := fun K => fL_law_J974 xs L K h 0 145 166 (J (5 * i))) (lw_common V s1 b1 s2 b2) IH) ?_
  refine ite_s (lw_fin (Jk := fun K => fL_law_J1011 xs L K h 0 145 166 (J (5 * i))) (lw_hidden V ) IH) ?_
  refine ite_s (lw_fin (Jk := fun K => fL_law_J1024 xs L K h 0 145 166 (J (5 * i))) (lw_frames V ) IH) ?_
  refine ite_s (lw_fin (Jk := fun K => fL_law_J1037 xs L K h 0 145 166 (J (5 * i))) (lw_deepest V ) IH) ?_
  refine ite_s (lw_fin (Jk := fun K => fL_law_J1050 xs L K h 0 145 166 (J (5 * i))) (lw_would V s1 b1) IH) ?_
  refine ite_s (lw_fin (Jk := fun K => fL_law_J1075 xs L K h 0 145 166 (J (5 * i))) (lw_frees V s1 b1) IH) ?_
  refine ite_s (lw_fin (Jk := fun K => fL_law_J1100 xs L K h 0 145 166 (J (5 * i))) (lw_storm V s1 b1 s2 b2) IH) ?_
  refine ite_s (lw_fin (Jk := fun K => fL_law_J1137 xs L K h 0 145 166 (J (5 * i))) (lw_sweep V s1 b1 s2 b2) IH) ?_
  refine ite_s (lw_fin (Jk := fun K => fL_law_J1174 xs L K h 0 145 166 (J (5 * i))) (lw_odds V s1 b1 s2 b2 s3 b3) IH) ?_
  refine ite_s (lw_fin (Jk := fun K => fL_law_J1223 xs L K h 0 145 166 (J (5 * i))) (lw_heard V s1 b1 s2 b2) IH) ?_
  refine ite_s (lw_fin (Jk := fun K => fL_law_J1260 xs L K h 0 145 166 (J (5 * i))) (lw_forget V ) IH) ?_
  refine ite_s (lw_fin (Jk := fun K => fL_law_J1273 xs L K h 0 145 166 (J (5 * i))) (lw_fits V ) IH) ?_
  refine ite_s (lw_fin (Jk := fun K => fL_law_J1286 xs L K h 0 145 166 (J (5 * i))) (lw_asks V ) IH) ?_
  refine ite_s (lw_fin (Jk := fun K => fL_law_J1299 xs L K h 0 145 166 (J (5 * i))) (lw_saw V s1 b1 s2 b2 s3 b3) IH) ?_
  refine ite_s (lw_fin (Jk := fun K => fL_law_J1348 xs L K h 0 145 166 (J (5 * i))) (lw_denies V ) IH) ?_
  refine ite_s (lw_fin (Jk := fun K => fL_law_J1361 xs L K h 0 145 166 (J (5 * i))) (lw_laws V ) IH) ?_
  refine ite_s (lw_fin (Jk := fun K => fL_law_J1374 xs L K h 0 145 166 (J (5 * i))) (lw_looks V ) IH) ?_
  refine ite_s (lw_fin (Jk := fun K => fL_law_J1387 xs L K h 0 145 166 (J (5 * i))) (lw_pages V s1 b1) IH) ?_
  refine ite_s (lw_fin (Jk := fun K => fL_law_J1412 xs L K h 0 145 166 (J (5 * i))) (lw_rests V s1 b1) IH) ?_
  refine ite_s (lw_fin (Jk := fun K => fL_law_J1437 xs L K h 0 145 166 (J (5 * i))) (lw_law V ) IH) ?_
  refine ite_s (lw_fin (Jk := fun K => fL_law_J1450 xs L K h 0 145 166 (J (5 * i))) (lw_years V s1 b1 s2 b2) IH) ?_
  refine ite_s (lw_fin (Jk := fun K => fL_law_J1487 xs L K h 0 145 166 (J (5 * i))) (lw_keep V s1 b1) IH) ?_
  refine ite_s (lw_fin (Jk := fun K => fL_law_J1512 xs L K h 0 145 166 (J (5 * i))) (lw_again V s1 b1) IH) ?_
  refine ite_s (lw_fin (Jk := fun K => fL_law_J1537 xs L K h 0 145 166 (J (5 * i))) (lw_count V s1 b1) IH) ?_
  refine ite_s (lw_fin (Jk := fun K => fL_law_J1562 xs L K h 0 145 166 (J (5 * i))) (lw_row V s1 b1) IH) ?_
  exact IH h V
theorem law_L {xs : Nat → Int32} {L : Nat} (hL : L ≤ 2560) : ∀ n i h, LV h → 5 * i ≤ L → L + 5 ≤ 5 * i + 5 * n → fL_law_L23 xs L n h 0 145 166 (J (5 * i)) = some ()
  | 0, i, h, V, hi, hn => by omega
  | n + 1, i, h, V, hi, hn => by
    by_cases z : 5 * i + 5 ≤ L
    · refine law_step hL V z (fun h2 V2 => ?_)
      have e : J (5 * i) + 5 = J (5 * (i + 1)) := by
        rw [show (5 : Int32) = J 5 from rfl, J_add]
        rfl
      rw [e]
      exact law_L hL n (i + 1) h2 V2 (by omega) (by omega)
    · have c : Int32.ofNat L - 5 < J (5 * i) := by
        by_cases y : 5 ≤ L
        · have eL : Int32.ofNat L - 5 = J (L - 5) := J_sub (a := L) (b := 5) y
          rw [eL, J_lt (by omega) (by omega)]
          omega
        · have i0 : i = 0 := by omega
          subst i0
          have : ∀ l : Nat, l < 5 → Int32.ofNat l - 5 < J (5 * 0) := by decide
          exact this L (by omega)
      rw [fL_law_L23, if_pos c]
theorem law_go {xs : Nat → Int32} {L : Nat} (hL : L ≤ 2560) {h : AH} (V : LV h) (n : Nat) (hn : L + 5 ≤ 5 * n) : fL_law_L23 xs L n h 0 145 166 0 = some () := by
  have e : (0 : Int32) = J (5 * 0) := rfl
  rw [e]
  exact law_L hL n 0 h V (Nat.zero_le _) (by omega)
theorem law_it {xs : Nat → Int32} {L n : Nat} {gA gC : AH} (h0 : AH) (e1 : AE) (e2 : AE) (e3 : AE) (eA : fX10_init (hnew h0 e1) h0.2 = some gA) (h02 : h0.2 = 0) (nA : gA.2 = 145) (eC : fX11_init (hnew gA e2) 145 = some gC) (nC : gC.2 = 166) (fin : fL_law_L23 xs L n (hnew gC e3) 0 145 166 0 = some ()) : (letF (hnew h0 e1) fun h535 => (fX10_init h535 h0.2).bind fun q536 => letF (hnew q536 e2) fun h537 => (fX11_init h537 q536.2).bind fun q538 => letF (hnew q538 e3) fun h539 => fL_law_L23 xs L n h539 h0.2 q536.2 q538.2 0) = some () := by
  simp only [letF]
  rw [eA, Option.bind_some, nA, eC, Option.bind_some, nC, h02]
  exact fin
theorem pure_law (L : Nat) (xs : Nat → Int32) (hL : L ≤ 2560) : fL_law xs L (fun _ => none, 0) = some () := by
  obtain ⟨q1, q2, q3⟩ := nw_o (h := ((fun _ => none, 0) : AH)) (.inr (10, [.null, .int 0, .null, .null, .null, .null, .null, .null, .null, .null, .null, .null]))
  obtain ⟨gA, eA, WA, nA⟩ := cls_init (tx := fun _ => 0) (us := fun _ => w0) (ks := fun _ => w0) q1 q2
  obtain ⟨r1, r2, r3⟩ := nw_o (h := gA) (.inr (11, [.null, .null, .int 0, .null, .int 0, .int 0, .null, .int 0, .int 0, .int 0, .int 0, .null, .null, .null, .int 0, .int 0, .null, .null, .int 0, .null, .null, .int 0, .int 0, .null, .null, .null, .int 0, .null, .null, .null, .null, .int 0, .null, .int 0, .null, .null]))
  rw [nA] at r1 r2
  obtain ⟨gC, eC, MC', nC, OC⟩ := mdl_init (tx := fun _ => 0) (us := fun _ => w0) (ks := fun _ => w0) (ρ := fun _ => 0) r1 r2
  obtain ⟨t1, t2, t3⟩ := nw_o (h := gC) (.inl (1, newD 1 1))
  rw [nC] at t1 t2
  have WB := WA.of5 r3 (by rw [nA]; exact Nat.le_refl _) (fun k _ => id)
  have WC' := WB.of5 OC (by rw [r2]; decide) (fun k hk => by omega)
  have WD := WC'.of5 t3 (by rw [nC]; decide) (fun k _ => id)
  have MD := MC'.of6 t3 (by rw [nC]; exact Nat.le_refl _) (fun k _ _ => id)
  have V : LV (hnew gC (.inl (1, newD 1 1))) := ⟨_, _, _, _, _, _, _, _, _, _, _, _, _, _, ⟨WD, MD, ⟨fun _ => 0, t1⟩, by rw [t2]; exact Nat.le_refl _⟩, ⟨inv_w0, fun i hi => absurd hi (Nat.not_lt_zero i), (fun j y => by cases y), Or.inl ⟨rfl, rfl⟩, (fun i q hi => by cases hi), fun i q hi => by cases hi⟩⟩
  exact law_it ((fun _ => none, 0) : AH) _ _ _ eA rfl nA eC nC (law_go hL V 600 (by omega))
