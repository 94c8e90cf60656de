/-! format and formattedByte, as operations -/
section FO
variable {σ τ : zt_S} {w : Int → Int} {n : Int}
theorem fmL_tb {p : Int} : ∀ (m : Nat) (k : Int) (L : List Int), TB4 L (cn (fun c => decide (wHd w c = p)) k m) → TB4 (fmL w p k m L) 0
  | 0, k, L, h => by rw [fmL]; exact h
  | m + 1, k, L, h => by
    rw [fmL]
    have cl := cn_le (fun c => decide (wHd w c = p)) m (k + 1)
    refine fmL_tb m (k + 1) _ ?_
    unfold TB4 at h ⊢
    rw [cn] at h
    by_cases hh : wHd w k = p
    · rw [if_pos (decide_eq_true hh)] at h
      have tl := txL_len w k L
      rw [if_pos hh, if_neg tl.2]
      have t1 := tl.1
      split at h <;> rename_i hL
      · rw [if_pos hL] at t1; omega
      · rw [if_neg hL] at t1; omega
    · rw [if_neg (fun z => hh (of_decide_eq_true z)), Int.zero_add] at h
      rw [if_neg hh]
      exact h
theorem fmE_len {p : Int} (hw : RI w) (hp : 0 ≤ p ∧ p < w 1) : (fmE (fmL w p 0 (4 * w 0).toNat [])).length ≤ 51 := by
  have a := hw.n
  have hc := wHc_cut hw hp.1
  have hr := hw.2.2.2.2.2.2.2.2.2.2 p hp.1 hp.2
  have p13 := hw.pl
  have b := fmL_tb (w := w) (p := p) (4 * w 0).toNat 0 [] (by
    unfold TB4
    rw [hc, hr, if_pos rfl]
    simp
    split <;> omega)
  unfold TB4 at b
  unfold fmE
  by_cases hL : fmL w p 0 (4 * w 0).toNat [] = []
  · rw [if_pos hL]; simp
  · rw [if_neg hL]
    rw [if_neg hL] at b
    omega
theorem HX.of {L : List Int} (h1 : TX 161 162 1 σ L) (h2 : TX 163 180 31 σ L) (hl : L.length ≤ 51) : HX σ := by
  refine ⟨by rw [h1.1, h2.1], by rw [h2.1]; omega, fun j j0 j1 => ?_⟩
  rw [h2.1] at j1
  have e : ((j.toNat : Nat) : Int) = j := by omega
  have a := h1.2.1 j.toNat (by omega)
  have b := h2.2.1 j.toNat (by omega)
  rw [e] at a b
  rw [a, b]
  refine ⟨rfl, h1.2.2 _ ?_⟩
  rw [List.getD_eq_getElem?_getD, List.getElem?_eq_getElem (by omega)]
  exact List.getElem_mem _
/-- all but the text of format stands -/
theorem Inv.hx (h : Inv n σ) (e1 : ∀ c j, c ≠ 162 → c ≠ 180 → (c ≠ 161 ∨ j ≠ 1) → (c ≠ 163 ∨ (j ≠ 0 ∧ j ≠ 31)) → τ.1 c j = σ.1 c j) (e2 : ∀ c j, c ≠ 184 → τ.2.1 c j = σ.2.1 c j) (e3 : τ.2.2 = σ.2.2) (hx : HX τ) : Inv (n + 1) τ := by
  obtain ⟨hc, h2, h3, h4, h5, h6, h7, h8, h9⟩ := id h
  have f3 : τ.1 164 = σ.1 164 := funext fun j => e1 _ _ (by omega) (by omega) (by omega) (by omega)
  refine ⟨⟨by rw [f3]; exact hc.1, by rw [f3]; exact hc.2.1.ag (fun c j a b => e1 c j (by omega) (by omega) (by omega) (by omega)) (fun c j a b => e2 c j (by omega)), ?_⟩, by rw [f3]; exact h2.up (by omega), h3.ag (by omega) (fun c j a b => e1 c j (by omega) (by omega) (by omega) (by omega)) (fun c j a b => e2 c j (by omega)) (e1 _ _ (by omega) (by omega) (by omega) (by omega)) (fun j => e1 _ _ (by omega) (by omega) (by omega) (by omega)) (fun j _ => by rw [f3]), h4.ag (by omega) (fun c j a b => e1 c j (by omega) (by omega) (by omega) (by omega)) (fun c j a b => e2 c j (by omega)) (e1 _ _ (by omega) (by omega) (by omega) (by omega)) (e1 _ _ (by omega) (by omega) (by omega) (by omega)) (fun j => e1 _ _ (by omega) (by omega) (by omega) (by omega)) (fun j _ => by rw [f3]), h5.ag (e1 _ _ (by omega) (by omega) (by omega) (by omega)) (e1 _ _ (by omega) (by omega) (by omega) (by omega)) (fun j => e1 _ _ (by omega) (by omega) (by omega) (by omega)) (fun j => e1 _ _ (by omega) (by omega) (by omega) (by omega)), h6.ag (e1 _ _ (by omega) (by omega) (by omega) (by omega)) (e1 _ _ (by omega) (by omega) (by omega) (by omega)), hx, h8.ag (by omega) (fun c j a b => e2 c j (by omega)), by rw [e3]; omega⟩
  have g := hc.2.2
  unfold SUw at g ⊢
  rw [f3, e1 _ _ (by omega) (by omega) (by omega) (by omega), e1 _ _ (by omega) (by omega) (by omega) (by omega), e1 _ _ (by omega) (by omega) (by omega) (by omega), e1 _ _ (by omega) (by omega) (by omega) (by omega)]
  exact g
theorem op_format {p : Int} (h : Inv n σ) (hi : zt_in p) : OP (n + 1) (F_L_format p) (F_M_format p) σ := by
  have hc := h.1
  have a := hc.1.n
  by_cases hp : 0 ≤ p ∧ p < σ.1 164 1
  · obtain ⟨s, c1, c2, c3⟩ := ec_write (σ := σ) (w := σ.1 164) (p := p) hc.2.2 hc.1 hp (fun c h0 h1 => hc.2.1.2.1 p c hp.1 (by omega) h0 h1)
    have sr : s.1 164 = σ.1 164 := funext fun j => c3.1 164 j (by decide) (by omega)
    obtain ⟨L, hL⟩ : ∃ L, L = fmE (fmL (σ.1 164) p 0 (4 * σ.1 164 0).toNat []) := ⟨_, rfl⟩
    have ll := fmE_len hc.1 hp
    rw [← hL] at c1 c2 ll
    obtain ⟨σ1, hσ1⟩ : ∃ x, x = zt_uL s 184 0 (zt_l (L.length : Int)) := ⟨_, rfl⟩
    have r1 : (zt_up σ1 163 0 0).1 164 = σ.1 164 := by rw [up_f (by decide), hσ1, uL_1, sr]
    obtain ⟨τ, m1, m2, m3⟩ := em_format_run (σ := zt_up σ1 163 0 0) (w := σ.1 164) r1 hc.1 hp
    rw [← hL] at m1 m2
    have tf : ∀ c j, c ≠ 180 → (c ≠ 163 ∨ (j ≠ 0 ∧ j ≠ 31)) → τ.1 c j = s.1 c j := fun c j b1 b2 => by rw [m3.1 c j b1 (by omega), up_o (by omega), hσ1, uL_1]
    have t2 : τ.2 = (zt_uL s 184 0 (zt_l (L.length : Int))).2 := by rw [m3.2, up_2, hσ1]
    have z0 : τ.1 163 0 = 0 := by rw [m3.1 163 0 (by decide) (by decide), up_s]
    refine ⟨0, (L.length : Int), σ1, τ, ?_, ?_, z0, by omega, fun _ => by rw [t2]; exact uL_s _ _ _ _, h.hx (fun c j b1 b2 b3 b4 => by rw [tf c j b2 b4, c3.1 c j b1 b3]) (fun c j b => by rw [t2, uL_o (Or.inl b), c3.2]) (by rw [t2, uL_3, c3.2]) (HX.of (c2.f (tf _ _ (by decide) (by decide)) (fun j => tf _ _ (by decide) (by omega))) m2 ll)⟩
    · unfold F_L_format F_C_format
      rw [ec_needPlayer hc hi, if_pos hp, zt_bxS, be_handOf ⟨hp.1, by omega⟩, c1, zt_bdS, zt_bxS, zt_letS, hσ1]
    · unfold F_M_format
      rw [zt_letS, eb_player (by rw [r1]; exact hc.1) (by rw [r1]; exact hp), eb_fails1 (up_s _ _ _ _), zt_ckI zt_in0, if_pos rfl, zt_letS, m1]
  · refine op_no h (e := 1) (u := 0) (Or.inl rfl) ?_ ?_
    · unfold F_L_format F_C_format
      rw [ec_needPlayer hc hi, if_neg hp]
      rfl
    · have er : (zt_up (zt_nx σ) 163 0 0).1 164 = σ.1 164 := up_f (by decide)
      unfold F_M_format
      rw [zt_letS, eb_noplayer (by rw [er]; exact hc.1) hi (by rw [er]; exact hp), eb_fails0 (Or.inl rfl) (up_s _ _ _ _), zt_ckI (by decide), if_neg (by decide), up_up]
theorem oq_formattedByte {v : Int} (h : Inv n σ) (hi : zt_in v) : OQ (n + 1) (F_C_formattedByte v) (F_M_formattedByte v) σ := by
  obtain ⟨x1, x2, x3⟩ := h.2.2.2.2.2.2.1
  have hi' : -2147483648 ≤ v ∧ v < 2147483648 := hi
  have cs : F_C_formattedByte v σ = some (if 0 ≤ v ∧ v < σ.1 163 31 then σ.1 180 v else -1, σ) := by
    unfold F_C_formattedByte F_HT_byteAt F_HT_byteAt_30 F_HT_byteAt_31
    by_cases h1 : v < 0
    · rw [zt_ckI hi, if_pos h1, if_neg (by omega), zt_bdS]
    · by_cases h2 : v < σ.1 163 31
      · rw [zt_ckI hi, if_neg h1, x1, zt_ckI ⟨hi, by unfold zt_in; omega⟩, if_pos h2, zt_ckI hi, if_pos (by omega), zt_ckI (by omega), zt_bdS, if_pos (by omega), (x3 v (by omega) h2).1]
      · rw [zt_ckI hi, if_neg h1, x1, zt_ckI ⟨hi, by unfold zt_in; omega⟩, if_neg h2, if_neg (by omega), zt_bdS]
  have cm : F_M_formattedByte v σ = some (if 0 ≤ v ∧ v < σ.1 163 31 then σ.1 180 v else -1, zt_up σ 163 0 0) := by
    have e : (zt_up σ 163 0 0).1 163 31 = σ.1 163 31 := up_o (by omega)
    unfold F_M_formattedByte F_M_formattedByte_31
    rw [zt_letS, e]
    by_cases h2 : 0 ≤ v ∧ v < σ.1 163 31
    · rw [eb_inI zl_0 rfl hi (by decide) (by unfold zt_in; omega) (by omega), zt_ckI (by decide), if_neg (by decide), zt_ckI (by omega), if_pos h2, up_o (by omega)]
    · rw [eb_inO zl_0 rfl hi (by decide) (by unfold zt_in; omega) (by omega), zt_ckI (by decide), if_pos rfl, if_neg h2]
  refine AP.oq ⟨_, cs, cm, ?_⟩ h
  split
  · rename_i z
    have := (x3 v z.1 z.2).2
    unfold zt_in
    omega
  · decide
end FO
