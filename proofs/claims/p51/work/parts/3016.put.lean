/-! THE CLASS puts a card down -/
theorem zt_bd_id {x : Option (Unit × zt_S)} : zt_bd x (fun _ s => some ((), s)) = x := by
  cases x with
  | none => rfl
  | some q => obtain ⟨⟨⟩, s⟩ := q; rfl
theorem Nx.ag {w r u : Int → Int} {c : Int} (e : AG w r) (h : QI w) (n : Nx r u c) : Nx w u c := by
  obtain ⟨h0, h1, h9, h10, h11, h12, h13, hk, hc⟩ := n
  refine ⟨by rw [h0, e 0 (by omega)], by rw [h1, e 1 (by omega)], by rw [h9, e 9 (by omega)], by rw [h10, e 10 (by omega)], by rw [h11, e 11 (by omega)], by rw [h12, e 12 (by omega)], by rw [h13, e 13 (by omega)], fun k k0 k1 => ?_, ?_⟩
  · rw [hk k k0 (by rw [e.pl]; exact k1), e.cd h k0]
  · rw [← e.pl]; exact hc
section EC
variable {σ : zt_S} {t : Nat} {w : Int → Int} {c : Int}
theorem TK.of {τ : zt_S} {k : Nat} (h : TK σ k w) (e : ∀ j, τ.1 k j = σ.1 k j) : TK τ k w := by
  unfold TK at h ⊢
  simp only [e]
  exact h
theorem ec_putDown1 (ho : OK t) (hs : SUw σ (zt_su t) w) (hw : RI w) (h : TB σ t w) (hn : wOv w = false) (hc : 0 ≤ c ∧ c < 4 * w 0) (hp : wHd w c = wTn w) :
    ∃ σ2, F_Tb_putDown t c σ = (if wPl w + 1 = w 1 then F_Tb_closeTrick t σ2 else some ((), σ2)) ∧ TB σ2 t (rCard (rLack w c) c (wTn w)) ∧ FT t σ σ2 := by
  have a := hw.n
  have b := hw.wpl
  have pl := hw.pl
  have o := wOv_lt hw hn
  have tt := wTn_lt hw
  have t2 := tt.2.2 hn
  have hok : zt_su t < t ∨ t + 9 < zt_su t := ho
  have ag := rLack_ag (c := c) hw hn
  have ri := rLack_i (c := c) hw hn
  have hn' : wOv (rLack w c) = false := by unfold wOv at hn ⊢; rw [ag 12 (by omega), ag 1 (by omega), ag 2 (by omega)]; exact hn
  have hc' : 0 ≤ c ∧ c < 4 * rLack w c 0 := by rw [ag 0 (by omega)]; exact hc
  have r12 : rLack w c 12 = w 12 := ag 12 (by omega)
  have nx : Nx w (rCard (rLack w c) c (wTn w)) c := (rCard_nx (p := wTn w) ri hn' hc').ag ag hw.q
  have cc := rCard_c (w := rLack w c) (c := c) (p := wTn w) ⟨hc.1, by omega⟩ ⟨by omega, by omega⟩
  rw [r12] at cc
  have ue : ∀ i, i ≠ 40 + c → i ≠ 92 + w 12 → i ≠ 144 + w 12 → i ≠ 12 → rCard (rLack w c) c (wTn w) i = rLack w c i := fun i h1 h2 h3 h4 => rCard_o ⟨h1, by rw [r12]; exact h2, by rw [r12]; exact h3, h4⟩
  have we : ∀ i, i ≠ 40 + c → i ≠ 92 + w 12 → i ≠ 144 + w 12 → i ≠ 12 → (i < 24 ∨ 40 ≤ i) → rCard (rLack w c) c (wTn w) i = w i := fun i h1 h2 h3 h4 h5 => by rw [ue i h1 h2 h3 h4, ag i h5]
  obtain ⟨σ1, n1, n2, n3, n4⟩ := ec_noteLack hw h hn hc
  have k1 : σ.1 (t + 1) 1 = wTn w := by rw [h.1.1.2.1]; unfold wTn; rw [hn]; rfl
  have nl : ∀ {β : Type} (K : Unit → zt_S → Option β), zt_bd (F_Tb_noteLack t (wTn w) (wS w c) σ) K = K () σ1 := fun K => by rw [n1]; rfl
  have g16 : σ.1 t 16 = w 12 := h.2.2.2.2.2.2.2.2.2.2.2.1
  generalize hu : rCard (rLack w c) c (wTn w) = u at *
  have n2' : σ1.2.1 = σ.2.1 := by rw [n3]
  -- the state ahead of place
  obtain ⟨s18, hs18⟩ : ∃ s, s = zt_up (zt_up (zt_up (zt_uL (zt_uL σ1 (t + 2) (wTn w) (σ.2.1 (t + 2) (wTn w) &&& (zt_ls 1 c ^^^ -1))) t 10 (σ.2.1 t 10 ||| zt_ls 1 c)) (t + 7) (w 12) c) (t + 8) (w 12) (wTn w)) t 16 (w 12 + 1) := ⟨_, rfl⟩
  have f18 : FT t σ s18 := by
    have f1 : FT t σ σ1 := ⟨fun x j hx => ⟨n2 x j (by omega), by rw [n2']⟩, by rw [n3]⟩
    rw [hs18]
    exact ((((f1.tr (FT.uL (by omega))).tr (FT.uL (by omega))).tr (FT.up (by omega))).tr (FT.up (by omega))).tr (FT.up (by omega))
  have i18 : ∀ x j, x ≠ t + 5 → x ≠ t + 7 → x ≠ t + 8 → (x ≠ t ∨ j ≠ 16) → s18.1 x j = σ.1 x j := fun x j h1 h2 h3 h4 => by
    rw [hs18, up_o h4, up_o (Or.inl h3), up_o (Or.inl h2), uL_1, uL_1]
    exact n2 x j h1
  have tk : TK s18 (t + 1) w := h.1.of (fun j => i18 _ j (by omega) (by omega) (by omega) (Or.inl (by omega)))
  have su : SUw s18 (zt_su t) w := f18.su ho hs
  obtain ⟨σ2, p1, p2, p3, p4⟩ := ec_placed_up tk su hw hc (by omega)
  have f2 : FT t σ σ2 := f18.tr ⟨fun x j hx => ⟨p3 x j (by omega), by rw [p2]⟩, by rw [p2]⟩
  have tk2 := TK_place hw nx b.1 p4
  have i2 : ∀ x j, x ≠ t + 1 → x ≠ t + 5 → x ≠ t + 7 → x ≠ t + 8 → (x ≠ t ∨ j ≠ 16) → σ2.1 x j = σ.1 x j := fun x j h0 h1 h2 h3 h4 => by
    rw [p3 x j h0, i18 x j h1 h2 h3 h4]
  have su2 : SUw σ2 (zt_su t) w := f2.su ho hs
  refine ⟨σ2, ?_, ⟨tk2, ?_, ?_, ?_, ?_, ?_, ?_⟩, f2⟩
  · unfold F_Tb_putDown
    rw [ed_suitOf hs hw ⟨hc.1, by omega⟩, k1, nl, be_handOf ⟨t2, by omega⟩, be_without, n2', e_setHand ⟨t2, by omega⟩, zt_bdS, uL_o (by omega), n2', be_with, zt_letS, uL_1, uL_1, n2 t 16 (by omega), g16, be_set ⟨by omega, by omega⟩ (by omega), up_o (Or.inl (by omega)), uL_1, uL_1, n2 t 16 (by omega), g16, be_set ⟨by omega, by omega⟩ (by omega), up_o (Or.inl (by omega)), up_o (Or.inl (by omega)), uL_1, uL_1, n2 t 16 (by omega), g16, zt_letS, ← hs18, p1, zt_bdS, p4.2.2.1, su2.2.1, zt_ckI (by unfold zt_in; omega)]
    by_cases hf : wPl w + 1 = w 1
    · rw [if_neg (by omega), if_pos hf]
      exact zt_bd_id
    · rw [if_pos (by omega), if_neg hf]
      rfl
  · intro q x h0 h1 h2 h3
    have g0 : u 0 = w 0 := nx.1
    have hx : x < 4 * w 0 → wHd u x = (if x = c then -1 else wHd w x) := by
      intro hx
      unfold wHd
      split
      · rename_i z; rw [z]; exact cc.1
      · exact we _ (by omega) (by omega) (by omega) (by omega) (by omega)
    have e1 : σ2.2.1 (t + 2) q = (if q = wTn w then σ.2.1 (t + 2) (wTn w) &&& (zt_ls 1 c ^^^ -1) else σ.2.1 (t + 2) q) := by
      rw [p2, hs18, up_2, up_2, up_2, uL_o (Or.inl (by omega))]
      by_cases hq : q = wTn w
      · rw [if_pos hq, hq, uL_s]
      · rw [if_neg hq, uL_o (Or.inr hq), n2']
    rw [e1, g0]
    by_cases hq : q = wTn w
    · rw [if_pos hq, hb_without ⟨hc.1, by omega⟩ ⟨h2, h3⟩, h.2.1 _ x t2 (by omega) h2 h3]
      by_cases hx4 : x < 4 * w 0
      · rw [hx hx4]
        by_cases hxc : x = c
        · simp [hxc]; omega
        · simp [hxc, hq]
      · simp [hx4]
    · rw [if_neg hq, h.2.1 q x h0 h1 h2 h3]
      by_cases hx4 : x < 4 * w 0
      · rw [hx hx4]
        by_cases hxc : x = c
        · have : ¬ wHd w c = q := by rw [hp]; exact fun z => hq z.symm
          simp [hxc, this]; omega
        · simp [hxc]
      · simp [hx4]
  · intro q h0 h1
    obtain ⟨q1, q2, q3, q4⟩ := h.2.2.1 q h0 h1
    have u13 : u 13 = w 13 := nx.2.2.2.2.2.2.1
    refine ⟨?_, ?_, ?_, ?_⟩
    · rw [i2 _ _ (by omega) (by omega) (by omega) (by omega) (Or.inl (by omega)), q1, we _ (by omega) (by omega) (by omega) (by omega) (by omega)]
    · rw [i2 _ _ (by omega) (by omega) (by omega) (by omega) (Or.inl (by omega)), q2, wTk_ag u13 (fun i hi => we _ (by omega) (by omega) (by omega) (by omega) (by omega))]
    · rw [p3 _ _ (by omega), hs18, up_o (Or.inl (by omega)), up_o (Or.inl (by omega)), up_o (Or.inl (by omega)), uL_1, uL_1, n4 q h0 h1]
      exact (lk_lo (fun i h2 h3 => ue _ (by omega) (by omega) (by omega) (by omega)) ⟨h0, h1⟩).symm
    · rw [i2 _ _ (by omega) (by omega) (by omega) (by omega) (Or.inl (by omega)), q4, we _ (by omega) (by omega) (by omega) (by omega) (by omega)]
  · intro k h0 h1
    rw [cc.2.2.2] at h1
    have e7 : σ2.1 (t + 7) k = if k = w 12 then c else σ.1 (t + 7) k := by
      rw [p3 _ _ (by omega), hs18, up_o (Or.inl (by omega)), up_o (Or.inl (by omega))]
      by_cases hk : k = w 12
      · rw [if_pos hk, hk, up_s]
      · rw [if_neg hk, up_o (Or.inr hk), uL_1, uL_1, n2 _ _ (by omega)]
    have e8 : σ2.1 (t + 8) k = if k = w 12 then wTn w else σ.1 (t + 8) k := by
      rw [p3 _ _ (by omega), hs18, up_o (Or.inl (by omega))]
      by_cases hk : k = w 12
      · rw [if_pos hk, hk, up_s]
      · rw [if_neg hk, up_o (Or.inr hk), up_o (Or.inl (by omega)), uL_1, uL_1, n2 _ _ (by omega)]
    rw [e7, e8]
    by_cases hk : k = w 12
    · rw [if_pos hk, if_pos hk, hk, cc.2.1, cc.2.2.1]
      exact ⟨rfl, rfl⟩
    · have e := h.2.2.2.1 k h0 (by omega)
      rw [if_neg hk, if_neg hk, e.1, e.2, we _ (by omega) (by omega) (by omega) (by omega) (by omega), we _ (by omega) (by omega) (by omega) (by omega) (by omega)]
      exact ⟨rfl, rfl⟩
  · intro k h0 h1
    rw [nx.2.2.2.2.2.2.1] at h1
    rw [i2 _ _ (by omega) (by omega) (by omega) (by omega) (Or.inl (by omega)), h.2.2.2.2.1 k h0 h1, we _ (by omega) (by omega) (by omega) (by omega) (by omega)]
  · intro x h0 h1
    rw [p2, hs18, up_2, up_2, up_2, uL_s, hb_with ⟨hc.1, by omega⟩ ⟨h0, h1⟩, h.2.2.2.2.2.1 x h0 h1, wPy_next (w := w) (w' := u) (c := c) pl.1.1 nx.2.2.2.2.2.1 (fun k k0 k1 => we _ (by omega) (by omega) (by omega) (by omega) (by omega)) cc.2.1]
  · obtain ⟨e11, e12, e13, e14, e15, e16, e17, e18⟩ := h.2.2.2.2.2.2
    refine ⟨?_, ?_, ?_, ?_, ?_, ?_, ?_, ?_⟩
    · rw [i2 _ _ (by omega) (by omega) (by omega) (by omega) (Or.inr (by omega)), e11, we _ (by omega) (by omega) (by omega) (by omega) (by omega)]
    · rw [i2 _ _ (by omega) (by omega) (by omega) (by omega) (Or.inr (by omega)), e12, we _ (by omega) (by omega) (by omega) (by omega) (by omega)]
    · rw [i2 _ _ (by omega) (by omega) (by omega) (by omega) (Or.inr (by omega)), e13, we _ (by omega) (by omega) (by omega) (by omega) (by omega)]
    · rw [i2 _ _ (by omega) (by omega) (by omega) (by omega) (Or.inr (by omega)), e14, we _ (by omega) (by omega) (by omega) (by omega) (by omega)]
    · rw [i2 _ _ (by omega) (by omega) (by omega) (by omega) (Or.inr (by omega)), e15, we _ (by omega) (by omega) (by omega) (by omega) (by omega)]
    · rw [p3 _ _ (by omega), hs18, up_s, cc.2.2.2]
    · rw [i2 _ _ (by omega) (by omega) (by omega) (by omega) (Or.inr (by omega)), e17, we _ (by omega) (by omega) (by omega) (by omega) (by omega)]
    · rw [i2 _ _ (by omega) (by omega) (by omega) (by omega) (Or.inr (by omega)), e18, we _ (by omega) (by omega) (by omega) (by omega) (by omega)]
end EC
