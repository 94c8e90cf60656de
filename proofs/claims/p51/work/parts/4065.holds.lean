/-! acts, holds, THE LAW from its loop's head -/
section AC
variable {T : zt_T} {σ : zt_S} {w : Int → Int} {n c : Int}
def AA (n : Int) (T : zt_T) (x : Option (Int × zt_S × zt_T)) : Prop := ∃ a σ' w', x = some (a, σ', T) ∧ PG (n + 1) σ' w' ∧ XI w'
theorem AA.id {v : Int} (hg : PG n σ w) (hx : XI w) : AA n T (some (v, σ, T)) := ⟨v, σ, w, rfl, hg.up (by omega), hx⟩
theorem AA.po {w' : Int → Int} {f : zt_S → Option ((Int ⊕ Nat) × zt_S)} {v : Int} (h : PO n σ w w' f v) (hg : PG n σ w) (hx : XI w') : ∃ σ', f σ = some (.inl v, σ') ∧ AA n T (some (v, σ', T)) := by
  obtain ⟨σ', q1, q2, q3, q4, q5⟩ := h
  exact ⟨σ', q1, v, σ', w', rfl, q2.pg hg q3 q4 q5, hx⟩
theorem z13 (hr : RI w) (h : ¬ 0 < w 12) : w 12 = 0 ∧ w 13 = 0 := by
  have a := hr.n
  have b := hr.pl
  have m := hr.m13
  refine ⟨by omega, ?_⟩
  rcases Int.lt_or_le 0 (w 13) with z | z
  · have : 1 * w 1 ≤ w 13 * w 1 := Int.mul_le_mul_of_nonneg_right (by omega) (by omega)
    omega
  · omega
theorem XI_deal {v : Int} (hr : RI w) : XI (rDeal v (ru w 8 ((w 8 + 1) % w 1))) := by
  have a := hr.n
  have e0 := Int.emod_nonneg (w 8 + 1) (show w 1 ≠ 0 by omega)
  have e1 := Int.emod_lt_of_pos (w 8 + 1) (show 0 < w 1 by omega)
  have r8 := hr.r8 ⟨e0, e1⟩
  have v := rStart_v (w := ru w 8 ((w 8 + 1) % w 1))
  exact XI.zero (by rw [rDeal_s r8 (by omega), v.2.1]) (by rw [rDeal_s r8 (by omega), v.2.2.1])
theorem ac_deal {v : Int} (hg : PG n σ w) (ho : wOv w = true) (hv : 0 ≤ v ∧ v ≤ 99999) : ∃ a σ', F_C_deal v σ = some (.inl a, σ') ∧ AA n T (some (a, σ', T)) := by
  obtain ⟨σ', q1, q2⟩ := AA.po (T := T) (po_deal hg hv ho) hg (XI_deal hg.1.1)
  exact ⟨_, σ', q1, q2⟩
theorem ac_auto {v : Int} (hg : PG n σ w) (hx : XI w) (hn : 0 ≤ n ∧ n ≤ 1000) (hv : 1 ≤ v ∧ v ≤ 52) : ∃ a σ', F_C_auto v σ = some (.inl a, σ') ∧ AA n T (some (a, σ', T)) := by
  by_cases ho : wOv w = true
  · exact ⟨_, σ, po_auto_over hg hv ho, AA.id hg hx⟩
  · obtain ⟨σ', q1, q2⟩ := AA.po (T := T) (po_auto hg hn hv (Bool.eq_false_iff.mpr ho)) hg (XI_au hn _ _ hx hg.1.1 (Or.inr hg.2.1))
    exact ⟨_, σ', q1, q2⟩
theorem ac_play (hg : PG n σ w) (hx : XI w) (hn : 0 ≤ n ∧ n ≤ 1000) (ho : wOv w = false) (hc : 0 ≤ c ∧ c < 4 * w 0) (hh : wHd w c = wTn w) : ∃ a σ', F_C_play c σ = some (.inl a, σ') ∧ AA n T (some (a, σ', T)) := by
  by_cases hl : wLg w c = true
  · obtain ⟨σ', q1, q2⟩ := AA.po (T := T) (po_play hg hn hc ho hh hl) hg (XI_count (XI_plays hx hg.1.1 ho hc) (RI_plays hg.1.1 ho hc hh))
    exact ⟨_, σ', q1, q2⟩
  · exact ⟨_, σ, po_play_ill hg hc ho hh (Bool.eq_false_iff.mpr hl), AA.id hg hx⟩
theorem ov_tn (hr : RI w) : (wOv w = true ∧ wTn w = -1) ∨ (wOv w = false ∧ 0 ≤ wTn w ∧ wTn w < w 1) := by
  have tl := wTn_lt hr
  by_cases ho : wOv w = true
  · exact Or.inl ⟨ho, by unfold wTn; rw [if_pos ho]⟩
  · have ho := Bool.eq_false_iff.mpr ho
    exact Or.inr ⟨ho, tl.2.2 ho, tl.2.1⟩
theorem a_60 {v : Int} (hg : PG n σ w) (hx : XI w) (hn : 0 ≤ n ∧ n ≤ 1000) (hv : 0 ≤ v ∧ v < 2147483648) : AA n T (F_P_acts_60 v σ T) := by
  have hw := hg.1
  have a := hw.1.n
  unfold F_P_acts_60
  rw [px_size9 hw, zt_byI]
  rcases ov_tn hw.1 with ⟨ho, ht⟩ | ⟨ho, t0, t1⟩
  · obtain ⟨x, σ', q1, q2⟩ := ac_deal (T := T) hg ho (v := v % 100000) (by omega)
    rw [ht, zt_ckI (by decide), if_pos (by decide), zt_ckI hv, q1, zt_byI]
    exact q2
  · obtain ⟨d, d0, d1, d2⟩ := has_card hw.1 ho
    have hl : 0 ≤ wHc w (wTn w) ∧ wHc w (wTn w) ≤ 52 := cn_le _ 52 0
    have hp : 0 < wHc w (wTn w) := (cn_pos 52 0).mpr ⟨d, d0, by omega, decide_eq_true d2⟩
    have i0 := Int.emod_nonneg v (show wHc w (wTn w) ≠ 0 by omega)
    have i1 := Int.emod_lt_of_pos v hp
    obtain ⟨f1, f2, f3⟩ := wFi_in (P := fun c => decide (wHd w c = wTn w)) 52 (v % wHc w (wTn w)) 0 i0 i1
    have f3 := of_decide_eq_true f3
    obtain ⟨x, hx'⟩ : ∃ x, x = wFi (fun c => decide (wHd w c = wTn w)) (v % wHc w (wTn w)) 0 52 := ⟨_, rfl⟩
    rw [← hx'] at f1 f2 f3
    have x4 : x < 4 * w 0 := by
      rcases Int.lt_or_le x (4 * w 0) with z | z
      · exact z
      · have := (hw.1.hd (c := x) (by omega) (by omega)).2.2 z
        omega
    obtain ⟨y, σ', q1, q2⟩ := ac_play (T := T) hg hx hn ho ⟨by omega, x4⟩ f3
    rw [zt_ckI (by unfold zt_in; omega), if_neg (by omega), px_held hw ⟨t0, t1⟩, zt_byI, zt_ckI ⟨hv, by omega, by omega⟩, px_inHand hw ⟨t0, t1⟩ ⟨i0, i1⟩, zt_byI, ← hx', q1, zt_byI]
    exact q2
theorem a_107 {v : Int} (hg : PG n σ w) (hx : XI w) (hn : 0 ≤ n ∧ n ≤ 1000) (hv : 0 ≤ v ∧ v < 2147483648) : AA n T (F_P_acts_107 v σ T) := by
  have hw := hg.1
  have a := hw.1.n
  unfold F_P_acts_107 F_P_acts_137
  rw [px_size9 hw, zt_byI]
  rcases ov_tn hw.1 with ⟨ho, ht⟩ | ⟨ho, t0, t1⟩
  · obtain ⟨x, σ', q1, q2⟩ := ac_deal (T := T) hg ho (v := v % 100000) (by omega)
    rw [ht, zt_ckI (by decide), if_pos (by decide), zt_ckI hv, q1, zt_byI]
    exact q2
  · obtain ⟨x, σ', q1, q2⟩ := ac_auto (T := T) hg hx hn (v := 1 + v % 9) (by omega)
    rw [zt_ckI (by unfold zt_in; omega), if_neg (by omega), zt_ckI hv, q1, zt_byI]
    exact q2
theorem a_97 {v : Int} (hg : PG n σ w) (hx : XI w) (hn : 0 ≤ n ∧ n ≤ 1000) (hv : 0 ≤ v ∧ v < 2147483648) : AA n T (F_P_acts_97 v σ T) := by
  obtain ⟨x, σ', q1, q2⟩ := ac_auto (T := T) hg hx hn (v := 1 + v % 3) (by omega)
  unfold F_P_acts_97
  rw [zt_ckI hv, q1, zt_byI]
  exact q2
theorem a_138 {v : Int} (hg : PG n σ w) (hx : XI w) (hv : 0 ≤ v ∧ v < 2147483648) : AA n T (F_P_acts_138 v σ T) := by
  have hw := hg.1
  have a := hw.1.n
  have p0 := Int.emod_nonneg v (show w 1 ≠ 0 by omega)
  have p1 := Int.emod_lt_of_pos v (show 0 < w 1 by omega)
  have v0 := Int.emod_nonneg (v / 4) (show w 2 + 1 ≠ 0 by omega)
  have v1 := Int.emod_lt_of_pos (v / 4) (show 0 < w 2 + 1 by omega)
  unfold F_P_acts_138
  rw [px_size1 hw, zt_byI, zt_ckI ⟨hv, by omega, by omega⟩, zt_ckI hv, px_size2 hw, zt_byI, zt_ckI ⟨⟨by omega, by omega⟩, by omega, by omega⟩]
  by_cases h12 : 0 < w 12
  · rw [po_tell_no hg ⟨p0, p1⟩ ⟨v0, by omega⟩ h12, zt_byI]
    exact AA.id hg hx
  · obtain ⟨σ', q1, q2⟩ := AA.po (T := T) (po_tell hg ⟨p0, p1⟩ ⟨v0, by omega⟩ h12) hg (hx.ex hw.1 (ru_ex (by omega)))
    rw [q1, zt_byI]
    exact q2
theorem a_161 {v : Int} (hg : PG n σ w) (hx : XI w) (hv : 0 ≤ v ∧ v < 2147483648) : AA n T (F_P_acts_161 v σ T) := by
  unfold F_P_acts_161
  rw [zt_ckI hv]
  by_cases h12 : 0 < w 12
  · rw [po_setTrump_no hg (by omega) h12, zt_byI]
    exact AA.id hg hx
  · have z := z13 hg.1.1 h12
    obtain ⟨σ', q1, q2⟩ := AA.po (T := T) (po_setTrump hg (v := v % 5 - 1) (by omega) h12) hg (XI.zero (by
      unfold rTrump
      simp (disch := omega) only [ru_o]
      exact z.1) (by
      unfold rTrump
      simp (disch := omega) only [ru_o]
      exact z.2))
    rw [q1, zt_byI]
    exact q2
theorem a_171 {v : Int} (hg : PG n σ w) (hx : XI w) (hv : 0 ≤ v ∧ v < 2147483648) : AA n T (F_P_acts_171 v σ T) := by
  unfold F_P_acts_171
  rw [zt_ckI hv]
  by_cases hp : 0 < wPl w
  · rw [po_setRule_no hg (by omega) hp, zt_byI]
    exact AA.id hg hx
  · obtain ⟨σ', q1, q2⟩ := AA.po (T := T) (po_setRule hg (v := v % 4) (by omega) hp) hg (hx.ex hg.1.1 (ru_ex (by omega)))
    rw [q1, zt_byI]
    exact q2
theorem a_179 {v : Int} (hg : PG n σ w) (hx : XI w) (hv : 0 ≤ v ∧ v < 2147483648) : AA n T (F_P_acts_179 v σ T) := by
  unfold F_P_acts_179
  obtain ⟨σ', q1, q2⟩ := AA.po (T := T) (po_setFade hg (v := v % 10) (by omega)) hg (hx.ex hg.1.1 (ru_ex (by omega)))
  rw [zt_ckI hv, q1, zt_byI]
  exact q2
theorem a_188 {v : Int} (hg : PG n σ w) (hx : XI w) (hv : 0 ≤ v ∧ v < 2147483648) : AA n T (F_P_acts_188 v σ T) := by
  have key : ∀ x : Int, x = 0 ∨ x = 1 → AA n T (F_P_acts_200 x σ T) := fun x h => by
    obtain ⟨σ', q1, q2, q3, q4, q5⟩ := po_setRevive hg h
    unfold F_P_acts_200
    rw [q1, zt_bdS]
    exact ⟨_, σ', _, rfl, q2.pg hg q3 q4 q5, hx.ex hg.1.1 (ru_ex (by omega))⟩
  unfold F_P_acts_188
  rw [zt_ckI hv, zt_ckI (by unfold zt_in; omega)]
  split
  · exact key 1 (Or.inr rfl)
  · exact key 0 (Or.inl rfl)
theorem p_acts {v : Int} (hg : PG n σ w) (hx : XI w) (hn : 0 ≤ n ∧ n ≤ 1000) (hv : 0 ≤ v ∧ v < 1073741824) : AA n T (F_P_acts v σ T) := by
  have hi : 0 ≤ v / 10 ∧ v / 10 < 2147483648 := by omega
  unfold F_P_acts
  rw [zt_ckI ⟨by omega, by omega⟩, zt_ckI ⟨by omega, by omega⟩, zt_ckI (by unfold zt_in; omega)]
  split
  · exact a_60 hg hx hn hi
  · split
    · exact a_60 hg hx hn hi
    · split
      · exact a_60 hg hx hn hi
      · split
        · exact a_97 hg hx hn hi
        · split
          · exact a_107 hg hx hn hi
          · split
            · exact a_138 hg hx hi
            · split
              · exact a_161 hg hx hi
              · split
                · exact a_171 hg hx hi
                · split
                  · exact a_179 hg hx hi
                  · exact a_188 hg hx hi
end AC
section HO
variable {X : q_X}
theorem h_2 (hX : X.1 ≤ 1000000) : ∀ (m f : Nat) (k n : Int) (σ : zt_S) (T : zt_T) (w : Int → Int), k + m = 26 → m < f → 0 ≤ k → PG n σ w → XI w → (0 ≤ n ∧ n + m ≤ 1000) → TI T → T.1 + 2 * m < 80000 → ∃ σ' T', F_P_holds_2 X f k σ T = some (1, σ', T') ∧ TI T' ∧ T'.1 ≤ T.1 + 2 * m + 2
  | m, 0, _, _, _, _, _, _, h, _, _, _, _, _, _ => absurd h (Nat.not_lt_zero _)
  | 0, f + 1, k, n, σ, T, w, h0, h1, h2, hg, hx, hn, hT, hl => by
    have t2 := hT.1
    obtain ⟨T1, a1, a2, a3⟩ := p_isOnce hg.1 hT (by omega)
    obtain ⟨T2, b1, b2, b3⟩ := p_areTricks hg.1 hx a2 (by omega)
    refine ⟨σ, T2, ?_, b2, by omega⟩
    rw [F_P_holds_2, zt_ckI (by unfold zt_in; omega), if_neg (by omega)]
    unfold F_P_holds_59 F_P_holds_78
    rw [a1, zt_btI, zt_ckI (by decide), if_neg (by decide), b1, zt_btI, zt_ckI (by decide), if_neg (by decide), zt_ckI (Or.inr rfl)]
  | m + 1, f + 1, k, n, σ, T, w, h0, h1, h2, hg, hx, hn, hT, hl => by
    have t2 := hT.1
    obtain ⟨T1, a1, a2, a3⟩ := p_isOnce hg.1 hT (by omega)
    have l1 := p_areLegal (T := T1) hg.1 hx
    obtain ⟨T2, b1, b2, b3⟩ := p_areTricks hg.1 hx a2 (by omega)
    obtain ⟨c, c1, c2, c3⟩ := p_cell (T := T2) (σ := σ) hX (v := k) (by omega)
    obtain ⟨σ1, d1, d2⟩ := p_isPlayed (T := T2) hg hx (by omega) ⟨c2, c3⟩
    obtain ⟨c', e1, e2, e3⟩ := p_cell (T := T2) (σ := σ1) hX (v := k) (by omega)
    obtain ⟨a, σ2, w2, f1, f2, f3⟩ := p_acts (T := T2) d2 hx (by omega) ⟨e2, e3⟩
    obtain ⟨σ', T', g1, g2, g3⟩ := h_2 hX m f (k + 1) (n + 1) σ2 T2 w2 (by omega) (by omega) (by omega) f2 f3 (by omega) b2 (by omega)
    refine ⟨σ', T', ?_, g2, by omega⟩
    rw [F_P_holds_2, zt_ckI (by unfold zt_in; omega), if_pos (by omega), a1, zt_btI, zt_ckI (by decide), if_neg (by decide), l1, zt_btI, zt_ckI (by decide), if_neg (by decide), b1, zt_btI, zt_ckI (by decide), if_neg (by decide), c1, zt_btI, d1, zt_btI, zt_ckI (by decide), if_neg (by decide), e1, zt_btI, f1, zt_btI, g1]
/-- THE LAW, from where both objects stand -/
theorem p_law {σ : zt_S} {T : zt_T} (hX : X.1 ≤ 1000000) (h : TW T []) (hT : TI T) (h1 : T.1 < 100) (hσ : σ.1 0 1 = 0) : ∃ σ' T', F_P_law_16 X σ T = some (1, σ', T') ∧ TI T' ∧ T'.1 ≤ 200 := by
  have t2 := hT.1
  obtain ⟨σ1, T1, w, a1, a2, a3, a4, a5, a6, a7⟩ := p_loads hX h hT (by omega) hσ
  obtain ⟨σ', T', b1, b2, b3⟩ := h_2 hX 24 zt_N 2 0 σ1 T1 w (by omega) (zN (by omega)) (by omega) a2 (XI.zero a3 a4) (by omega) a5 (by omega)
  refine ⟨σ', T', ?_, b2, by omega⟩
  unfold F_P_law_16 F_P_law_38 F_P_holds
  rw [zt_ckI (by omega), a1, zt_btI, zt_ckI (by decide), if_neg (by decide), b1, zt_btI, zt_ckI (by decide), if_neg (by decide), zt_ckI (Or.inr rfl)]
end HO
