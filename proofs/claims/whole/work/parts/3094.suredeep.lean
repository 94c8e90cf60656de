section SD
variable {w u : Int → Int} {c q : Int} {σ τ : zt_S}
theorem em_opens {d lo hi : Int} (hd : 0 ≤ d ∧ d < 13) (hp : PI (σ.1 164)) (hq : σ.1 163 28 = q) (hqi : 0 ≤ q ∧ q < 4) : ∃ τ, F_M_opens d lo hi σ = some ((), τ) ∧ τ.1 164 = σ.1 164 ∧ LV τ d lo hi (if wTn (σ.1 164) = q then 1 else 0) 0 (-1) ∧ (∀ x j, (x < 170 ∨ 174 < x ∨ j ≠ d) → τ.1 x j = σ.1 x j) ∧ τ.2 = σ.2 := by
  obtain ⟨s, hs⟩ : ∃ s, s = zt_up (zt_up (zt_up (zt_up σ 173 d 0) 174 d (-1)) 170 d lo) 171 d hi := ⟨_, rfl⟩
  have s0 : ∀ x j, (x < 170 ∨ 174 < x ∨ j ≠ d) → s.1 x j = σ.1 x j := fun x j h => by
    rw [hs]
    simp (disch := omega) only [up_o]
  have s164 : s.1 164 = σ.1 164 := funext fun j => s0 _ _ (by omega)
  have t := pm_turn (σ := s) (by rw [s164]; exact hp)
  have tl := wTn_ltp hp
  have n := hp.n
  have d0 : 0 ≤ d ∧ d < ((13 : Nat) : Int) := by omega
  have fin : ∀ x, (x = 0 ∨ x = 1) → ∃ τ, F_M_opens_49 x d s = some ((), τ) ∧ τ.1 164 = σ.1 164 ∧ LV τ d lo hi x 0 (-1) ∧ (∀ x j, (x < 170 ∨ 174 < x ∨ j ≠ d) → τ.1 x j = σ.1 x j) ∧ τ.2 = σ.2 := by
    intro x hx
    refine ⟨zt_up s 172 d x, ?_, by rw [up_f (by decide)]; exact s164, ⟨?_, ?_, ?_, ?_, ?_⟩, fun y j h => by rw [up_o (by omega)]; exact s0 y j h, by rw [up_2, hs]; rfl⟩
    · unfold F_M_opens_49
      rw [zt_ckI ⟨d0, hx⟩, zt_letS]
    · rw [up_o (by omega), hs]; simp (disch := omega) only [up_o, up_s]
    · rw [up_o (by omega), hs]; simp (disch := omega) only [up_s]
    · rw [up_s]
    · rw [up_o (by omega), hs]; simp (disch := omega) only [up_o, up_s]
    · rw [up_o (by omega), hs]; simp (disch := omega) only [up_o, up_s]
  unfold F_M_opens
  rw [zt_ckI d0, zt_letS, zt_ckI d0, zt_letS, zt_ckI d0, zt_letS, zt_ckI d0, zt_letS, ← hs, t, zt_bdS, s0 163 28 (by omega), hq, s164, zt_ckI ⟨by unfold zt_in; omega, by unfold zt_in; omega⟩]
  by_cases z : wTn (σ.1 164) = q
  · rw [if_pos z, if_pos z]; exact fin 1 (Or.inr rfl)
  · rw [if_neg z, if_neg z]; exact fin 0 (Or.inl rfl)
theorem em_deepens {d lo hi own nx b g : Int} (hd : 0 ≤ d ∧ d < 12) (hl : LV σ d lo hi own nx b) (ho : own = 0 ∨ own = 1) (hz : zt_in lo ∧ zt_in hi ∧ zt_in b) (hg : F_M_gains d σ = some (g, σ)) (hp : PI (σ.1 164)) (hq : σ.1 163 28 = q) (hqi : 0 ≤ q ∧ q < 4) : ∃ τ, F_M_deepens d σ = some ((), τ) ∧ τ.1 164 = σ.1 164 ∧ LV τ (d + 1) ((if own = 1 ∧ lo < b then b else lo) - g) ((if own = 0 ∧ ¬ b = -1 ∧ b < hi then b else hi) - g) (if wTn (σ.1 164) = q then 1 else 0) 0 (-1) ∧ (∀ x j, (x < 170 ∨ 174 < x ∨ j ≠ d + 1) → τ.1 x j = σ.1 x j) ∧ τ.2 = σ.2 := by
  obtain ⟨l1, l2, l3, l4, l5⟩ := hl
  have d0 : 0 ≤ d ∧ d < ((13 : Nat) : Int) := by omega
  have zo : zt_in own := by unfold zt_in; omega
  have op := fun lo' hi' => em_opens (σ := σ) (d := d + 1) (lo := lo') (hi := hi') (by omega) hp hq hqi
  have last : ∀ lo' hi', ∃ τ, F_M_deepens_78 d g lo' hi' σ = some ((), τ) ∧ τ.1 164 = σ.1 164 ∧ LV τ (d + 1) (lo' - g) (hi' - g) (if wTn (σ.1 164) = q then 1 else 0) 0 (-1) ∧ (∀ x j, (x < 170 ∨ 174 < x ∨ j ≠ d + 1) → τ.1 x j = σ.1 x j) ∧ τ.2 = σ.2 := by
    intro lo' hi'
    obtain ⟨τ, g1, g2⟩ := op (lo' - g) (hi' - g)
    refine ⟨τ, ?_, g2⟩
    unfold F_M_deepens_78
    rw [g1, zt_bdS]
  unfold F_M_deepens F_M_deepens_36 F_M_deepens_42 F_M_deepens_72
  rw [hg, zt_bdS, zt_ckI d0, zt_ckI d0, l3, zt_ckI zo, l5, l1, l2]
  by_cases o0 : own = 0
  · rw [if_pos o0, zt_ckI d0, zt_ckI d0, zt_ckI zo, if_pos o0, zt_ckI hz.2.2, if_neg (fun (z : own = 1 ∧ lo < b) => by omega)]
    by_cases b1 : b = -1
    · rw [if_pos b1, zt_ckI d0, if_neg (fun z => z.2.1 b1)]
      exact last lo hi
    · rw [if_neg b1, zt_ckI d0, zt_ckI ⟨hz.2.2, hz.2.1⟩]
      by_cases b2 : b < hi
      · rw [if_pos b2, if_pos ⟨o0, b1, b2⟩]
        exact last lo b
      · rw [if_neg b2, zt_ckI d0, if_neg (fun z => b2 z.2.2)]
        exact last lo hi
  · have o1 : own = 1 := by omega
    rw [if_neg o0, zt_ckI d0, zt_ckI ⟨hz.2.2, hz.1⟩, if_neg (fun (z : own = 0 ∧ ¬ b = -1 ∧ b < hi) => o0 z.1)]
    by_cases b1 : lo < b
    · rw [if_pos b1, zt_ckI d0, zt_ckI zo, if_neg o0, zt_ckI d0, if_pos ⟨o1, b1⟩]
      exact last b hi
    · rw [if_neg b1, zt_ckI d0, zt_ckI d0, zt_ckI zo, if_neg o0, zt_ckI d0, if_neg (fun z => b1 z.2)]
      exact last lo hi
/-- back from a level: the card weighed -/
theorem em_backs {d lo hi own nx b v : Int} (hd : 0 ≤ d ∧ d < 13) (hl : LV σ d lo hi own nx b) (ho : own = 0 ∨ own = 1) (hz : zt_in lo ∧ zt_in hi ∧ zt_in b) (hv : 0 ≤ v ∧ v ≤ 20) (e : EV w u) (hw : RI w) (hov : wOv w = false) (hc : 0 ≤ c ∧ c < 4 * w 0) (hp : wHd w c = wTn w) (e2 : EV (rPlays w c) (σ.1 164)) (f2 : FW (rGo u c) (σ.1 164)) (h5 : σ.1 175 d = c) (h6 : σ.1 176 d = u 9) (h7 : σ.1 177 d = u 10) (h8 : σ.1 178 d = u 11) (h9 : σ.1 179 d = u 13) (hq : σ.1 163 28 = q) (hqi : 0 ≤ q ∧ q < 4) : ∃ u3 τ, F_M_backs d v σ = some ((), τ) ∧ τ.1 164 = u3 ∧ EV w u3 ∧ FW u u3 ∧ (ct own lo hi (w 2 - w 13) (wb own b (gn q w c + v)) → LV τ d lo hi own (4 * w 0) (wb own b (gn q w c + v))) ∧ (¬ ct own lo hi (w 2 - w 13) (wb own b (gn q w c + v)) → LV τ d lo hi own nx (wb own b (gn q w c + v))) ∧ FD d σ τ ∧ (d = 0 → τ.1 163 29 = if b = -1 ∨ (own = 1 ∧ b < gn q w c + v) ∨ (own = 0 ∧ gn q w c + v < b) then c else σ.1 163 29) := by
  have d0 : 0 ≤ d ∧ d < ((13 : Nat) : Int) := by omega
  have n := hw.n
  have pl := hw.pl
  have wp := hw.wpl
  have m13 := hw.m13
  have gg := gn_in (q := q) (w := w) (c := c)
  have s12 := e2.1 12 (by omega) (by omega)
  have m := py_more hw hov hc hp
  have e9 := e.1 9 (by omega) (by omega)
  have e13 := e.1 13 (by omega) (by omega)
  have s1 : σ.1 164 1 = w 1 := by rw [e2.1 1 (by omega) (by omega), rPlays_s hw hov hc (by omega)]
  obtain ⟨u3, g1, g2, g3⟩ := em_takes hd e hw hov hc hp e2 f2 h5 h6 h7 h8 h9 hq (by unfold zt_in; omega)
  obtain ⟨l1, l2, l3, l4, l5⟩ := hl
  have r3 : (rs σ u3).1 164 = u3 := rs_r _ _
  have lv : LV (rs σ u3) d lo hi own nx b := ⟨by rw [rs_o (by decide)]; exact l1, by rw [rs_o (by decide)]; exact l2, by rw [rs_o (by decide)]; exact l3, by rw [rs_o (by decide)]; exact l4, by rw [rs_o (by decide)]; exact l5⟩
  obtain ⟨τ, k1, k2, k3, k4, k5, k6, k7⟩ := em_weighs (r := gn q w c + v) hd lv ho hz.2.2 (by unfold zt_in; omega) hz.1 hz.2.1 (by rw [r3]; exact g2.pi hw.pi)
  rw [r3, g2.1 2 (by omega) (by omega), g2.1 13 (by omega) (by omega), g2.1 0 (by omega) (by omega)] at k3
  rw [r3, g2.1 2 (by omega) (by omega), g2.1 13 (by omega) (by omega)] at k4
  have fd : FD d σ (rs σ u3) := ⟨fun x j h1 h2 h3 => by rw [rs_o h1], fun _ => by rw [rs_o (by decide)], rfl⟩
  refine ⟨u3, τ, ?_, by rw [k2]; exact r3, g2, g3, k3, k4, fd.tr k5, fun z => by rw [k6 z, rs_o (by decide), rs_o (by decide), ← z, h5]⟩
  unfold F_M_backs
  rw [zt_ckI d0, zt_ckI d0, h6, h9, s12, m.1, s1, e9, e13]
  have tn := tn_pl hov
  have pe : w 9 + (w 12 + 1 - 1 - w 13 * w 1) = w 9 + wPl w := by unfold wPl; omega
  rw [pe, zt_ckI (by omega), ← tn]
  rw [zt_letS, g1, zt_bdS, k1, zt_bdS]
end SD
