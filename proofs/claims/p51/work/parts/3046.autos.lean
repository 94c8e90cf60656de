/-! auto: the cards one behind the other -/
def wNx (w : Int → Int) : Int → Int := rCount (rPlays w (wCh w))
def wAu : Nat → (Int → Int) → (Int → Int)
  | 0, w => w
  | m + 1, w => if wOv w = true then w else wAu m (wNx w)
def wAn : Nat → (Int → Int) → Int
  | 0, _ => 0
  | m + 1, w => if wOv w = true then 0 else 1 + wAn m (wNx w)
section AU
variable {w : Int → Int} {n : Int}
theorem wNx_ok (h : RI w) (ho : wOv w = false) (hb : RB n w) (hn : 0 ≤ n ∧ n ≤ 1000) : RI (wNx w) ∧ RB (n + 1) (wNx w) ∧ (wOv (wNx w) = true ∨ RB n (wNx w)) ∧ ∀ j, (j = 0 ∨ j = 1 ∨ j = 2 ∨ j = 5) → wNx w j = w j := by
  obtain ⟨c1, c2⟩ := wCh_ok h ho
  have ri := RI_plays h ho c1 c2
  have rb : RB n (rPlays w (wCh w)) := ⟨by rw [rPlays_s h ho c1 (by omega)]; exact hb.1, fun p h0 h1 => by rw [rPlays_s h ho c1 (by omega)]; exact hb.2 p h0 h1⟩
  have rc := RI_count ri rb hn
  refine ⟨rc.1, rc.2, ?_, fun j hj => ?_⟩
  · by_cases hv : wOv (rPlays w (wCh w)) = true
    · left
      unfold wNx wOv
      rw [rCount_o ri (by omega), rCount_o ri (by omega), rCount_o ri (by omega)]
      exact hv
    · right
      unfold wNx rCount
      rw [if_neg hv]
      exact rb
  · unfold wNx
    rw [rCount_o ri (by omega), rPlays_s h ho c1 (by omega)]
theorem wAu_ok (hn : 0 ≤ n ∧ n ≤ 1000) : ∀ (m : Nat) (w : Int → Int), RI w → (wOv w = true ∨ RB n w) → RB (n + 1) w → RI (wAu m w) ∧ RB (n + 1) (wAu m w) ∧ ∀ j, (j = 0 ∨ j = 1 ∨ j = 2 ∨ j = 5) → wAu m w j = w j
  | 0, w, h, _, hb => ⟨h, hb, fun _ _ => rfl⟩
  | m + 1, w, h, h1, hb => by
    rw [wAu]
    by_cases ho : wOv w = true
    · rw [if_pos ho]
      exact ⟨h, hb, fun _ _ => rfl⟩
    · rw [if_neg ho]
      have g := wNx_ok h (Bool.eq_false_iff.mpr ho) (h1.resolve_left ho) hn
      have ih := wAu_ok hn m (wNx w) g.1 g.2.2.1 g.2.1
      exact ⟨ih.1, ih.2.1, fun j hj => by rw [ih.2.2 j hj, g.2.2.2 j hj]⟩
theorem wAn_lt : ∀ (m : Nat) (w : Int → Int), 0 ≤ wAn m w ∧ wAn m w ≤ m
  | 0, _ => ⟨Int.le_refl _, Int.le_refl _⟩
  | m + 1, w => by
    have ih := wAn_lt m (wNx w)
    rw [wAn]
    split <;> omega
variable {σ : zt_S}
theorem ec_auto (hn : 0 ≤ n ∧ n ≤ 1000) : ∀ (m f : Nat) (v1 v2 : Int) (w : Int → Int) (σ : zt_S), v2 + m = v1 → m < f → 0 ≤ v2 → v1 ≤ 52 → SUw σ (zt_su 6) w → RI w → TB σ 6 w → (wOv w = true ∨ RB n w) → ∃ σ', F_C_auto_34 f v1 v2 σ = some (.inl (v2 + wAn m w), σ') ∧ TB σ' 6 (wAu m w) ∧ FT 6 σ σ'
  | m, 0, _, _, _, _, _, h1, _, _, _, _, _, _ => absurd h1 (Nat.not_lt_zero m)
  | 0, f + 1, v1, v2, w, σ, h0, h1, h2, h3, hs, hw, ht, hb => by
    refine ⟨σ, ?_, ht, FT.rf⟩
    rw [F_C_auto_34, zt_ckI ⟨by unfold zt_in; omega, by unfold zt_in; omega⟩, if_neg (by omega), wAn, Int.add_zero]
    rfl
  | m + 1, f + 1, v1, v2, w, σ, h0, h1, h2, h3, hs, hw, ht, hb => by
    rw [F_C_auto_34, zt_ckI ⟨by unfold zt_in; omega, by unfold zt_in; omega⟩, if_pos (by omega), wAn, wAu]
    by_cases ho : wOv w = true
    · rw [ed_isOver_t hs hw ht ho, zt_ckI (by decide), if_neg (by decide), if_pos ho, if_pos ho]
      refine ⟨σ, ?_, ht, FT.rf⟩
      rw [Int.add_zero]
      rfl
    · have ho' := Bool.eq_false_iff.mpr ho
      obtain ⟨c1, c2⟩ := wCh_ok hw ho'
      obtain ⟨σ1, p1, p2, p3⟩ := ec_putDown OK6 hs hw ht ho' c1 c2
      have g := wNx_ok hw ho' (hb.resolve_left ho) hn
      obtain ⟨σ', q1, q2, q3⟩ := ec_auto hn m f v1 (v2 + 1) (wNx w) σ1 (by omega) (by omega) (by omega) h3 ((p3.su OK6 hs).ag (g.2.2.2 0 (by omega)) (g.2.2.2 1 (by omega)) (g.2.2.2 2 (by omega)) (g.2.2.2 5 (by omega))) g.1 p2 g.2.2.1
      rw [ed_isOver_f hs hw ht ho, zt_ckI zt_in0, if_pos rfl, ec_choice hs hw ht, zt_bdS, p1, zt_bdS, if_neg ho, if_neg ho]
      refine ⟨σ', ?_, q2, p3.tr q3⟩
      rw [q1, Int.add_assoc]
theorem em_auto (hn : 0 ≤ n ∧ n ≤ 1000) {s : zt_S} : ∀ (m f : Nat) (v1 v2 : Int) (w : Int → Int), v2 + m = v1 → m < f → 0 ≤ v2 → v1 ≤ 52 → RI w → (wOv w = true ∨ RB n w) → F_M_auto_40 f v1 v2 (rs s w) = some (v2 + wAn m w, rs s (wAu m w))
  | m, 0, _, _, _, _, h1, _, _, _, _ => absurd h1 (Nat.not_lt_zero m)
  | 0, f + 1, v1, v2, w, h0, h1, h2, h3, hw, hb => by
    rw [F_M_auto_40, zt_ckI ⟨by unfold zt_in; omega, by unfold zt_in; omega⟩, if_neg (by omega), wAn, wAu, Int.add_zero]
    rfl
  | m + 1, f + 1, v1, v2, w, h0, h1, h2, h3, hw, hb => by
    have a := hw.n
    have b := hw.wpl
    have er : (rs s w).1 164 = w := rs_r _ _
    rw [F_M_auto_40, zt_ckI ⟨by unfold zt_in; omega, by unfold zt_in; omega⟩, if_pos (by omega), wAn, wAu]
    by_cases ho : wOv w = true
    · rw [eb_isOver_t (by rw [er]; exact hw) (by rw [er]; exact ho), zt_ckI (by decide), if_neg (by decide), if_pos ho, if_pos ho, Int.add_zero]
      rfl
    · have ho' := Bool.eq_false_iff.mpr ho
      obtain ⟨c1, c2⟩ := wCh_ok hw ho'
      have g := wNx_ok hw ho' (hb.resolve_left ho) hn
      have ih := em_auto hn (s := s) m f v1 (v2 + 1) (wNx w) (by omega) (by omega) (by omega) h3 g.1 g.2.2.1
      have ri := RI_plays hw ho' c1 c2
      have z1 := em_plays (σ := rs s w) (c := wCh w) (by rw [er]; exact hw) (by rw [er]; exact ho') (by rw [er]; exact c1)
      have rb : RB n (rPlays w (wCh w)) := ⟨by rw [rPlays_s hw ho' c1 (by omega)]; exact (hb.resolve_left ho).1, fun p h0 h1 => by rw [rPlays_s hw ho' c1 (by omega)]; exact (hb.resolve_left ho).2 p h0 h1⟩
      have z2 := em_counts (σ := rs s (rPlays w (wCh w))) (n := n) (by rw [rs_r]; exact ri) (by rw [rs_r]; exact rb) hn
      rw [rs_r, rs_rs] at z1 z2
      have z3 : F_M_auto_71 (F_M_auto_40 f) v1 v2 (wCh w) (rs s w) = some (v2 + (1 + wAn m (wNx w)), rs s (wAu m (wNx w))) := by
        unfold F_M_auto_71
        rw [z1, zt_bdS, z2, zt_bdS]
        show F_M_auto_40 f v1 (v2 + 1) (rs s (wNx w)) = _
        rw [ih, Int.add_assoc]
      rw [eb_isOver_f (by rw [er]; exact hw) (by rw [er]; exact ho), zt_ckI zt_in0, if_pos rfl, eb_inTrick, er, zt_ckI (by unfold zt_in; omega), if_neg ho, if_neg ho]
      by_cases hp : wPl w = 0
      · rw [if_pos hp, em_autoLead (by rw [er]; exact hw) (by rw [er]; exact ho') (by rw [er]; exact hp), er, zt_bdS]
        exact z3
      · rw [if_neg hp, em_autoFollow (by rw [er]; exact hw) (by rw [er]; exact hp), er, zt_bdS]
        exact z3
theorem op_auto {v : Int} (h : Inv n σ) (hn : 0 ≤ n ∧ n ≤ 1000) (hi : zt_in v) : OP (n + 1) (F_L_auto v) (F_M_auto v) σ := by
  have hc := h.1
  by_cases hv : 1 ≤ v ∧ v ≤ 52
  · by_cases ho : wOv (σ.1 164) = true
    · refine AK.op (ak_ok (v := -2) ?_ ?_) h
      · unfold F_L_auto F_C_auto
        rw [ec_needRange hi (by decide) (by decide), if_pos hv, zt_bxS, ed_isOver_t hc.hu hc.1 hc.2.1 ho, zt_ckI (by decide), if_neg (by decide), zt_bxS, zt_letS]
      · have er : (zt_up (zt_uL σ 184 0 (zt_l (-2))) 163 0 0).1 164 = σ.1 164 := up_f (by decide)
        unfold F_M_auto
        rw [zt_letS, eb_inI zl_1 zl_52 hi (by decide) (by decide) hv, eb_fails1 (up_s _ _ _ _), zt_ckI zt_in0, if_pos rfl, eb_isOver_t (by rw [er]; exact hc.1) (by rw [er]; exact ho), zt_ckI (by decide), if_neg (by decide)]
    · obtain ⟨s, q1, q2⟩ := ec_keep hc h.2.2.1
      have ts := q2.tb hc h.2.2.1
      have ss := q2.su hc h.2.2.1
      obtain ⟨σc, p1, p2, p3⟩ := ec_auto hn v.toNat zt_N v 0 (σ.1 164) s (by omega) (zN (by omega)) (by omega) hv.2 ss hc.1 ts (Or.inr h.2.1)
      have g := wAu_ok hn v.toNat (σ.1 164) hc.1 (Or.inr h.2.1) (h.2.1.up (by omega))
      rw [Int.zero_add] at p1
      refine op_done h (σc := σc) (v := wAn v.toNat (σ.1 164)) (w' := wAu v.toNat (σ.1 164)) ?_ (q2.kd h.2.2.1 (fun c j hc => (p3.1 c j (by omega)).1) (fun c j hc => (p3.1 c j (by omega)).2) p3.2 p2) (fun τ e => ?_) g.1 g.2.1 g.2.2
      · unfold F_L_auto F_C_auto
        rw [ec_needRange hi (by decide) (by decide), if_pos hv, zt_bxS, ed_isOver_f hc.hu hc.1 hc.2.1 ho, zt_ckI zt_in0, if_pos rfl, q1, zt_bdS, p1, zt_bxS, zt_letS]
      · obtain ⟨u1, u2⟩ := h.u5 e
        obtain ⟨s', y1, y2⟩ := em_kept u1
        have er : (zt_up τ 163 0 0).1 164 = σ.1 164 := by rw [up_f (by decide), u2]
        have sr : s'.1 164 = σ.1 164 := by rw [y2.row, u2]
        have z := em_auto hn (s := s') v.toNat zt_N v 0 (s'.1 164) (by omega) (zN (by omega)) (by omega) hv.2 (by rw [sr]; exact hc.1) (Or.inr (by rw [sr]; exact h.2.1))
        rw [rs_id, sr, Int.zero_add] at z
        refine ⟨rs s' (wAu v.toNat (σ.1 164)), ?_, y2.ke (fun c j a _ => congrFun (rs_o a) j) rfl (rs_r _ _)⟩
        unfold F_M_auto
        rw [zt_letS, eb_inI zl_1 zl_52 hi (by decide) (by decide) hv, eb_fails1 (up_s _ _ _ _), zt_ckI zt_in0, if_pos rfl, eb_isOver_f (by rw [er]; exact hc.1) (by rw [er]; exact ho), zt_ckI zt_in0, if_pos rfl, y1, zt_bdS, z]
  · refine op_no h (e := 1) (u := 0) (Or.inl rfl) ?_ ?_
    · unfold F_L_auto F_C_auto
      rw [ec_needRange hi (by decide) (by decide), if_neg hv]
      rfl
    · unfold F_M_auto
      rw [zt_letS, eb_inO zl_1 zl_52 hi (by decide) (by decide) hv, eb_fails0 (Or.inl rfl) (up_s _ _ _ _), zt_ckI (by decide), if_neg (by decide), up_up]
end AU
