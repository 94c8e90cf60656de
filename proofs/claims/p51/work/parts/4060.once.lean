/-! isOnce: each card is in one place -/
theorem wFi_in {P : Int → Bool} : ∀ (m : Nat) (i k : Int), 0 ≤ i → i < cn P k m → k ≤ wFi P i k m ∧ wFi P i k m < k + m ∧ P (wFi P i k m) = true
  | 0, i, k, h0, h1 => by rw [cn] at h1; omega
  | m + 1, i, k, h0, h1 => by
    rw [cn] at h1
    rw [wFi]
    by_cases hk : P k = true
    · rw [if_pos hk] at h1 ⊢
      by_cases hi : i = 0
      · rw [if_pos hi]
        exact ⟨Int.le_refl _, by omega, hk⟩
      · rw [if_neg hi]
        have ih := wFi_in (P := P) m (i - 1) (k + 1) (by omega) (by omega)
        exact ⟨by omega, by omega, ih.2.2⟩
    · rw [if_neg hk] at h1 ⊢
      have ih := wFi_in (P := P) m i (k + 1) h0 (by omega)
      exact ⟨by omega, by omega, ih.2.2⟩
theorem wFi_up {P : Int → Bool} : ∀ (m : Nat) (i k : Int), 0 ≤ i → i + 1 < cn P k m → wFi P i k m < wFi P (i + 1) k m
  | 0, i, k, h0, h1 => by rw [cn] at h1; omega
  | m + 1, i, k, h0, h1 => by
    rw [cn] at h1
    rw [wFi, wFi]
    by_cases hk : P k = true
    · rw [if_pos hk] at h1
      rw [if_pos hk, if_pos hk, if_neg (show ¬ i + 1 = 0 by omega)]
      by_cases hi : i = 0
      · rw [if_pos hi]
        have := wFi_in (P := P) m (i + 1 - 1) (k + 1) (by omega) (by omega)
        omega
      · rw [if_neg hi]
        have := wFi_up (P := P) m (i - 1) (k + 1) (by omega) (by omega)
        rw [show i - 1 + 1 = i + 1 - 1 by omega] at this
        exact this
    · rw [if_neg hk] at h1
      rw [if_neg hk, if_neg hk]
      exact wFi_up m i (k + 1) h0 (by omega)
/-- a count of each card -/
def OI (W : Int → Int) (Q : Int → Prop) : Prop := ∀ c, 0 ≤ c → c < 52 → W c = 0 ∨ (W c = 1 ∧ Q c)
theorem OI.mo {W : Int → Int} {Q Q' : Int → Prop} (h : OI W Q) (hq : ∀ c, 0 ≤ c → c < 52 → Q c → Q' c) : OI W Q' := fun c h0 h1 => (h c h0 h1).imp_right (fun z => ⟨z.1, hq c h0 h1 z.2⟩)
theorem OI.pu {W : Int → Int} {Q Q' : Int → Prop} {a : Int} (h : OI W Q) (ha : 0 ≤ a ∧ a < 52) (hn : ¬ Q a) (hq : ∀ c, 0 ≤ c → c < 52 → (Q c ∨ c = a) → Q' c) : OI (ru W a (W a + 1)) Q' := fun c h0 h1 => by
  by_cases hc : c = a
  · subst hc
    rw [ru_s]
    rcases h c h0 h1 with z | z
    · exact Or.inr ⟨by omega, hq c h0 h1 (Or.inr rfl)⟩
    · exact absurd z.2 hn
  · rw [ru_o hc]
    rcases h c h0 h1 with z | z
    · exact Or.inl z
    · exact Or.inr ⟨z.1, hq c h0 h1 (Or.inl z.2)⟩
section ON
variable {T : zt_T} {σ : zt_S} {w : Int → Int} {k : Nat}
theorem KP.g {T' : zt_T} (h : KP k T T') (g : G52 T k) : G52 T' k := by
  unfold G52
  rw [h.1.1, h.1.2]
  exact g
theorem o_24 {r9 : Nat → Int → Int → zt_S → zt_T → Option (Int × zt_S × zt_T)} (hw : CW σ w) {p : Int} (hp : 0 ≤ p ∧ p < w 1) : ∀ (m n : Nat) (v2 i lt : Int) (T : zt_T), i + m = wHc w p → m < n → 0 ≤ i → (i = 0 ∧ lt = -1 ∨ 0 < i ∧ lt = wFi (fun c => decide (wHd w c = p)) (i - 1) 0 52) → G52 T k → OI (T.2.2 k) (fun c => (0 ≤ wHd w c ∧ wHd w c < p) ∨ (wHd w c = p ∧ c ≤ lt)) → ∃ T', F_P_isOnce_24 r9 n k v2 p lt i σ T = r9 k (v2 + m) (p + 1) σ T' ∧ KP k T T' ∧ OI (T'.2.2 k) (fun c => 0 ≤ wHd w c ∧ wHd w c < p + 1)
  | m, 0, _, _, _, _, _, h, _, _, _, _ => absurd h (Nat.not_lt_zero _)
  | 0, n + 1, v2, i, lt, T, h0, h1, h2, h3, h4, h5 => by
    have hl : 0 ≤ wHc w p ∧ wHc w p ≤ 52 := cn_le _ 52 0
    refine ⟨T, ?_, KP.rf, h5.mo (fun c c0 c1 q => by omega)⟩
    rw [F_P_isOnce_24, px_held hw hp, zt_byI, zt_ckI ⟨by unfold zt_in; omega, by unfold zt_in; omega⟩, if_neg (by omega), show v2 + ((0 : Nat) : Int) = v2 by omega]
  | m + 1, n + 1, v2, i, lt, T, h0, h1, h2, h3, h4, h5 => by
    have a := hw.1.n
    have hl : 0 ≤ wHc w p ∧ wHc w p ≤ 52 := cn_le _ 52 0
    obtain ⟨b1, b2, b3⟩ := wFi_in (P := fun c => decide (wHd w c = p)) 52 i 0 h2 (show i < wHc w p by omega)
    obtain ⟨x, hx⟩ : ∃ x, x = wFi (fun c => decide (wHd w c = p)) i 0 52 := ⟨_, rfl⟩
    rw [← hx] at b1 b2 b3
    have b3 : wHd w x = p := of_decide_eq_true b3
    have xl : lt < x := by
      rcases h3 with ⟨e1, e2⟩ | ⟨e1, e2⟩
      · omega
      · have := wFi_up (P := fun c => decide (wHd w c = p)) 52 (i - 1) 0 (by omega) (show i - 1 + 1 < wHc w p by omega)
        rw [show i - 1 + 1 = i by omega, ← hx, ← e2] at this
        exact this
    have lb : -1 ≤ lt := by
      rcases h3 with ⟨e1, e2⟩ | ⟨e1, e2⟩
      · omega
      · have := wFi_in (P := fun c => decide (wHd w c = p)) 52 (i - 1) 0 (by omega) (show i - 1 < wHc w p by omega)
        omega
    have x4 : x < 4 * w 0 := by
      rcases Int.lt_or_le x (4 * w 0) with z | z
      · exact z
      · have := (hw.1.hd (c := x) (by omega) (by omega)).2.2 z
        omega
    have hr := tu_r (T := T) (k := k) (j := x) (v := T.2.2 k x + 1)
    obtain ⟨T', q1, q2, q3⟩ := o_24 (r9 := r9) hw hp m n (v2 + 1) (i + 1) x (zt_tu T k x (T.2.2 k x + 1)) (by omega) (by omega) (by omega) (Or.inr ⟨by omega, by rw [show i + 1 - 1 = i by omega, hx]⟩) h4.tu (by
      rw [hr]
      exact h5.pu ⟨by omega, by omega⟩ (by omega) (fun c c0 c1 q => by
        rcases q with q | q
        · omega
        · subst q; omega))
    refine ⟨T', ?_, KP.tr KP.tu q2, q3⟩
    rw [F_P_isOnce_24, px_held hw hp, zt_byI, zt_ckI ⟨by unfold zt_in; omega, by unfold zt_in; omega⟩, if_pos (by omega), px_inHand hw hp ⟨h2, by omega⟩, zt_byI, ← hx, zt_ckI ⟨by unfold zt_in; omega, by unfold zt_in; omega⟩, if_pos xl, px_holder hw ⟨by omega, x4⟩, zt_byI, b3, zt_ckI ⟨by unfold zt_in; omega, by unfold zt_in; omega⟩, if_pos rfl, zt_ckI (h4.tk ⟨by omega, by omega⟩), zt_ckI (h4.tk ⟨by omega, by omega⟩), zt_letS, q1, show v2 + 1 + (m : Int) = v2 + ((m + 1 : Nat) : Int) by omega]
/-- cards of the first hands -/
def sH (w : Int → Int) : Nat → Int
  | 0 => 0
  | n + 1 => sH w n + wHc w (n : Int)
theorem sH_lt : ∀ n : Nat, 0 ≤ sH w n ∧ sH w n ≤ 52 * n
  | 0 => by rw [sH]; omega
  | n + 1 => by
    have ih := sH_lt n
    have hl : 0 ≤ wHc w (n : Int) ∧ wHc w (n : Int) ≤ 52 := cn_le _ 52 0
    rw [sH]
    omega
theorem o_9 (hw : CW σ w) : ∀ (m n p : Nat) (T : zt_T), (p : Int) + m = w 1 → m < n → G52 T k → OI (T.2.2 k) (fun c => 0 ≤ wHd w c ∧ wHd w c < (p : Int)) → ∃ T', F_P_isOnce_9 n k (sH w p) (p : Int) σ T = F_P_isOnce_91 zt_N k (sH w (w 1).toNat) 0 σ T' ∧ KP k T T' ∧ OI (T'.2.2 k) (fun c => 0 ≤ wHd w c)
  | m, 0, _, _, _, h, _, _ => absurd h (Nat.not_lt_zero _)
  | 0, n + 1, p, T, h0, h1, h2, h3 => by
    have a := hw.1.n
    refine ⟨T, ?_, KP.rf, h3.mo (fun c c0 c1 q => q.1)⟩
    rw [F_P_isOnce_9, px_size1 hw, zt_byI, zt_ckI ⟨by unfold zt_in; omega, by unfold zt_in; omega⟩, if_neg (by omega), show (w 1).toNat = p by omega]
  | m + 1, n + 1, p, T, h0, h1, h2, h3 => by
    have a := hw.1.n
    have hl : 0 ≤ wHc w (p : Int) ∧ wHc w (p : Int) ≤ 52 := cn_le _ 52 0
    obtain ⟨T1, q1, q2, q3⟩ := o_24 (r9 := F_P_isOnce_9 n) (k := k) hw (p := (p : Int)) ⟨by omega, by omega⟩ (wHc w (p : Int)).toNat zt_N (sH w p) 0 (-1) T (by omega) (zN (by omega)) (by omega) (Or.inl ⟨rfl, rfl⟩) h2 (h3.mo (fun c c0 c1 q => Or.inl q))
    obtain ⟨T', r1, r2, r3⟩ := o_9 hw m n (p + 1) T1 (by omega) (by omega) (q2.g h2) (by rw [show ((p + 1 : Nat) : Int) = (p : Int) + 1 by omega]; exact q3)
    refine ⟨T', ?_, q2.tr r2, r3⟩
    rw [F_P_isOnce_9, px_size1 hw, zt_byI, zt_ckI ⟨by unfold zt_in; omega, by unfold zt_in; omega⟩, if_pos (by omega), q1, ← r1, sH, show (((wHc w (p : Int)).toNat : Nat) : Int) = wHc w (p : Int) by omega]
    rfl
theorem o_91 (hw : CW σ w) : ∀ (m n : Nat) (v2 i : Int) (T : zt_T), i + m = w 12 → m < n → 0 ≤ i → G52 T k → OI (T.2.2 k) (fun c => 0 ≤ wHd w c ∨ ∃ j, 0 ≤ j ∧ j < i ∧ w (92 + j) = c) → ∃ T', F_P_isOnce_91 n k v2 i σ T = F_P_isOnce_156 zt_N k (v2 + m) 0 σ T' ∧ KP k T T' ∧ OI (T'.2.2 k) (fun _ => True)
  | m, 0, _, _, _, _, h, _, _, _ => absurd h (Nat.not_lt_zero _)
  | 0, n + 1, v2, i, T, h0, h1, h2, h3, h4 => by
    have p12 := hw.1.p12
    refine ⟨T, ?_, KP.rf, h4.mo (fun _ _ _ _ => trivial)⟩
    rw [F_P_isOnce_91, px_size12 hw, zt_byI, zt_ckI ⟨by unfold zt_in; omega, by unfold zt_in; omega⟩, if_neg (by omega), show v2 + ((0 : Nat) : Int) = v2 by omega]
  | m + 1, n + 1, v2, i, T, h0, h1, h2, h3, h4 => by
    have a := hw.1.n
    have p12 := hw.1.p12
    have pd := hw.1.2.2.2.2.2.2.2.1 i h2 (by omega)
    obtain ⟨x, hx⟩ : ∃ x, x = w (92 + i) := ⟨_, rfl⟩
    rw [← hx] at pd
    have hd : wHd w x = -1 := pd.2.2.1
    have ne := hw.1.2.2.2.2.2.2.2.2.1
    have d0 : 0 ≤ i / w 1 := Int.ediv_nonneg h2 (by omega)
    have d1 : i / w 1 ≤ i := Int.ediv_le_self _ h2
    have hr := tu_r (T := T) (k := k) (j := x) (v := T.2.2 k x + 1)
    obtain ⟨T', q1, q2, q3⟩ := o_91 hw m n (v2 + 1) (i + 1) (zt_tu T k x (T.2.2 k x + 1)) (by omega) (by omega) (by omega) h3.tu (by
      rw [hr]
      refine h4.pu ⟨by omega, by omega⟩ ?_ (fun c c0 c1 q => ?_)
      · rintro (z | ⟨j, j0, j1, j2⟩)
        · omega
        · exact ne j i j0 j1 (by omega) (j2.trans hx)
      · rcases q with (q | ⟨j, j0, j1, j2⟩) | q
        · exact Or.inl q
        · exact Or.inr ⟨j, j0, by omega, j2⟩
        · exact Or.inr ⟨i, h2, by omega, by rw [q, hx]⟩)
    refine ⟨T', ?_, KP.tr KP.tu q2, q3⟩
    rw [F_P_isOnce_91, px_size12 hw, zt_byI, zt_ckI ⟨by unfold zt_in; omega, by unfold zt_in; omega⟩, if_pos (by omega), px_played hw ⟨h2, by omega⟩ (by omega), zt_byI, show wPd w i 0 = x from hx.symm, px_holder hw ⟨pd.1, pd.2.1⟩, zt_byI, hd, zt_ckI (by decide), if_pos rfl, px_played hw ⟨h2, by omega⟩ (by omega), zt_byI, show wPd w i 2 = i / w 1 from rfl, px_size1 hw, zt_byI, zt_ckI ⟨⟨by omega, by omega⟩, by omega, by omega⟩, zt_ckI ⟨by unfold zt_in; omega, by unfold zt_in; omega⟩, if_pos rfl, zt_ckI (h3.tk ⟨by omega, by omega⟩), zt_ckI (h3.tk ⟨by omega, by omega⟩), zt_letS, q1, show v2 + 1 + (m : Int) = v2 + ((m + 1 : Nat) : Int) by omega]
theorem o_156 {v2 : Int} (h3 : G52 T k) (h4 : OI (T.2.2 k) (fun _ => True)) : ∀ (m n : Nat) (i : Int), i + m = 52 → m < n → 0 ≤ i → F_P_isOnce_156 n k v2 i σ T = F_P_isOnce_177 v2 σ T
  | m, 0, _, _, h, _ => absurd h (Nat.not_lt_zero _)
  | 0, n + 1, i, h0, h1, h2 => by
    rw [F_P_isOnce_156, zt_ckI (by unfold zt_in; omega), if_neg (by omega)]
  | m + 1, n + 1, i, h0, h1, h2 => by
    have o := h4 i h2 (by omega)
    rw [F_P_isOnce_156, zt_ckI (by unfold zt_in; omega), if_pos (by omega), zt_ckI (h3.tk ⟨h2, by omega⟩), zt_ckI (by unfold zt_in; omega), if_neg (by omega), o_156 h3 h4 m n (i + 1) (by omega) (by omega) (by omega)]
theorem sH_all (hw : RI w) : sH w (w 1).toNat + w 12 = w 1 * w 2 := by
  have a := hw.n
  have hr := hw.2.2.2.2.2.2.2.2.2.2
  have wp := hw.wpl
  have ep : wPl w = w 12 - w 13 * w 1 := rfl
  have q : w 1 = 2 ∨ w 1 = 3 ∨ w 1 = 4 := by omega
  rcases q with q | q | q
  · have r0 := hr 0 (by omega) (by omega)
    have r1 := hr 1 (by omega) (by omega)
    rw [q] at r0 r1 ep wp
    rw [show (w 1).toNat = 2 by omega, q]
    show 0 + wHc w 0 + wHc w 1 + w 12 = 2 * w 2
    rw [r0, r1]
    split <;> split <;> omega
  · have r0 := hr 0 (by omega) (by omega)
    have r1 := hr 1 (by omega) (by omega)
    have r2 := hr 2 (by omega) (by omega)
    rw [q] at r0 r1 r2 ep wp
    rw [show (w 1).toNat = 3 by omega, q]
    show 0 + wHc w 0 + wHc w 1 + wHc w 2 + w 12 = 3 * w 2
    rw [r0, r1, r2]
    split <;> split <;> split <;> omega
  · have r0 := hr 0 (by omega) (by omega)
    have r1 := hr 1 (by omega) (by omega)
    have r2 := hr 2 (by omega) (by omega)
    have r3 := hr 3 (by omega) (by omega)
    rw [q] at r0 r1 r2 r3 ep wp
    rw [show (w 1).toNat = 4 by omega, q]
    show 0 + wHc w 0 + wHc w 1 + wHc w 2 + wHc w 3 + w 12 = 4 * w 2
    rw [r0, r1, r2, r3]
    split <;> split <;> split <;> split <;> omega
theorem p_isOnce (hw : CW σ w) (hT : TI T) (h1 : T.1 < 90000) : ∃ T', F_P_isOnce σ T = some (1, σ, T') ∧ TI T' ∧ T'.1 = T.1 + 1 := by
  have a := hw.1.n
  have t2 := hT.1
  have p12 := hw.1.p12
  have g : G52 (zt_tn T 52) T.1 := ⟨⟨by omega, by rw [tn_1]; omega, by omega⟩, tn_s⟩
  obtain ⟨T1, a1, a2, a3⟩ := o_9 (k := T.1) hw (w 1).toNat zt_N 0 (zt_tn T 52) (by omega) (zN (by omega)) g (fun c c0 c1 => Or.inl tn_z)
  obtain ⟨T2, b1, b2, b3⟩ := o_91 (k := T.1) hw (w 12).toNat zt_N (sH w (w 1).toNat) 0 T1 (by have := hw.1.pl; omega) (zN (by omega)) (by omega) (a2.g g) (a3.mo (fun c c0 c1 q => Or.inl q))
  have kp := a2.tr b2
  have s := sH_all hw.1
  have c := o_156 (σ := σ) (v2 := w 1 * w 2) (kp.g g) b3 52 zt_N 0 (by omega) (zN (by omega)) (by omega)
  rw [show sH w (w 1).toNat + (((w 12).toNat : Nat) : Int) = w 1 * w 2 by have := hw.1.pl; omega] at b1
  refine ⟨T2, ?_, kp.1.ti (hT.tn (by decide)), kp.1.1⟩
  have tl := wTn_lt hw.1
  have ov : wTn w < 0 ↔ w 12 = w 1 * w 2 := by
    by_cases h : wOv w = true
    · have e := h
      unfold wOv at e
      have e := of_decide_eq_true e
      have f : wTn w = -1 := by unfold wTn; rw [if_pos h]
      omega
    · have h := Bool.eq_false_iff.mpr h
      have := tl.2.2 h
      have e := h
      unfold wOv at e
      have e := of_decide_eq_false e
      omega
  have m0 : 0 ≤ w 1 * w 2 := Int.mul_nonneg (by omega) (by omega)
  have e12 := hw.1.pl
  unfold F_P_isOnce
  rw [zt_ckI ⟨by omega, by omega⟩]
  show F_P_isOnce_9 zt_N T.1 (sH w 0) ((0 : Nat) : Int) σ (zt_tn T 52) = _
  rw [a1, b1, c]
  unfold F_P_isOnce_177 F_P_isOnce_206 F_P_isOnce_221 F_P_isOnce_229
  rw [px_size1 hw, zt_byI, px_size2 hw, zt_byI, zt_ckI ⟨by unfold zt_in; omega, by unfold zt_in; omega⟩, if_pos rfl, px_size9 hw, zt_byI, zt_ckI (by unfold zt_in; omega)]
  by_cases h : wTn w < 0
  · rw [if_pos h, px_size12 hw, zt_byI, zt_ckI ⟨by unfold zt_in; omega, by unfold zt_in; omega⟩, if_pos (ov.mp h), zt_ckI (by decide), if_pos rfl, zt_ckI (Or.inr rfl)]
  · rw [if_neg h, px_size12 hw, zt_byI, zt_ckI ⟨by unfold zt_in; omega, by unfold zt_in; omega⟩, if_neg (fun z => h (ov.mpr z)), zt_ckI (by decide), if_pos rfl, zt_ckI (Or.inr rfl)]
end ON
