/-! THE HEADER, the reference's side -/
def FM3 (τ τ' : zt_S) : Prop := (∀ c j, c ≠ 165 → (c ≠ 163 ∨ (j ≠ 11 ∧ j ≠ 12 ∧ j ≠ 13 ∧ j ≠ 14 ∧ j ≠ 16 ∧ j ≠ 17)) → τ'.1 c j = τ.1 c j) ∧ (∀ c j, (c ≠ 163 ∨ j ≠ 15) → τ'.2.1 c j = τ.2.1 c j) ∧ τ'.2.2 = τ.2.2
theorem hW_0 : Int64.ofInt (hW 0) = 48686 := by decide +kernel
theorem hW_1 : Int64.ofInt (hW 1) = 369932 := by decide +kernel
theorem hW_2 : Int64.ofInt (hW 2) = 10998790 := by decide +kernel
theorem hW_3 : Int64.ofInt (hW 3) = 146957 := by decide +kernel
theorem hW_4 : Int64.ofInt (hW 4) = 118940 := by decide +kernel
theorem hW_5 : Int64.ofInt (hW 5) = 261377717 := by decide +kernel
theorem hW_6 : Int64.ofInt (hW 6) = 239872 := by decide +kernel
theorem hW_7 : Int64.ofInt (hW 7) = 377761 := by decide +kernel
theorem hW_8 : Int64.ofInt (hW 8) = 158575 := by decide +kernel
theorem hW_9 : Int64.ofInt (hW 9) = 397641 := by decide +kernel
section HM
variable {B : Int → Int} {N : Int} {σ τ : zt_S} {s : PS} {r u : Int → Int} {z : ZS} {lo hi : Int}
theorem FM3.rf : FM3 τ τ := ⟨fun _ _ _ _ => rfl, fun _ _ _ => rfl, rfl⟩
theorem FM3.tr {a b c : zt_S} (h : FM3 a b) (g : FM3 b c) : FM3 a c := ⟨fun x j h1 h2 => by rw [g.1 x j h1 h2, h.1 x j h1 h2], fun x j hx => by rw [g.2.1 x j hx, h.2.1 x j hx], g.2.2.trans h.2.2⟩
theorem FT3.m {τ' : zt_S} (h : FT3 τ τ') : FM3 τ τ' := ⟨fun c j _ h2 => h.1 c j h2, h.2.1, h.2.2⟩
theorem FM3.up {j v : Int} : FM3 τ (zt_up τ 165 j v) := ⟨fun c i h1 _ => up_o (Or.inl h1), fun _ _ _ => rfl, rfl⟩
theorem FT3.row {τ' : zt_S} (h : FT3 τ τ') (e : τ.1 165 = r) : τ'.1 165 = r := by
  rw [← e]
  exact funext fun j => h.1 165 j (Or.inl (by decide))
theorem row5_up {j v : Int} (e : τ.1 165 = r) : (zt_up τ 165 j v).1 165 = ru r j v := by
  rw [up_rz, rz_r, e]
theorem MP.up {j v : Int} (h : MP B N τ s) : MP B N (zt_up τ 165 j v) s := h.l (fun i => up_o (Or.inl (by decide))) (fun i _ _ => up_o (Or.inl (by decide))) rfl
theorem MP.rz {q : Int → Int} (h : MP B N τ s) : MP B N (rz 165 τ q) s := h.l (fun i => rz_o (by decide)) (fun i _ _ => rz_o (by decide)) rfl
theorem FM3.rz {q : Int → Int} : FM3 τ (rz 165 τ q) := ⟨fun c j h1 _ => rz_o h1, fun _ _ _ => rfl, rfl⟩
theorem em_wn {β : Type} {k : Nat} {j : Int} {hh : Int64} (he : hh = Int64.ofInt (hW k)) (hk : k < 10) (hl : 0 ≤ lo ∧ lo < 1000000) (hi' : -1 ≤ hi ∧ hi < 1000000) (h : MP B N τ z.2) (hq : τ.1 165 = z.1) (K : zt_S → Option β) : ∃ τ', (zt_bd (F_M_passes hh τ) fun a s2 => zt_ck (zt_in a) <| if a = (0 : Int) then K s2 else zt_bd (F_M_number lo hi s2) fun v s3 => zt_let (zt_up s3 165 j v) fun s4 => K s4) = K τ' ∧ MP B N τ' (wn B N k lo hi j z).2 ∧ τ'.1 165 = (wn B N k lo hi j z).1 ∧ FM3 τ τ' := by
  obtain ⟨τ1, g1, g2, g3⟩ := em_passes hk he h
  unfold pWd at g2
  unfold wn
  rw [g1, zt_bdS]
  by_cases hw : pWb B N (q_big + 1 + k) z.2 = true
  · rw [if_pos hw] at g2
    obtain ⟨τ2, k1, k2, k3⟩ := em_number (lo := lo) (hi := hi) g2 hl hi'
    rw [if_pos hw, zt_ckI (by decide), if_neg (by decide), if_pos hw, k1, zt_bdS, zt_letS]
    exact ⟨_, rfl, k2.up, row5_up (k3.row (g3.row hq)), (g3.m.tr k3.m).tr FM3.up⟩
  · rw [if_neg hw] at g2
    rw [if_neg hw, zt_ckI (by decide), if_pos rfl, if_neg hw]
    exact ⟨τ1, rfl, g2, g3.row hq, g3.m⟩
theorem em_wf {β : Type} {k : Nat} {j : Int} {hh : Int64} (he : hh = Int64.ofInt (hW k)) (hk : k < 10) (h : MP B N τ z.2) (hq : τ.1 165 = z.1) (K : zt_S → Option β) : ∃ τ', (zt_bd (F_M_passes hh τ) fun a s2 => zt_ck (zt_in a) <| if a = (0 : Int) then K s2 else zt_let (zt_up s2 165 j (1 : Int)) fun s4 => K s4) = K τ' ∧ MP B N τ' (wf B N k j z).2 ∧ τ'.1 165 = (wf B N k j z).1 ∧ FM3 τ τ' := by
  obtain ⟨τ1, g1, g2, g3⟩ := em_passes hk he h
  unfold pWd at g2
  unfold wf
  rw [g1, zt_bdS]
  by_cases hw : pWb B N (q_big + 1 + k) z.2 = true
  · rw [if_pos hw] at g2
    rw [if_pos hw, zt_ckI (by decide), if_neg (by decide), if_pos hw, zt_letS]
    exact ⟨_, rfl, g2.up, row5_up (g3.row hq), g3.m.tr FM3.up⟩
  · rw [if_neg hw] at g2
    rw [if_neg hw, zt_ckI (by decide), if_pos rfl, if_neg hw]
    exact ⟨τ1, rfl, g2, g3.row hq, g3.m⟩
theorem em_begins_3 {a b c : Int} : ∀ (m f : Nat) (k : Int) (q : Int → Int), k + m = 274 → m < f → 0 ≤ k → F_M_begins_3 f a b c k (rz 165 τ q) = F_M_begins_25 a b c (rz 165 τ (fl k 274 0 q))
  | m, 0, _, _, _, h1, _ => absurd h1 (Nat.not_lt_zero m)
  | 0, f + 1, k, q, h0, h1, h2 => by
    rw [F_M_begins_3, zt_ckI (by unfold zt_in; omega), if_neg (by omega), fl_nil (by omega)]
  | m + 1, f + 1, k, q, h0, h1, h2 => by
    rw [F_M_begins_3, zt_ckI (by unfold zt_in; omega), if_pos (by omega), zt_ckI (by omega), zt_letS, rz_up, em_begins_3 m f (k + 1) _ (by omega) (by omega) (by omega), fl_step (by omega)]
theorem em_begins {a b c : Int} (h : τ.1 165 = u) : F_M_begins a b c τ = some ((), rz 165 τ (rBg u a b c)) := by
  have e := em_begins_3 (τ := τ) (a := a) (b := b) (c := c) 274 zt_N 0 u (by omega) (zN (by omega)) (by omega)
  rw [← h, rz_id, h] at e
  unfold F_M_begins
  rw [e]
  unfold F_M_begins_25
  rw [zt_letS, zt_letS, zt_letS, zt_letS, zt_letS, zt_letS, zt_letS, rz_up, rz_up, rz_up, rz_up, rz_up, rz_up, rz_up, em_starts0 (by rw [rz_r, ru_o (by omega), ru_o (by omega), ru_s]; unfold zt_in; omega), zt_bdS, rz_r, rz_rz]
  rfl
theorem em_trump (h : MP B N τ z.2) (hq : τ.1 165 = z.1) (hw : pWb B N (q_big + 1 + 2) z.2 = true) (h' : MP B N σ (pX B N z.2)) (hq' : σ.1 165 = z.1) : ∃ τ', F_M_readsTrump σ = some ((), τ') ∧ MP B N τ' (trZ B N z).2 ∧ τ'.1 165 = (trZ B N z).1 ∧ FM3 σ τ' := by
  unfold trZ
  rw [if_pos hw]
  obtain ⟨τ2, b1, b2, b3⟩ := em_number (lo := 0) (hi := 3) h' (by decide) (by decide)
  generalize hz1 : ((ru z.1 4 (pPv B N 0 3 (pX B N z.2)), pNu B N 0 3 (pX B N z.2)) : ZS) = z1
  have b5 : MP B N (zt_up τ2 165 4 (pPv B N 0 3 (pX B N z.2))) z1.2 := by rw [← hz1]; exact b2.up
  have q2 : (zt_up τ2 165 4 (pPv B N 0 3 (pX B N z.2))).1 165 = z1.1 := by rw [← hz1]; exact row5_up (b3.row hq')
  obtain ⟨τ3, c1, c2, c3, c4⟩ := em_wn (k := 3) (lo := 0) (hi := 30) (j := 5) hW_3.symm (by decide) (by decide) (by decide) b5 q2 F_M_readsTrump_35
  obtain ⟨τ4, d1, d2, d3, d4⟩ := em_wn (k := 4) (lo := 0) (hi := 9) (j := 6) hW_4.symm (by decide) (by decide) (by decide) c2 c3 F_M_readsTrump_59
  obtain ⟨τ5, e1, e2, e3, e4⟩ := em_wf (k := 5) (j := 7) hW_5.symm (by decide) d2 d3 F_M_readsTrump_77
  have d1' : F_M_readsTrump_35 τ3 = F_M_readsTrump_59 τ4 := d1
  have e1' : F_M_readsTrump_59 τ4 = F_M_readsTrump_77 τ5 := e1
  refine ⟨τ5, ?_, e2, e3, (b3.m.tr FM3.up).tr (c4.tr (d4.tr e4))⟩
  unfold F_M_readsTrump
  rw [b1, zt_bdS, zt_letS]
  refine c1.trans ?_
  rw [d1', e1']
  rfl
/-- the trump is lit -/
def rL (r : Int → Int) : Int → Int := ru (ru (ru r 9 (r 8)) 10 (r 4)) 11 (if r 4 = -1 then 0 else r 5)
theorem em_light5 (h : RR (τ.1 165)) : F_M_lights 165 274 (zt_up τ 165 9 (τ.1 165 8)) = some ((), rz 165 τ (rL (τ.1 165))) := by
  obtain ⟨h0, h1, h2, h3, h4, h5, h6, h7, h8, h9, h15⟩ := h
  have e : zt_up τ 165 9 (τ.1 165 8) = rz 165 τ (ru (τ.1 165) 9 (τ.1 165 8)) := up_rz _ _ _ _
  rw [e]
  unfold F_M_lights
  rw [zt_ckI (by decide), zt_ckI (by decide), zt_letS, zt_ckI (by decide), up_s, rz_r, ru_o (by decide), zt_ckI (by unfold zt_in; omega), rz_up]
  unfold F_M_lights_25 rL
  by_cases h : τ.1 165 4 = -1
  · rw [if_pos h, if_pos h, zt_ckI (by decide), zt_letS, rz_up]
  · rw [if_neg h, if_neg h, zt_ckI (by decide), zt_ckI (by decide), zt_letS, rz_r, ru_o (by decide), ru_o (by decide), rz_up]
theorem em_head (h : MP B N τ s) (hq : τ.1 165 = u) : ∃ τ', F_M_readsHead τ = some ((), τ') ∧ MP B N τ' (zh B N u s).2 ∧ ((zh B N u s).2.1 = 0 → τ'.1 165 = rL (zh B N u s).1) ∧ FM3 τ τ' := by
  have si := sz_in (B := B) (N := N) (s := s)
  have mh := mH_in si.1 si.2.1
  have RZ := zh_R (B := B) (N := N) (u := u) (s := s)
  obtain ⟨τ1, a1, a2, a3⟩ := em_passes (k := 0) (by decide) hW_0.symm h
  unfold pWd at a2
  unfold F_M_readsHead
  rw [a1, zt_bdS]
  by_cases hw : pWb B N (q_big + 1 + 0) s = true
  · have e1 : sz1 B N s = pX B N s := if_pos hw
    rw [if_pos hw] at a2
    rw [if_pos hw, zt_ckI (by decide), if_neg (by decide)]
    obtain ⟨τ2, b1, b2, b3⟩ := em_number (lo := 4) (hi := 13) a2 (by decide) (by decide)
    have b1 : F_M_number 4 13 τ1 = some (szA B N s, τ2) := by unfold szA; rw [e1]; exact b1
    have b2 : MP B N τ2 (sz2 B N s) := by unfold sz2; rw [e1]; exact b2
    obtain ⟨τ3, c1, c2, c3⟩ := em_number (lo := 2) (hi := 4) b2 (by decide) (by decide)
    have c1 : F_M_number 2 4 τ2 = some (szB B N s, τ3) := c1
    have c2 : MP B N τ3 (sz3 B N s) := c2
    obtain ⟨τ4, d1, d2, d3⟩ := em_number (lo := 1) (hi := mH (szA B N s) (szB B N s)) c2 (by decide) (by omega)
    have d1 : F_M_number 1 (mH (szA B N s) (szB B N s)) τ3 = some (szC B N s, τ4) := d1
    have d2 : MP B N τ4 (sz4 B N s) := d2
    have q0 := Int.ediv_le_self (a := 4 * szA B N s) (szB B N s) (by omega)
    have q1 := Int.ediv_nonneg (a := 4 * szA B N s) (b := szB B N s) (by omega) (by omega)
    have lm : F_M_lesser 13 (4 * szA B N s / szB B N s) τ3 = some (mH (szA B N s) (szB B N s), τ3) := by
      unfold F_M_lesser F_M_lesser_10 mH
      rw [zt_ckI ⟨by decide, by unfold zt_in; omega⟩]
      split <;> rfl
    rw [b1, zt_bdS, c1, zt_bdS, zt_ckI (by omega), lm, zt_bdS, d1, zt_bdS, em_begins (d3.row (c3.row (b3.row (a3.row hq)))), zt_bdS]
    have g0 : MP B N (rz 165 τ4 (rBg u (szA B N s) (szB B N s) (szC B N s))) (rBg u (szA B N s) (szB B N s) (szC B N s), sz4 B N s).2 := d2.rz
    have g1 : (rz 165 τ4 (rBg u (szA B N s) (szB B N s) (szC B N s))).1 165 = ((rBg u (szA B N s) (szB B N s) (szC B N s), sz4 B N s) : ZS).1 := rz_r _ _ _
    have f4 : FM3 τ (rz 165 τ4 (rBg u (szA B N s) (szB B N s) (szC B N s))) := ((a3.m.tr b3.m).tr (c3.m.tr d3.m)).tr FM3.rz
    obtain ⟨τ5, i1, i2, i3, i4⟩ := em_wn (k := 1) (lo := 0) (hi := 3) (j := 3) hW_1.symm (by decide) (by decide) (by decide) g0 g1 (F_M_readsHead_77 (szB B N s))
    have i2 : MP B N τ5 (zh1 B N u s).2 := i2
    have i3 : τ5.1 165 = (zh1 B N u s).1 := i3
    have z11 : (zh1 B N u s).1 1 = szB B N s := by
      unfold zh1
      rw [wn_o (by decide)]
      exact (rBg_v (u := u) (a := szA B N s) (b := szB B N s) (c := szC B N s)).2.1
    have z21 : (zh2 B N u s).1 1 = szB B N s := by
      unfold zh2
      rw [trZ_o (by decide)]
      exact z11
    -- the trump
    have t : ∃ τ6, F_M_readsHead_77 (szB B N s) τ5 = F_M_readsHead_91 (szB B N s) τ6 ∧ MP B N τ6 (zh2 B N u s).2 ∧ τ6.1 165 = (zh2 B N u s).1 ∧ FM3 τ5 τ6 := by
      obtain ⟨τ6, j1, j2, j3⟩ := em_passes (k := 2) (by decide) hW_2.symm i2
      unfold pWd at j2
      unfold F_M_readsHead_77
      rw [j1, zt_bdS]
      by_cases hw2 : pWb B N (q_big + 1 + 2) (zh1 B N u s).2 = true
      · rw [if_pos hw2] at j2
        obtain ⟨τ7, k1, k2, k3, k4⟩ := em_trump i2 i3 hw2 j2 (j3.row i3)
        rw [if_pos hw2, zt_ckI (by decide), if_neg (by decide), k1, zt_bdS]
        exact ⟨τ7, rfl, k2, k3, j3.m.tr k4⟩
      · rw [if_neg hw2] at j2
        rw [if_neg hw2, zt_ckI (by decide), if_pos rfl]
        have e : zh2 B N u s = zh1 B N u s := by
          unfold zh2 trZ
          rw [if_neg hw2]
        rw [e]
        exact ⟨τ6, rfl, j2, j3.row i3, j3.m⟩
    obtain ⟨τ6, t1, t2, t3, t4⟩ := t
    obtain ⟨τ7, k1, k2, k3, k4⟩ := em_wn (k := 6) (lo := 0) (hi := szB B N s - 1) (j := 8) hW_6.symm (by decide) (by decide) (by omega) t2 t3 F_M_readsHead_116
    have ez3 : wn B N 6 0 (szB B N s - 1) 8 (zh2 B N u s) = zh3 B N u s := by
      unfold zh3
      rw [z21]
    rw [ez3] at k2 k3
    obtain ⟨τ8, l1, l2, l3, l4⟩ := em_wn (k := 7) (lo := 0) (hi := 99999) (j := 15) hW_7.symm (by decide) (by decide) (by decide) k2 k3 F_M_readsHead_140
    have l2 : MP B N τ8 (zh4 B N u s).2 := l2
    have l3 : τ8.1 165 = (zh4 B N u s).1 := l3
    obtain ⟨τ9, m1, m2, m3⟩ := em_must (b := 59) l2 (by decide)
    have l5 := m3.row l3
    have k1' : F_M_readsHead_91 (szB B N s) τ6 = F_M_readsHead_116 τ7 := k1
    have l1' : F_M_readsHead_116 τ7 = F_M_readsHead_140 τ8 := l1
    refine ⟨rz 165 τ9 (rL (τ9.1 165)), ?_, m2.rz, fun _ => ?_, ((f4.tr i4).tr (t4.tr k4)).tr ((l4.tr m3.m).tr FM3.rz)⟩
    · refine i1.trans ?_
      rw [t1, k1', l1']
      unfold F_M_readsHead_140
      rw [m1, zt_bdS, zt_letS, em_light5 (by rw [l5]; exact RZ.2.2.2.1), zt_bdS]
    · rw [rz_r, l5]
      rfl
  · rw [if_neg hw] at a2
    have e1 : sz1 B N s = pF B N 1 s := if_neg hw
    have ne : ¬ (sz1 B N s).1 = 0 := by rw [e1]; exact pF_ne (by decide)
    have ez := zh_f (u := u) ne
    obtain ⟨τ2, b1, b2, b3⟩ := em_wrongs (k := 1) a2 (by decide)
    rw [if_neg hw, zt_ckI (by decide), if_pos rfl, b1, zt_bdS]
    refine ⟨τ2, rfl, by rw [ez, e1]; exact b2, fun z => absurd z (by rw [ez]; exact ne), a3.m.tr b3.m⟩
end HM
