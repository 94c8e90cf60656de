/-! THE SCRIPT'S CLAUSES -/
section CS
variable (B : Int → Int) (N : Int)
def cdS (p : Int) (z : ZS) : PS :=
  if (pPs B N 0 (4 * z.1 0 - 1) z.2).1 = 0 ∧ (¬ z.1 (40 + tN B N z.2.2.2) = -1 ∨ wHc z.1 p = z.1 2) then pF B N 3 (pPs B N 0 (4 * z.1 0 - 1) z.2) else pPs B N 0 (4 * z.1 0 - 1) z.2
def cdZ (p : Int) (z : ZS) : ZS := if (cdS B N p z).1 = 0 then (ru z.1 (40 + tN B N z.2.2.2) p, pX B N (cdS B N p z)) else (z.1, cdS B N p z)
def hnZ (p : Int) : Nat → ZS → ZS
  | 0, z => z
  | m + 1, z => if z.2.1 = 0 ∧ tK B N z.2.2.2 = 3 then hnZ p m (cdZ B N p z) else z
def haZ (z : ZS) : ZS := hnZ B N (pPv B N 0 (z.1 1 - 1) z.2) N.toNat (cdZ B N (pPv B N 0 (z.1 1 - 1) z.2) (z.1, pNu B N 0 (z.1 1 - 1) z.2))
def teS (z : ZS) : PS := if (pPs B N 0 (z.1 1 - 1) z.2).1 = 0 ∧ ¬ z.1 (16 + tN B N z.2.2.2) = -1 then pF B N 3 (pPs B N 0 (z.1 1 - 1) z.2) else pPs B N 0 (z.1 1 - 1) z.2
def teZ (z : ZS) : ZS :=
  if (teS B N z).1 = 0 then
    (if (pNu B N 0 (z.1 2) (pX B N (teS B N z))).1 = 0 then (ru z.1 (16 + tN B N z.2.2.2) (pPv B N 0 (z.1 2) (pX B N (teS B N z))), pNu B N 0 (z.1 2) (pX B N (teS B N z))) else (z.1, pNu B N 0 (z.1 2) (pX B N (teS B N z))))
  else (z.1, teS B N z)
end CS
/-- the hands and what was told -/
def CH (σ : zt_S) (r : Int → Int) : Prop := (∀ q d, 0 ≤ q → q < 4 → 0 ≤ d → d < 64 → hb (σ.2.1 132 q) d = decide (d < 4 * r 0 ∧ r (40 + d) = q)) ∧ ∀ p, 0 ≤ p → p < 4 → σ.1 133 p = r (16 + p)
def RH (r : Int → Int) : Prop := RR r ∧ (∀ c, 0 ≤ c → c < 52 → -1 ≤ r (40 + c) ∧ r (40 + c) < r 1 ∧ (4 * r 0 ≤ c → r (40 + c) = -1)) ∧ (∀ p, 0 ≤ p → p < 4 → -1 ≤ r (16 + p) ∧ r (16 + p) ≤ 13) ∧ ∀ p, 0 ≤ p → p < r 1 → wHc r p ≤ r 2
def CZ (B : Int → Int) (N : Int) (σ : zt_S) (z : ZS) : Prop := CP B N σ z.2 ∧ CQ LW σ z.1 ∧ CH σ z.1
def MZ (B : Int → Int) (N : Int) (τ : zt_S) (z : ZS) : Prop := MP B N τ z.2 ∧ τ.1 165 = z.1
def FC (σ σ' : zt_S) : Prop := (∀ c j, c ≠ 2 → c ≠ 133 → σ'.1 c j = σ.1 c j) ∧ (∀ c j, c ≠ 132 → σ'.2.1 c j = σ.2.1 c j) ∧ σ'.2.2 = σ.2.2
section CB
variable {B : Int → Int} {N : Int} {σ τ : zt_S} {s : PS} {r u : Int → Int} {z : ZS} {lo hi p : Int}
theorem FC.rf : FC σ σ := ⟨fun _ _ _ _ => rfl, fun _ _ _ => rfl, rfl⟩
theorem FC.tr {a b c : zt_S} (h : FC a b) (g : FC b c) : FC a c := ⟨fun x j h1 h2 => by rw [g.1 x j h1 h2, h.1 x j h1 h2], fun x j hx => by rw [g.2.1 x j hx, h.2.1 x j hx], g.2.2.trans h.2.2⟩
theorem FT2.c {σ' : zt_S} (h : FT2 σ σ') : FC σ σ' := ⟨fun c j h1 _ => h.1 c j (Or.inl h1), fun c j _ => by rw [h.2], by rw [h.2]⟩
theorem CH.ft {σ' : zt_S} (h : CH σ r) (f : FT2 σ σ') : CH σ' r := ⟨fun q d a b c e => by rw [f.2]; exact h.1 q d a b c e, fun p a b => by rw [f.1 _ _ (Or.inl (by decide))]; exact h.2 p a b⟩
theorem CQ.fc {L : List Int} {σ' : zt_S} (h : CQ L σ r) (f : FC σ σ') : CQ L σ' r := ⟨h.1, fun i hi => by
  have := (cC_lt i (h.1 i hi)).1
  rw [f.1 _ _ (by omega) (by omega)]
  exact h.2 i hi⟩
theorem CQ.row {L : List Int} {q : Int → Int} (h : CQ L σ r) (e : ∀ i ∈ LW, q i = r i) : CQ L σ q := ⟨h.1, fun i hi => by rw [e i (h.1 i hi)]; exact h.2 i hi⟩
theorem LW_lt : ∀ i ∈ LW, i < 16 := by decide
theorem CZ.ft {σ' : zt_S} {s' : PS} (h : CZ B N σ z) (f : FT2 σ σ') (g : CP B N σ' s') : CZ B N σ' (z.1, s') := ⟨g, h.2.1.ft f, h.2.2.ft f⟩
theorem MZ.ft {τ' : zt_S} {s' : PS} (h : MZ B N τ z) (f : FT3 τ τ') (g : MP B N τ' s') : MZ B N τ' (z.1, s') := ⟨g, f.row h.2⟩
theorem CQ.v {i : Int} (h : CQ LW σ r) (hi : i ∈ LW) : σ.1 (cC i) (cJ i) = r i := h.2 i hi
theorem CQ.e0 (h : CQ LW σ r) : σ.1 129 0 = r 0 := h.2 0 (by decide)
theorem CQ.e1 (h : CQ LW σ r) : σ.1 129 1 = r 1 := h.2 1 (by decide)
theorem CQ.e2 (h : CQ LW σ r) : σ.1 129 2 = r 2 := h.2 2 (by decide)
theorem ec_hold_2 {c : Int} (hq : CQ LW σ r) (h : CH σ r) (hr : RH r) (hc : 0 ≤ c ∧ c < 4 * r 0) : ∀ (m n : Nat) (p : Int), p + m = r 1 → m < n → 0 ≤ p → (r (40 + c) = -1 ∨ p ≤ r (40 + c)) → F_Tb_holderOf_2 130 n c p σ = some (r (40 + c), σ)
  | m, 0, _, _, h1, _, _ => absurd h1 (Nat.not_lt_zero m)
  | 0, n + 1, p, h0, h1, h2, h3 => by
    have a := hr.1.1
    have a1 := hr.1.2.1
    have d := hr.2.1 c hc.1 (by omega)
    have e : σ.1 (zt_su 130) 1 = r 1 := hq.e1
    rw [F_Tb_holderOf_2, e, zt_ckI ⟨by unfold zt_in; omega, by unfold zt_in; omega⟩, if_neg (by omega), show r (40 + c) = -1 by omega]
  | m + 1, n + 1, p, h0, h1, h2, h3 => by
    have a := hr.1.1
    have a1 := hr.1.2.1
    have d := hr.2.1 c hc.1 (by omega)
    have e : σ.1 (zt_su 130) 1 = r 1 := hq.e1
    have g := h.1 p c h2 (by omega) hc.1 (by omega)
    rw [F_Tb_holderOf_2, e, zt_ckI ⟨by unfold zt_in; omega, by unfold zt_in; omega⟩, if_pos (by omega), be_handOf ⟨h2, by omega⟩]
    by_cases h4 : r (40 + c) = p
    · have g2 : hb (σ.2.1 (130 + 2) p) c = true := by rw [g]; exact decide_eq_true ⟨hc.2, h4⟩
      rw [be_has_t (show 0 ≤ c ∧ c < 64 by omega) g2, zt_ckI (by decide), if_neg (by decide), h4]
    · have g2 : ¬ hb (σ.2.1 (130 + 2) p) c = true := by rw [g, decide_eq_true_eq]; exact fun z => h4 z.2
      rw [be_has_f (show 0 ≤ c ∧ c < 64 by omega) g2, zt_ckI (by decide), if_pos rfl]
      exact ec_hold_2 hq h hr hc m n (p + 1) (by omega) (by omega) (by omega) (by omega)
theorem ec_hold {c : Int} (hq : CQ LW σ r) (h : CH σ r) (hr : RH r) (hc : 0 ≤ c ∧ c < 4 * r 0) : F_Tb_holderOf 130 c σ = some (r (40 + c), σ) := by
  have a := hr.1.1
  have a1 := hr.1.2.1
  have d := hr.2.1 c hc.1 (by omega)
  unfold F_Tb_holderOf
  exact ec_hold_2 hq h hr hc (r 1).toNat _ 0 (by omega) (zN (by omega)) (by omega) (by omega)
theorem hc_bits (h : CH σ r) (hr : RH r) (hp : 0 ≤ p ∧ p < 4) : cn (hb (σ.2.1 132 p)) 0 64 = wHc r p := by
  have a := hr.1.1
  have e : cn (hb (σ.2.1 132 p)) 0 (52 + 12) = _ := cn_app _ 12 52 0
  rw [show (64 : Nat) = 52 + 12 from rfl, e, cn_none (P := hb (σ.2.1 132 p)) 12 (0 + ((52 : Nat) : Int)) (fun c h0 h1 => by rw [h.1 p c hp.1 hp.2 (by omega) (by omega)]; exact decide_eq_false (by omega)), Int.add_zero]
  unfold wHc wHd
  refine cn_congr _ _ (fun c h0 h1 => ?_)
  have d := hr.2.1 c h0 (by omega)
  rw [h.1 p c hp.1 hp.2 (by omega) (by omega)]
  by_cases x : r (40 + c) = p
  · rw [decide_eq_true x, decide_eq_true ⟨by omega, x⟩]
  · rw [decide_eq_false x, decide_eq_false (fun z => x z.2)]
theorem ec_full (hq : CQ LW σ r) (h : CH σ r) (hr : RH r) (hp : 0 ≤ p ∧ p < r 1) : F_Tb_isFull 130 p σ = some (if wHc r p < r 2 then 0 else 1, σ) := by
  have a1 := hr.1.2.1
  have a2 := hr.1.2.2.1
  have e : σ.1 (zt_su 130) 2 = r 2 := hq.e2
  have c := cn_le (fun c => decide (wHd r c = p)) 52 0
  unfold F_Tb_isFull F_Tb_isFull_23
  rw [be_handOf ⟨hp.1, by omega⟩, be_bitCount, hc_bits h hr ⟨hp.1, by omega⟩, e, zt_ckI ⟨by unfold zt_in wHc; omega, by unfold zt_in; omega⟩]
  split
  · rw [zt_ckI (Or.inl rfl)]
  · rw [zt_ckI (Or.inr rfl)]
theorem RR.eq {q : Int → Int} (h : RR r) (e : ∀ i, i < 16 → q i = r i) : RR q := by
  unfold RR at h ⊢
  rw [e 0 (by omega), e 1 (by omega), e 2 (by omega), e 3 (by omega), e 4 (by omega), e 5 (by omega), e 6 (by omega), e 7 (by omega), e 8 (by omega), e 15 (by omega)]
  exact h
theorem hc_up {c : Int} (hc : 0 ≤ c ∧ c < 52) (hf : r (40 + c) = -1) (hp : 0 ≤ p) {q : Int} (hq : 0 ≤ q) : wHc (ru r (40 + c) p) q = wHc r q + (if q = p then 1 else 0) := by
  unfold wHc wHd
  have e := cn_upd (P := fun d => decide (r (40 + d) = q)) (Q := fun d => decide (ru r (40 + c) p (40 + d) = q)) (j := c) 52 0 (by omega) (by omega) (fun d h0 h1 h2 => by
    show decide (r (40 + d) = q) = decide (ru r (40 + c) p (40 + d) = q)
    rw [ru_o (by omega)])
  rw [e]
  have e1 : (decide (r (40 + c) = q) = true) = False := by
    rw [decide_eq_true_eq]
    exact propext ⟨fun z => by omega, False.elim⟩
  simp only [e1, if_false, ru_s, decide_eq_true_eq]
  by_cases x : q = p
  · rw [if_pos x, if_pos x.symm]; omega
  · rw [if_neg x, if_neg (fun z => x z.symm)]; omega
theorem RH.gv {c : Int} (h : RH r) (hp : 0 ≤ p ∧ p < r 1) (hc : 0 ≤ c ∧ c < 4 * r 0) (hf : r (40 + c) = -1) (hw : wHc r p < r 2) : RH (ru r (40 + c) p) := by
  have a := h.1.1
  obtain ⟨h1, h2, h3, h4⟩ := h
  refine ⟨h1.eq (fun i hi => ru_o (by omega)), fun d h0 h5 => ?_, fun q h0 h5 => ?_, fun q h0 h5 => ?_⟩
  · have := h2 d h0 h5
    rw [ru_o (i := 1) (by omega), ru_o (i := 0) (by omega)]
    by_cases x : d = c
    · rw [x, ru_s]; omega
    · rw [ru_o (by omega)]; exact this
  · rw [ru_o (by omega)]; exact h3 q h0 h5
  · rw [ru_o (i := 1) (by omega)] at h5
    rw [hc_up ⟨hc.1, by omega⟩ hf hp.1 h0, ru_o (by omega)]
    have := h4 q h0 h5
    by_cases x : q = p
    · rw [if_pos x, x]; omega
    · rw [if_neg x]; omega
theorem cdS_0 (h : (cdS B N p z).1 = 0) : z.2.1 = 0 ∧ cdS B N p z = z.2 ∧ tK B N z.2.2.2 = 3 ∧ (0 ≤ tN B N z.2.2.2 ∧ tN B N z.2.2.2 < 4 * z.1 0) ∧ z.1 (40 + tN B N z.2.2.2) = -1 ∧ ¬ wHc z.1 p = z.1 2 := by
  unfold cdS at h ⊢
  by_cases x : (pPs B N 0 (4 * z.1 0 - 1) z.2).1 = 0 ∧ (¬ z.1 (40 + tN B N z.2.2.2) = -1 ∨ wHc z.1 p = z.1 2)
  · rw [if_pos x] at h
    exact absurd h (pF_ne (by decide))
  · rw [if_neg x] at h ⊢
    have q := pPs_0 h
    rw [q.1] at h x ⊢
    exact ⟨h, rfl, q.2.1, ⟨q.2.2.1, by omega⟩, by omega, by omega⟩
theorem cdZ_R (h : RH z.1) (hp : 0 ≤ p ∧ p < z.1 1) : RH (cdZ B N p z).1 := by
  unfold cdZ
  by_cases x : (cdS B N p z).1 = 0
  · have q := cdS_0 x
    rw [if_pos x]
    have := h.2.2.2 p hp.1 hp.2
    exact h.gv hp q.2.2.2.1 q.2.2.2.2.1 (by omega)
  · rw [if_neg x]
    exact h
theorem cdZ_o {i : Int} (hi' : i < 40) : (cdZ B N p z).1 i = z.1 i := by
  unfold cdZ
  by_cases x : (cdS B N p z).1 = 0
  · have q := cdS_0 x
    rw [if_pos x]
    exact ru_o (by omega)
  · rw [if_neg x]
theorem hnZ_o {i : Int} (hi' : i < 40) : ∀ (m : Nat) (z : ZS), (hnZ B N p m z).1 i = z.1 i
  | 0, _ => rfl
  | m + 1, z => by
    rw [hnZ]
    split
    · rw [hnZ_o hi' m, cdZ_o hi']
    · rfl
theorem hnZ_R : ∀ (m : Nat) (z : ZS), RH z.1 → (0 ≤ p ∧ p < z.1 1) → RH (hnZ B N p m z).1
  | 0, _, h, _ => h
  | m + 1, z, h, hp => by
    rw [hnZ]
    split
    · exact hnZ_R m _ (cdZ_R h hp) (by rw [cdZ_o (by decide)]; exact hp)
    · exact h
theorem haZ_o {i : Int} (hi' : i < 40) : (haZ B N z).1 i = z.1 i := by
  unfold haZ
  rw [hnZ_o hi', cdZ_o hi']
theorem haZ_R (h : RH z.1) : RH (haZ B N z).1 := by
  have a := h.1.2.1
  have v := pPv_in (B := B) (N := N) (s := z.2) (show (0 : Int) ≤ z.1 1 - 1 by omega)
  unfold haZ
  exact hnZ_R _ _ (cdZ_R h (by show _ ∧ _ < z.1 1; omega)) (by rw [cdZ_o (by decide)]; show _ ∧ _ < z.1 1; omega)
theorem teS_0 (h : (teS B N z).1 = 0) : z.2.1 = 0 ∧ teS B N z = z.2 ∧ tK B N z.2.2.2 = 3 ∧ (0 ≤ tN B N z.2.2.2 ∧ tN B N z.2.2.2 < z.1 1) ∧ z.1 (16 + tN B N z.2.2.2) = -1 := by
  unfold teS at h ⊢
  by_cases x : (pPs B N 0 (z.1 1 - 1) z.2).1 = 0 ∧ ¬ z.1 (16 + tN B N z.2.2.2) = -1
  · rw [if_pos x] at h
    exact absurd h (pF_ne (by decide))
  · rw [if_neg x] at h ⊢
    have q := pPs_0 h
    rw [q.1] at h x ⊢
    exact ⟨h, rfl, q.2.1, ⟨q.2.2.1, by omega⟩, by omega⟩
theorem teZ_R (h : RH z.1) : RH (teZ B N z).1 ∧ ∀ i, (i < 16 ∨ 19 < i) → (teZ B N z).1 i = z.1 i := by
  have a := h.1.2.1
  have a2 := h.1.2.2.1
  unfold teZ
  by_cases x : (teS B N z).1 = 0
  · have q := teS_0 x
    rw [if_pos x]
    by_cases y : (pNu B N 0 (z.1 2) (pX B N (teS B N z))).1 = 0
    · rw [if_pos y]
      have v := pPv_in (B := B) (N := N) (s := pX B N (teS B N z)) (show (0 : Int) ≤ z.1 2 by omega)
      refine ⟨⟨h.1.eq (fun i hi => ru_o (by omega)), fun c h0 h1 => ?_, fun p h0 h1 => ?_, fun p h0 h1 => ?_⟩, fun i hi => ru_o (by omega)⟩
      · have := h.2.1 c h0 h1
        dsimp only
        rw [ru_o (by omega), ru_o (by omega), ru_o (by omega)]
        exact this
      · dsimp only
        by_cases e : p = tN B N z.2.2.2
        · rw [e, ru_s]; omega
        · rw [ru_o (by omega)]; exact h.2.2.1 p h0 h1
      · dsimp only at h1 ⊢
        rw [ru_o (by omega)] at h1
        rw [ru_o (by omega)]
        have := h.2.2.2 p h0 h1
        have e : wHc (ru z.1 (16 + tN B N z.2.2.2) (pPv B N 0 (z.1 2) (pX B N (teS B N z)))) p = wHc z.1 p := by
          unfold wHc wHd
          refine cn_congr _ _ (fun c h0 h1 => ?_)
          rw [ru_o (by omega)]
        rw [e]; exact this
    · rw [if_neg y]
      exact ⟨h, fun _ _ => rfl⟩
  · rw [if_neg x]
    exact ⟨h, fun _ _ => rfl⟩
theorem ec_card (h : CZ B N σ z) (hr : RH z.1) (hp : 0 ≤ p ∧ p < z.1 1) : ∃ σ', F_TR_readCard p σ = some ((), σ') ∧ CZ B N σ' (cdZ B N p z) ∧ FC σ σ' := by
  have a := hr.1.1
  have a1 := hr.1.2.1
  have a2 := hr.1.2.2.1
  have hw := hr.2.2.2 p hp.1 hp.2
  obtain ⟨σ1, g1, g2, g3⟩ := e_peek (lo := 0) (hi := 4 * z.1 0 - 1) h.1 (by decide) (by omega)
  have h1 := h.ft g3 g2
  have pv := pPv_in (B := B) (N := N) (s := z.2) (show (0 : Int) ≤ 4 * z.1 0 - 1 by omega)
  -- behind the looks
  have t49 : ∀ (v : Int) (σ2 : zt_S), CZ B N σ2 (z.1, cdS B N p z) → FT2 σ σ2 → ((cdS B N p z).1 = 0 → v = tN B N z.2.2.2) → ∃ σ', F_TR_readCard_49 p v σ2 = some ((), σ') ∧ CZ B N σ' (cdZ B N p z) ∧ FC σ σ' := by
    intro v σ2 k1 k2 k3
    unfold F_TR_readCard_49 cdZ
    rw [e_hasFailed k1.1, zt_bdS]
    by_cases x : (cdS B N p z).1 = 0
    · have q := cdS_0 x
      rw [k3 x, if_pos x, zt_ckI (by decide), if_pos rfl, e_give ⟨hp.1, by omega⟩, zt_bdS, if_pos x]
      have hg := hb_give (x := 0) (t := 130) (w := z.1) (σ := σ2) (p := p) ⟨hp.1, by omega⟩ q.2.2.2.1 (by omega) q.2.2.2.2.1 k1.2.2.1
      obtain ⟨σ3, m1, m2, m3⟩ := e_nx (σ := zt_uL σ2 (130 + 2) p (σ2.2.1 (130 + 2) p ||| zt_ls 1 (tN B N z.2.2.2))) (k1.1.l (fun _ => rfl) (fun _ _ _ => rfl))
      rw [m1, zt_bdS]
      refine ⟨σ3, rfl, ⟨m2, ?_, ?_, fun q' h0 h5 => ?_⟩, ?_⟩
      · exact (CQ.row (σ := zt_uL σ2 (130 + 2) p (σ2.2.1 (130 + 2) p ||| zt_ls 1 (tN B N z.2.2.2))) k1.2.1 (fun i hi => ru_o (by have := LW_lt i hi; omega))).ft m3
      · intro q' d q0 q1 d0 d1
        rw [m3.2]
        dsimp only
        refine (hg q' d q0 q1 d0 d1).trans (decide_eq_decide.mpr ?_)
        rw [ru_o (i := 0) (by omega)]
      · rw [m3.1 _ _ (Or.inl (by decide))]
        dsimp only
        rw [ru_o (by omega)]
        exact k1.2.2.2 q' h0 h5
      · exact k2.c.tr ((show FC σ2 (zt_uL σ2 (130 + 2) p (σ2.2.1 (130 + 2) p ||| zt_ls 1 (tN B N z.2.2.2))) from ⟨fun _ _ _ _ => rfl, fun c j hc => uL_o (Or.inl hc), rfl⟩).tr m3.c)
    · rw [if_neg x, zt_ckI (by decide), if_neg (by decide), if_neg x]
      exact ⟨σ2, rfl, k1, k2.c⟩
  have t41 : ∀ v, ((pPs B N 0 (4 * z.1 0 - 1) z.2).1 = 0 → (¬ z.1 (40 + tN B N z.2.2.2) = -1 ∨ wHc z.1 p = z.1 2)) → ∃ σ', F_TR_readCard_41 p v σ1 = some ((), σ') ∧ CZ B N σ' (cdZ B N p z) ∧ FC σ σ' := by
    intro v hx
    obtain ⟨σ2, k1, k2, k3⟩ := e_fail (k := 3) g2 (by decide)
    have e : cdS B N p z = pF B N 3 (pPs B N 0 (4 * z.1 0 - 1) z.2) := by
      unfold cdS
      by_cases y : (pPs B N 0 (4 * z.1 0 - 1) z.2).1 = 0
      · rw [if_pos ⟨y, hx y⟩]
      · rw [if_neg (fun q => y q.1), pF_f y]
    unfold F_TR_readCard_41
    rw [k1, zt_bdS]
    exact t49 v σ2 (by rw [e]; exact h1.ft k3 k2) (g3.tr k3) (fun q => by rw [e] at q; exact absurd q (pF_ne (by decide)))
  unfold F_TR_readCard
  rw [e_cardCount, zt_bdS, h.2.1.e0, g1, zt_bdS, ec_hold h1.2.1 h1.2.2 hr ⟨pv.1, by show _ < 4 * z.1 0; omega⟩, zt_bdS]
  have d := hr.2.1 (pPv B N 0 (4 * z.1 0 - 1) z.2) (by omega) (by omega)
  rw [zt_ckI (by show zt_in (z.1 _); unfold zt_in; omega)]
  by_cases y : (pPs B N 0 (4 * z.1 0 - 1) z.2).1 = 0
  · have v : pPv B N 0 (4 * z.1 0 - 1) z.2 = tN B N z.2.2.2 := if_pos y
    by_cases f : z.1 (40 + pPv B N 0 (4 * z.1 0 - 1) z.2) = -1
    · rw [if_pos (show (z.1, pPs B N 0 (4 * z.1 0 - 1) z.2).1 (40 + pPv B N 0 (4 * z.1 0 - 1) z.2) = -1 from f), ec_full h1.2.1 h1.2.2 hr hp, zt_bdS]
      by_cases g : wHc z.1 p < z.1 2
      · rw [if_pos g, zt_ckI (by decide), if_pos rfl]
        have e : cdS B N p z = pPs B N 0 (4 * z.1 0 - 1) z.2 := if_neg (fun q => by rw [← v] at q; omega)
        exact t49 _ _ (by rw [e]; exact h1) g3 (fun _ => v)
      · rw [if_neg g, zt_ckI (by decide), if_neg (by decide)]
        exact t41 _ (fun _ => Or.inr (by omega))
    · rw [if_neg (show ¬ (z.1, pPs B N 0 (4 * z.1 0 - 1) z.2).1 (40 + pPv B N 0 (4 * z.1 0 - 1) z.2) = -1 from f)]
      exact t41 _ (fun _ => Or.inl (by rw [← v]; exact f))
  · by_cases f : z.1 (40 + pPv B N 0 (4 * z.1 0 - 1) z.2) = -1
    · rw [if_pos (show (z.1, pPs B N 0 (4 * z.1 0 - 1) z.2).1 (40 + pPv B N 0 (4 * z.1 0 - 1) z.2) = -1 from f), ec_full h1.2.1 h1.2.2 hr hp, zt_bdS]
      by_cases g : wHc z.1 p < z.1 2
      · rw [if_pos g, zt_ckI (by decide), if_pos rfl]
        have e : cdS B N p z = pPs B N 0 (4 * z.1 0 - 1) z.2 := if_neg (fun q => y q.1)
        exact t49 _ _ (by rw [e]; exact h1) g3 (fun q => by rw [e] at q; exact absurd q y)
      · rw [if_neg g, zt_ckI (by decide), if_neg (by decide)]
        exact t41 _ (fun q => absurd q y)
    · rw [if_neg (show ¬ (z.1, pPs B N 0 (4 * z.1 0 - 1) z.2).1 (40 + pPv B N 0 (4 * z.1 0 - 1) z.2) = -1 from f)]
      exact t41 _ (fun q => absurd q y)
theorem ec_hand_25 {N : Int} (hN : 0 ≤ N ∧ N ≤ 500) : ∀ (m f : Nat) (k : Int) (σ : zt_S) (z : ZS), k + m = N → m < f → 0 ≤ k → CZ B N σ z → RH z.1 → (0 ≤ p ∧ p < z.1 1) → ∃ σ', F_TR_readHand_25 f N p k σ = some ((), σ') ∧ CZ B N σ' (hnZ B N p m z) ∧ FC σ σ'
  | m, 0, _, _, _, _, h1, _, _, _, _ => absurd h1 (Nat.not_lt_zero m)
  | 0, f + 1, k, σ, z, h0, h1, h2, h, hr, hp => by
    refine ⟨σ, ?_, h, FC.rf⟩
    rw [F_TR_readHand_25, zt_ckI ⟨by unfold zt_in; omega, by unfold zt_in; omega⟩, if_neg (by omega)]
    rfl
  | m + 1, f + 1, k, σ, z, h0, h1, h2, h, hr, hp => by
    rw [F_TR_readHand_25, zt_ckI ⟨by unfold zt_in; omega, by unfold zt_in; omega⟩, if_pos (by omega), e_hasFailed h.1, zt_bdS, hnZ]
    by_cases x : z.2.1 = 0
    · rw [if_pos x, zt_ckI (by decide), if_pos rfl, e_isNumber h.1, zt_bdS]
      by_cases y : tK B N z.2.2.2 = 3
      · rw [if_pos y, zt_ckI (by decide), if_neg (by decide), if_pos ⟨x, y⟩]
        obtain ⟨σ1, g1, g2, g3⟩ := ec_card h hr hp
        rw [g1, zt_bdS]
        obtain ⟨σ2, k1, k2, k3⟩ := ec_hand_25 hN m f (k + 1) σ1 (cdZ B N p z) (by omega) (by omega) (by omega) g2 (cdZ_R hr hp) (by rw [cdZ_o (by decide)]; exact hp)
        exact ⟨σ2, k1, k2, g3.tr k3⟩
      · rw [if_neg y, zt_ckI (by decide), if_pos rfl, if_neg (fun q => y q.2)]
        exact ⟨σ, rfl, h, FC.rf⟩
    · rw [if_neg x, zt_ckI (by decide), if_neg (by decide), if_neg (fun q => x q.1)]
      exact ⟨σ, rfl, h, FC.rf⟩
theorem ec_hand (h : CZ B N σ z) (hr : RH z.1) : ∃ σ', F_TR_readHand N σ = some ((), σ') ∧ CZ B N σ' (haZ B N z) ∧ FC σ σ' := by
  have a1 := hr.1.2.1
  have hN := h.1.1.1
  obtain ⟨σ1, g1, g2, g3⟩ := e_take (lo := 0) (hi := z.1 1 - 1) h.1 (by decide) (by omega)
  have pv := pPv_in (B := B) (N := N) (s := z.2) (show (0 : Int) ≤ z.1 1 - 1 by omega)
  have hp : 0 ≤ pPv B N 0 (z.1 1 - 1) z.2 ∧ pPv B N 0 (z.1 1 - 1) z.2 < z.1 1 := by omega
  obtain ⟨σ2, k1, k2, k3⟩ := ec_card (z := (z.1, pNu B N 0 (z.1 1 - 1) z.2)) (h.ft g3 g2) hr hp
  obtain ⟨σ3, m1, m2, m3⟩ := ec_hand_25 (p := pPv B N 0 (z.1 1 - 1) z.2) hN N.toNat zt_N 0 σ2 _ (by omega) (zN (by omega)) (by omega) k2 (cdZ_R hr hp) (by rw [cdZ_o (by decide)]; exact hp)
  refine ⟨σ3, ?_, m2, (g3.c.tr k3).tr m3⟩
  unfold F_TR_readHand
  rw [h.2.1.e1, g1, zt_bdS, k1, zt_bdS]
  exact m1
theorem ec_tell (h : CZ B N σ z) (hr : RH z.1) : ∃ σ', F_TR_readTell σ = some ((), σ') ∧ CZ B N σ' (teZ B N z) ∧ FC σ σ' := by
  have a1 := hr.1.2.1
  have a2 := hr.1.2.2.1
  obtain ⟨σ1, g1, g2, g3⟩ := e_peek (lo := 0) (hi := z.1 1 - 1) h.1 (by decide) (by omega)
  have h1 := h.ft g3 g2
  have pv := pPv_in (B := B) (N := N) (s := z.2) (show (0 : Int) ≤ z.1 1 - 1 by omega)
  have d := hr.2.2.1 (pPv B N 0 (z.1 1 - 1) z.2) (by omega) (by omega)
  have t41 : ∀ (v : Int) (σ2 : zt_S), CZ B N σ2 (z.1, teS B N z) → FT2 σ σ2 → ((teS B N z).1 = 0 → v = tN B N z.2.2.2) → ∃ σ', F_TR_readTell_41 v σ2 = some ((), σ') ∧ CZ B N σ' (teZ B N z) ∧ FC σ σ' := by
    intro v σ2 k1 k2 k3
    obtain ⟨σ3, m1, m2, m3⟩ := e_take (lo := 0) (hi := z.1 1 - 1) k1.1 (by decide) (by omega)
    have k4 := k1.ft m3 m2
    obtain ⟨σ4, n1, n2, n3⟩ := e_take (lo := 0) (hi := z.1 2) k4.1 (by decide) (by omega)
    have k5 := k4.ft n3 n2
    unfold F_TR_readTell_41 teZ
    rw [k1.2.1.e1, m1, zt_bdS, k4.2.1.e2, n1, zt_bdS, e_hasFailed n2, zt_bdS]
    by_cases x : (teS B N z).1 = 0
    · have q := teS_0 x
      have e1 : pNu B N 0 (z.1 1 - 1) (teS B N z) = pX B N (teS B N z) := by
        have y : pPs B N 0 (z.1 1 - 1) (teS B N z) = teS B N z := by
          rw [q.2.1]
          unfold pPs
          rw [if_pos q.2.2.1, if_neg (by omega)]
        unfold pNu
        rw [y, if_pos x]
      dsimp only at n1 n2 k5 ⊢
      rw [e1] at n1 n2 k5 ⊢
      rw [if_pos x]
      by_cases y : (pNu B N 0 (z.1 2) (pX B N (teS B N z))).1 = 0
      · rw [if_pos y, zt_ckI (by decide), if_pos rfl, if_pos y, k3 x, be_set (by omega) (by decide)]
        refine ⟨_, rfl, ⟨?_, ?_, ?_, fun p h0 h5 => ?_⟩, ?_⟩
        · exact n2.l (fun _ => up_o (Or.inl (by decide))) (fun _ _ _ => up_o (Or.inl (by decide)))
        · exact (CQ.row k5.2.1 (fun i hi => ru_o (by have := LW_lt i hi; omega))).fc ⟨fun c j _ hc => up_o (Or.inl hc), fun _ _ _ => rfl, rfl⟩
        · intro q' d q0 q1 d0 d1
          dsimp only
          refine (k5.2.2.1 q' d q0 q1 d0 d1).trans (decide_eq_decide.mpr ?_)
          rw [ru_o (i := 0) (by omega), ru_o (by omega)]
        · dsimp only
          by_cases e : p = tN B N z.2.2.2
          · rw [e, up_s, ru_s]
          · rw [up_o (Or.inr e), ru_o (by omega)]
            exact k5.2.2.2 p h0 h5
        · exact ((k2.c.tr m3.c).tr n3.c).tr ⟨fun c j _ hc => up_o (Or.inl hc), fun _ _ _ => rfl, rfl⟩
      · rw [if_neg y, zt_ckI (by decide), if_neg (by decide), if_neg y]
        exact ⟨σ4, rfl, k5, (k2.c.tr m3.c).tr n3.c⟩
    · dsimp only at n1 n2 k5 ⊢
      rw [pNu_f x, pNu_f x] at n2 k5 ⊢
      rw [if_neg x, zt_ckI (by decide), if_neg (by decide), if_neg x]
      exact ⟨σ4, rfl, k5, (k2.c.tr m3.c).tr n3.c⟩
  unfold F_TR_readTell
  rw [h.2.1.e1, g1, zt_bdS, be_at (by omega) (by decide), h1.2.2.2 _ (by omega) (by omega), zt_ckI (by show zt_in (z.1 _); unfold zt_in; omega)]
  by_cases f : z.1 (16 + pPv B N 0 (z.1 1 - 1) z.2) = -1
  · rw [if_pos (show (z.1, pPs B N 0 (z.1 1 - 1) z.2).1 (16 + pPv B N 0 (z.1 1 - 1) z.2) = -1 from f)]
    have e : teS B N z = pPs B N 0 (z.1 1 - 1) z.2 := if_neg (fun q => by
      have v : pPv B N 0 (z.1 1 - 1) z.2 = tN B N z.2.2.2 := if_pos q.1
      rw [← v] at q
      exact q.2 f)
    exact t41 _ _ (by rw [e]; exact h1) g3 (fun q => by rw [e] at q; exact if_pos q)
  · rw [if_neg (show ¬ (z.1, pPs B N 0 (z.1 1 - 1) z.2).1 (16 + pPv B N 0 (z.1 1 - 1) z.2) = -1 from f)]
    obtain ⟨σ2, k1, k2, k3⟩ := e_fail (k := 3) g2 (by decide)
    have e : teS B N z = pF B N 3 (pPs B N 0 (z.1 1 - 1) z.2) := by
      unfold teS
      by_cases y : (pPs B N 0 (z.1 1 - 1) z.2).1 = 0
      · have v : pPv B N 0 (z.1 1 - 1) z.2 = tN B N z.2.2.2 := if_pos y
        rw [if_pos ⟨y, by rw [← v]; exact f⟩]
      · rw [if_neg (fun q => y q.1), pF_f y]
    rw [k1, zt_bdS]
    exact t41 _ _ (by rw [e]; exact h1.ft k3 k2) (g3.tr k3) (fun q => by rw [e] at q; exact absurd q (pF_ne (by decide)))
end CB
