/-! OPERATIONS: the class keeps its table and changes as the row does -/
section PO
variable {σ τ σc s : zt_S} {w w' : Int → Int} {n c : Int}
/-- the class stands for the row w between calls -/
def PG (n : Int) (σ : zt_S) (w : Int → Int) : Prop := CW σ w ∧ RB n w ∧ (0 ≤ σ.1 16 1 ∧ σ.1 16 1 < 10) ∧ (0 ≤ σ.1 16 2 ∧ σ.1 16 2 ≤ 10)
def PK (σ τ : zt_S) (w : Int → Int) : Prop := τ.1 16 1 = (σ.1 16 1 + 1) % 10 ∧ τ.1 16 2 = (if σ.1 16 2 < 10 then σ.1 16 2 + 1 else 10) ∧ TB τ (kT σ) w ∧ (∀ c j, c ≠ 16 → (c < kT σ ∨ kT σ + 9 < c) → τ.1 c j = σ.1 c j) ∧ (∀ c j, (c < kT σ ∨ kT σ + 9 < c) → τ.2.1 c j = σ.2.1 c j) ∧ τ.2.2 = σ.2.2
def PD (σ σc : zt_S) (w w' : Int → Int) : Prop := σc.1 16 1 = (σ.1 16 1 + 1) % 10 ∧ σc.1 16 2 = (if σ.1 16 2 < 10 then σ.1 16 2 + 1 else 10) ∧ TB σc (kT σ) w ∧ TB σc 6 w' ∧ (∀ c j, (c < 5 ∨ 16 < c) → (c < kT σ ∨ kT σ + 9 < c) → σc.1 c j = σ.1 c j) ∧ (∀ c j, (c < 5 ∨ 16 < c) → (c < kT σ ∨ kT σ + 9 < c) → σc.2.1 c j = σ.2.1 c j) ∧ σc.2.2 = σ.2.2
theorem PG.kt (h : PG n σ w) : 18 ≤ kT σ ∧ kT σ + 9 ≤ 117 := by
  have := h.2.2.1
  unfold kT
  omega
theorem PG.up {m : Int} (h : PG n σ w) (hm : n ≤ m) : PG m σ w := ⟨h.1, h.2.1.up hm, h.2.2⟩
theorem pk_keep (h : PG n σ w) : ∃ τ, F_Hi_keep 6 σ = some ((), τ) ∧ PK σ τ w := by
  obtain ⟨hc, -, h3, h1⟩ := h
  have a := hc.1.n
  have e13 : σ.1 6 13 = 0 ∨ σ.1 6 13 = 1 := by
    have := hc.2.1.2.2.2.2.2.2.2.2.1
    omega
  obtain ⟨s, c1, c2⟩ := ec_copyFrom (σ := σ) (t0 := kT σ) (t1 := 6) (by unfold kT; omega) e13
  have ct := c2.1
  have s1 : s.1 16 1 = σ.1 16 1 := (ct.1 16 1 (by unfold kT; omega)).1
  have s2 : s.1 16 2 = σ.1 16 2 := (ct.1 16 2 (by unfold kT; omega)).1
  have hr : F_Hi_rowAt (σ.1 16 1) σ = some (kT σ, σ) := by
    unfold F_Hi_rowAt
    rw [zt_ckI (by unfold zt_in; omega), if_neg (by omega), zt_ckI (by unfold zt_in; omega), if_pos (by omega), zt_ckI (by omega)]
    rfl
  have hm : kT σ ∈ zt_tabs := kT_tabs _ (by omega)
  have kt : 18 ≤ kT σ := by unfold kT; omega
  refine ⟨zt_up (zt_up s 16 1 ((σ.1 16 1 + 1) % 10)) 16 2 (if σ.1 16 2 < 10 then σ.1 16 2 + 1 else 10), ?_, ?_, ?_, ?_, ?_, ?_, ?_⟩
  · unfold F_Hi_keep F_Hi_keep_40
    rw [hr, zt_bdS, zt_ckI hm, c1, zt_bdS, s1, zt_ckI (by unfold zt_in; omega)]
    have e2 : ∀ x : Int, (zt_up s 16 1 x).1 16 2 = σ.1 16 2 := fun x => by rw [up_o (Or.inr (by decide)), s2]
    have e3 : (if σ.1 16 2 + 1 < 10 then σ.1 16 2 + 1 else 10) = (if σ.1 16 2 < 10 then σ.1 16 2 + 1 else 10) := by
      split <;> split <;> omega
    by_cases hn : σ.1 16 1 + 1 < 10
    · rw [if_pos hn, zt_letS, e2, zt_ckI (by unfold zt_in; omega), zt_letS, e3, Int.emod_eq_of_lt (by omega) hn]
    · rw [if_neg hn, zt_letS, e2, zt_ckI (by unfold zt_in; omega), zt_letS, e3, show (σ.1 16 1 + 1) % 10 = 0 by omega]
  · rw [up_o (Or.inr (by decide)), up_s]
  · rw [up_s]
  · exact TB.ag (σ := s) (fun c j g0 g1 => by rw [up_o (Or.inl (by omega)), up_o (Or.inl (by omega))]) (fun c j _ _ => rfl) (hc.2.1.cp c2 hc.1)
  · intro c j g0 g1
    rw [up_o (Or.inl g0), up_o (Or.inl g0)]
    exact (ct.1 c j g1).1
  · intro c j g1
    exact (ct.1 c j g1).2
  · exact ct.2
theorem PK.pd (k : PK σ s w) (h : PG n σ w) (f1 : ∀ c j, (c < 5 ∨ 15 < c) → σc.1 c j = s.1 c j) (f2 : ∀ c j, (c < 5 ∨ 15 < c) → σc.2.1 c j = s.2.1 c j) (f3 : σc.2.2 = s.2.2) (t : TB σc 6 w') : PD σ σc w w' := by
  obtain ⟨k1, k2, k3, k4, k5, k6⟩ := k
  have kt := h.kt
  refine ⟨by rw [f1 _ _ (by omega)]; exact k1, by rw [f1 _ _ (by omega)]; exact k2, k3.ag (fun c j a b => f1 c j (by omega)) (fun c j a b => f2 c j (by omega)), t, fun c j a b => ?_, fun c j a b => ?_, by rw [f3, k6]⟩
  · rw [f1 c j (by omega), k4 c j (by omega) b]
  · rw [f2 c j (by omega), k5 c j b]
theorem PK.tb (k : PK σ s w) (h : PG n σ w) : TB s 6 w := by
  obtain ⟨k1, k2, k3, k4, k5, k6⟩ := k
  have kt := h.kt
  exact h.1.2.1.ag (fun c j a b => k4 c j (by omega) (by omega)) (fun c j a b => k5 c j (by omega))
theorem PK.su (k : PK σ s w) (h : PG n σ w) : SUw s 3 w := by
  obtain ⟨k1, k2, k3, k4, k5, k6⟩ := k
  have kt := h.kt
  have g := h.1.2.2
  unfold SUw at g ⊢
  rw [k4 3 0 (by omega) (by omega), k4 3 1 (by omega) (by omega), k4 3 2 (by omega) (by omega), k4 3 3 (by omega) (by omega)]
  exact g
theorem PD.pg (d : PD σ σc w w') (h : PG n σ w) (hr : RI w') (hb : RB (n + 1) w') (e0 : ∀ j, (j = 0 ∨ j = 1 ∨ j = 2 ∨ j = 5) → w' j = w j) : PG (n + 1) σc w' := by
  obtain ⟨k1, k2, k3, k4, k5, k6, k7⟩ := d
  have kt := h.kt
  have g3 := h.2.2
  refine ⟨⟨hr, k4, ?_⟩, hb, by rw [k1]; omega, by rw [k2]; split <;> omega⟩
  have g := h.1.2.2
  unfold SUw at g ⊢
  rw [e0 0 (by omega), e0 1 (by omega), e0 2 (by omega), e0 5 (by omega), k5 3 0 (by omega) (by omega), k5 3 1 (by omega) (by omega), k5 3 2 (by omega) (by omega), k5 3 3 (by omega) (by omega)]
  exact g
/-- an operation that is done -/
def PO (n : Int) (σ : zt_S) (w w' : Int → Int) (f : zt_S → Option ((Int ⊕ Nat) × zt_S)) (v : Int) : Prop := ∃ σc, f σ = some (.inl v, σc) ∧ PD σ σc w w' ∧ RI w' ∧ RB (n + 1) w' ∧ ∀ j, (j = 0 ∨ j = 1 ∨ j = 2 ∨ j = 5) → w' j = w j
/-- what it takes back -/
theorem po_undo (h : PG n σ w) (d : PD σ σc w w') (e0 : ∀ j, (j = 0 ∨ j = 1 ∨ j = 2 ∨ j = 5) → w' j = w j) : ∃ v σu, F_C_undo σc = some (v, σu) ∧ 0 ≤ v ∧ v ≤ 9 ∧ PG n σu w := by
  have kt := h.kt
  have g3 := h.2.2
  obtain ⟨k1, k2, k3, k4, k5, k6, k7⟩ := d
  have a := h.1.1.n
  have n2 : 1 ≤ σc.1 16 2 ∧ σc.1 16 2 ≤ 10 := by rw [k2]; split <;> omega
  have n1 : 0 ≤ σc.1 16 1 ∧ σc.1 16 1 < 10 := by rw [k1]; omega
  have e13 : σc.1 (kT σ) 13 = 0 ∨ σc.1 (kT σ) 13 = 1 := by
    have := k3.2.2.2.2.2.2.2.2.1
    omega
  obtain ⟨nx, hnx⟩ : ∃ x, x = (if 0 < σc.1 16 1 then σc.1 16 1 - 1 else 9) := ⟨_, rfl⟩
  have nl : 0 ≤ nx ∧ nx < 10 ∧ nx = σ.1 16 1 := by rw [hnx, k1]; split <;> omega
  have hTt : kT σ = 18 + 10 * nx.toNat := by unfold kT; rw [nl.2.2]
  obtain ⟨s0, hs0⟩ : ∃ x, x = zt_up (zt_up σc 16 1 nx) 16 2 (σc.1 16 2 - 1) := ⟨_, rfl⟩
  have s0f : ∀ c j, c ≠ 16 → s0.1 c j = σc.1 c j := fun c j hc => by rw [hs0, up_o (Or.inl hc), up_o (Or.inl hc)]
  have s02 : s0.2 = σc.2 := by rw [hs0]; rfl
  have r0 : TB s0 (kT σ) w := k3.ag (fun c j a b => s0f c j (by omega)) (fun c j a b => by rw [s02])
  obtain ⟨s, c1, c2⟩ := ec_copyFrom (σ := s0) (t0 := 6) (t1 := kT σ) (by omega) (by rw [s0f _ _ (by omega)]; exact e13)
  have cs : F_C_undo σc = some (σc.1 16 2 - 1, s) := by
    have hr : F_Hi_rowAt nx s0 = some (kT σ, s0) := by
      unfold F_Hi_rowAt
      rw [zt_ckI (by unfold zt_in; omega), if_neg (by omega), zt_ckI (by unfold zt_in; omega), if_pos (by omega), zt_ckI (by omega), hTt]
    have hm : kT σ ∈ zt_tabs := by rw [hTt]; exact kT_tabs _ (by omega)
    have k19 : F_Hi_takeBack_19 6 nx σc = some ((), s) := by
      unfold F_Hi_takeBack_19
      have e1 : (if (zt_up σc 16 1 nx).1 16 2 - 1 < 0 then (0 : Int) else (zt_up σc 16 1 nx).1 16 2 - 1) = σc.1 16 2 - 1 := by rw [up_o (by omega), if_neg (by omega)]
      rw [zt_letS, zt_ckI (by rw [up_o (by omega)]; unfold zt_in; omega), e1, zt_letS, ← hs0, show s0.1 16 1 = nx from by rw [hs0, up_o (by omega), up_s], hr, zt_bdS, zt_ckI hm, c1, zt_bdS]
    have kt : F_Hi_takeBack 6 σc = some ((), s) := by
      unfold F_Hi_takeBack
      rw [zt_ckI (by unfold zt_in; omega)]
      by_cases hn : 0 < σc.1 16 1
      · rw [if_pos hn] at hnx ⊢
        rw [← hnx]
        exact k19
      · rw [if_neg hn] at hnx ⊢
        rw [← hnx]
        exact k19
    unfold F_C_undo
    rw [zt_ckI (by unfold zt_in; omega), if_pos (by omega), kt, zt_bdS, show s.1 16 2 = σc.1 16 2 - 1 from by rw [(c2.1.1 16 2 (by omega)).1, hs0, up_s]]
  have sf : ∀ c j, c ≠ 16 → (c < 6 ∨ 15 < c) → s.1 c j = σc.1 c j := fun c j a b => by rw [(c2.1.1 c j (by omega)).1, s0f c j a]
  have e1 : s.1 16 1 = nx := by rw [(c2.1.1 16 1 (by omega)).1, hs0, up_o (by omega), up_s]
  have e2 : s.1 16 2 = σc.1 16 2 - 1 := by rw [(c2.1.1 16 2 (by omega)).1, hs0, up_s]
  refine ⟨_, s, cs, by omega, by omega, ⟨h.1.1, r0.cp c2 h.1.1, ?_⟩, h.2.1, by omega, by omega⟩
  have g := h.1.2.2
  unfold SUw at g ⊢
  rw [sf _ _ (by omega) (by omega), sf _ _ (by omega) (by omega), sf _ _ (by omega) (by omega), sf _ _ (by omega) (by omega), k5 3 0 (by omega) (by omega), k5 3 1 (by omega) (by omega), k5 3 2 (by omega) (by omega), k5 3 3 (by omega) (by omega)]
  exact g
end PO
section PP
variable {σ : zt_S} {w : Int → Int} {n c : Int}
theorem po_play_over (h : PG n σ w) (h1 : 0 ≤ c ∧ c < 4 * w 0) (ho : wOv w = true) : F_C_play c σ = some (.inl (-2), σ) := by
  have hc := h.1
  unfold F_C_play
  rw [px_needCard hc h1, zt_bxS, ed_isOver_t hc.hu hc.1 hc.2.1 ho, zt_ckI (by decide), if_neg (by decide)]
theorem po_play_not (h : PG n σ w) (h1 : 0 ≤ c ∧ c < 4 * w 0) (ho : wOv w = false) (hh : ¬ wHd w c = wTn w) : F_C_play c σ = some (.inl (-3), σ) := by
  have hc := h.1
  have a := hc.1.n
  have tl := wTn_lt hc.1
  have hd := hc.1.hd h1.1 (by omega)
  have k1 : σ.1 7 1 = (w 9 + wPl w) % w 1 := hc.2.1.1.1.2.1
  rw [← tn_pl ho] at k1
  unfold F_C_play
  rw [px_needCard hc h1, zt_bxS, ed_isOver_f hc.hu hc.1 hc.2.1 (by rw [ho]; decide), zt_ckI zt_in0, if_pos rfl, ed_holderOf hc.hu hc.1 hc.2.1 h1, k1, zt_ckI ⟨by unfold zt_in; omega, by unfold zt_in; omega⟩, if_neg hh]
theorem po_play_ill (h : PG n σ w) (h1 : 0 ≤ c ∧ c < 4 * w 0) (ho : wOv w = false) (hh : wHd w c = wTn w) (hl : wLg w c = false) : F_C_play c σ = some (.inl (-4), σ) := by
  have hc := h.1
  have a := hc.1.n
  have tl := wTn_lt hc.1
  have hd := hc.1.hd h1.1 (by omega)
  have k1 : σ.1 7 1 = (w 9 + wPl w) % w 1 := hc.2.1.1.1.2.1
  rw [← tn_pl ho] at k1
  obtain ⟨al, g1, g2⟩ := ec_allowedCards hc.hu hc.1 hc.2.1
  have g3 := wLg_card h1 (g2 c h1.1 (by omega))
  unfold F_C_play
  rw [px_needCard hc h1, zt_bxS, ed_isOver_f hc.hu hc.1 hc.2.1 (by rw [ho]; decide), zt_ckI zt_in0, if_pos rfl, ed_holderOf hc.hu hc.1 hc.2.1 h1, k1, zt_ckI ⟨by unfold zt_in; omega, by unfold zt_in; omega⟩, if_pos hh, g1, zt_bdS, e_has ⟨h1.1, by omega⟩, zt_bdS, g3, hl, if_neg (by decide), zt_ckI (by decide), if_pos rfl]
theorem po_play (h : PG n σ w) (hn : 0 ≤ n ∧ n ≤ 1000) (h1 : 0 ≤ c ∧ c < 4 * w 0) (ho : wOv w = false) (hh : wHd w c = wTn w) (hl : wLg w c = true) : PO n σ w (rCount (rPlays w c)) (F_C_play c) (if wPl (rCount (rPlays w c)) = 0 then rCount (rPlays w c) 9 else w 1 + (rCount (rPlays w c) 9 + wPl (rCount (rPlays w c))) % rCount (rPlays w c) 1) := by
  have hc := h.1
  have a := hc.1.n
  have b := hc.1.wpl
  have tl := wTn_lt hc.1
  have hd := hc.1.hd h1.1 (by omega)
  have k1 : σ.1 7 1 = (w 9 + wPl w) % w 1 := hc.2.1.1.1.2.1
  rw [← tn_pl ho] at k1
  obtain ⟨al, g1, g2⟩ := ec_allowedCards hc.hu hc.1 hc.2.1
  have g3 := wLg_card h1 (g2 c h1.1 (by omega))
  obtain ⟨s, q1, q2⟩ := pk_keep h
  have ts := q2.tb h
  have ss := q2.su h
  obtain ⟨σc, p1, p2, p3⟩ := ec_putDown OK6 ss hc.1 ts ho h1 hh
  have ri := RI_plays hc.1 ho h1 hh
  have rc := RI_count ri (n := n) ⟨by rw [rPlays_s hc.1 ho h1 (by omega)]; exact h.2.1.1, fun p h0 h1' => by rw [rPlays_s hc.1 ho h1 (by omega)]; exact h.2.1.2 p h0 h1'⟩ hn
  have pc := rCount_pl ri
  have ppl := rc.1.wpl
  have ptn := wTn_lt rc.1
  have pn := rc.1.n
  have c1 : rCount (rPlays w c) 1 = w 1 := by rw [rCount_o ri (by omega), rPlays_s hc.1 ho h1 (by omega)]
  refine ⟨σc, ?_, q2.pd h (fun c j hc => (p3.1 c j (by omega)).1) (fun c j hc => (p3.1 c j (by omega)).2) p3.2 p2, rc.1, rc.2, fun j hj => by rw [rCount_o ri (by omega), rPlays_s hc.1 ho h1 (by omega)]⟩
  generalize hw' : rCount (rPlays w c) = w' at *
  have t2 : σc.1 7 2 = wPl w' := p2.1.1.2.2.1
  have t0 : σc.1 7 0 = w' 9 := p2.1.1.1
  have t1 : σc.1 7 1 = (w' 9 + wPl w') % w' 1 := p2.1.1.2.1
  have t3 : σc.1 3 1 = w 1 := by rw [(p3.1 3 1 (by omega)).1]; exact ss.2.1
  unfold F_C_play F_C_play_122
  rw [px_needCard hc h1, zt_bxS, ed_isOver_f hc.hu hc.1 hc.2.1 (by rw [ho]; decide), zt_ckI zt_in0, if_pos rfl, ed_holderOf hc.hu hc.1 hc.2.1 h1, k1, zt_ckI ⟨by unfold zt_in; omega, by unfold zt_in; omega⟩, if_pos hh, g1, zt_bdS, e_has ⟨h1.1, by omega⟩, zt_bdS, g3, if_pos hl, zt_ckI (by decide), if_neg (by decide), q1, zt_bdS, p1, zt_bdS, t2, zt_ckI (by unfold zt_in; omega)]
  by_cases hz : wPl w' = 0
  · rw [if_pos hz, if_pos hz, t0]
  · rw [if_neg hz, if_neg hz, t1, t3]
theorem po_auto_over {v : Int} (h : PG n σ w) (hv : 1 ≤ v ∧ v ≤ 52) (ho : wOv w = true) : F_C_auto v σ = some (.inl (-2), σ) := by
  have hc := h.1
  unfold F_C_auto
  rw [ec_needRange (by unfold zt_in; omega) (by decide) (by decide), if_pos hv, zt_bxS, ed_isOver_t hc.hu hc.1 hc.2.1 ho, zt_ckI (by decide), if_neg (by decide)]
theorem po_auto {v : Int} (h : PG n σ w) (hn : 0 ≤ n ∧ n ≤ 1000) (hv : 1 ≤ v ∧ v ≤ 52) (ho : wOv w = false) : PO n σ w (wAu v.toNat w) (F_C_auto v) (wAn v.toNat w) := by
  have hc := h.1
  obtain ⟨s, q1, q2⟩ := pk_keep h
  have ts := q2.tb h
  have ss := q2.su h
  obtain ⟨σc, p1, p2, p3⟩ := ec_auto hn v.toNat zt_N v 0 w s (by omega) (zN (by omega)) (by omega) hv.2 ss hc.1 ts (Or.inr h.2.1)
  have g := wAu_ok hn v.toNat w hc.1 (Or.inr h.2.1) (h.2.1.up (by omega))
  rw [Int.zero_add] at p1
  refine ⟨σc, ?_, q2.pd h (fun c j hc => (p3.1 c j (by omega)).1) (fun c j hc => (p3.1 c j (by omega)).2) p3.2 p2, g.1, g.2.1, g.2.2⟩
  unfold F_C_auto
  rw [ec_needRange (by unfold zt_in; omega) (by decide) (by decide), if_pos hv, zt_bxS, ed_isOver_f hc.hu hc.1 hc.2.1 (by rw [ho]; decide), zt_ckI zt_in0, if_pos rfl, q1, zt_bdS, p1]
theorem po_setFade {v : Int} (h : PG n σ w) (hv : 0 ≤ v ∧ v ≤ 9) : PO n σ w (ru w 6 v) (F_C_setFade v) (w 6) := by
  have hc := h.1
  obtain ⟨s, k1, k2⟩ := pk_keep h
  have ts := k2.tb h
  have tt := ts.2.2.2.2.2.2
  refine ⟨zt_up s 6 12 v, ?_, k2.pd h (fun c j hc => up_o (Or.inl (by omega))) (fun c j hc => rfl) rfl (ts.ex hc.1 (ru_ex (by omega)) (fun c j a b d => up_o (Or.inl (by omega))) (fun c j => rfl) (fun p h0 h1 => ?_) (fun i h0 h1 => ru_o (by omega)) ?_), hc.1.exr (by omega), h.2.1.exr (by omega), ru_e0 (by omega)⟩
  · unfold F_C_setFade
    rw [ec_needRange (by unfold zt_in; omega) (by decide) (by decide), if_pos hv, zt_bxS, k1, zt_bdS, zt_letS, tt.2.1]
  · rw [up_o (Or.inl (by omega)), ru_o (by omega)]
    exact (ts.2.2.1 p h0 h1).1
  · simp (disch := omega) only [up_s, up_o, ru_s, ru_o]
    exact ⟨tt.1, trivial, tt.2.2⟩
theorem po_setRule_no {v : Int} (h : PG n σ w) (hv : 0 ≤ v ∧ v ≤ 3) (hp : 0 < wPl w) : F_C_setRule v σ = some (.inl (-2), σ) := by
  have hc := h.1
  have a := hc.1.n
  have b := hc.1.wpl
  have k2' : σ.1 7 2 = wPl w := hc.2.1.1.1.2.2.1
  unfold F_C_setRule
  rw [ec_needRange (by unfold zt_in; omega) (by decide) (by decide), if_pos hv, zt_bxS, k2', zt_ckI (by unfold zt_in; omega), if_pos hp]
theorem po_setRule {v : Int} (h : PG n σ w) (hv : 0 ≤ v ∧ v ≤ 3) (hp : ¬ 0 < wPl w) : PO n σ w (ru w 3 v) (F_C_setRule v) (w 3) := by
  have hc := h.1
  have a := hc.1.n
  have b := hc.1.wpl
  have k2' : σ.1 7 2 = wPl w := hc.2.1.1.1.2.2.1
  obtain ⟨s, k1, k2⟩ := pk_keep h
  have ts := k2.tb h
  have tt := ts.2.2.2.2.2.2
  refine ⟨zt_up s 6 11 v, ?_, k2.pd h (fun c j hc => up_o (Or.inl (by omega))) (fun c j hc => rfl) rfl (ts.ex hc.1 (ru_ex (by omega)) (fun c j a b d => up_o (Or.inl (by omega))) (fun c j => rfl) (fun p h0 h1 => ?_) (fun i h0 h1 => ru_o (by omega)) ?_), hc.1.exr (by omega), h.2.1.exr (by omega), ru_e0 (by omega)⟩
  · unfold F_C_setRule
    rw [ec_needRange (by unfold zt_in; omega) (by decide) (by decide), if_pos hv, zt_bxS, k2', zt_ckI (by unfold zt_in; omega), if_neg hp, k1, zt_bdS, zt_letS, tt.1]
  · rw [up_o (Or.inl (by omega)), ru_o (by omega)]
    exact (ts.2.2.1 p h0 h1).1
  · simp (disch := omega) only [up_s, up_o, ru_s, ru_o]
    exact ⟨trivial, tt.2⟩
theorem po_setRevive {v : Int} (h : PG n σ w) (hv : v = 0 ∨ v = 1) : ∃ σc, F_C_setRevive v σ = some (w 7, σc) ∧ PD σ σc w (ru w 7 v) ∧ RI (ru w 7 v) ∧ RB (n + 1) (ru w 7 v) ∧ ∀ j, (j = 0 ∨ j = 1 ∨ j = 2 ∨ j = 5) → ru w 7 v j = w j := by
  have hc := h.1
  have a := hc.1.n
  obtain ⟨s, k1, k2⟩ := pk_keep h
  have ts := k2.tb h
  have tt := ts.2.2.2.2.2.2
  refine ⟨zt_up s 6 13 v, ?_, k2.pd h (fun c j hc => up_o (Or.inl (by omega))) (fun c j hc => rfl) rfl (ts.ex hc.1 (ru_ex (by omega)) (fun c j a b d => up_o (Or.inl (by omega))) (fun c j => rfl) (fun p h0 h1 => ?_) (fun i h0 h1 => ru_o (by omega)) ?_), hc.1.exr (by omega), h.2.1.exr (by omega), ru_e0 (by omega)⟩
  · unfold F_C_setRevive F_C_setRevive_36
    rw [k1, zt_bdS, zt_ckI hv, zt_letS, tt.2.2.1, zt_ckI (by unfold zt_in; omega)]
    by_cases h7 : w 7 = 0
    · rw [if_pos h7, h7]
    · rw [if_neg h7, show w 7 = 1 by omega]
  · rw [up_o (Or.inl (by omega)), ru_o (by omega)]
    exact (ts.2.2.1 p h0 h1).1
  · simp (disch := omega) only [up_s, up_o, ru_s, ru_o]
    exact ⟨tt.1, tt.2.1, trivial, tt.2.2.2⟩
theorem po_tell_no {p v : Int} (h : PG n σ w) (hp : 0 ≤ p ∧ p < w 1) (hv : 0 ≤ v ∧ v ≤ w 2) (h12 : 0 < w 12) : F_C_tell p v σ = some (.inl (-2), σ) := by
  have hc := h.1
  have a := hc.1.n
  have p12 := hc.1.p12
  have e16 : σ.1 6 16 = w 12 := hc.2.1.2.2.2.2.2.2.2.2.2.2.2.1
  have e32 : σ.1 3 2 = w 2 := hc.2.2.2.2.1
  unfold F_C_tell
  rw [px_needPlayer hc hp, zt_bxS, e32, ec_needRange (by unfold zt_in; omega) (by decide) (by unfold zt_in; omega), if_pos hv, zt_bxS, e16, zt_ckI (by unfold zt_in; omega), if_pos h12]
theorem po_tell {p v : Int} (h : PG n σ w) (hp : 0 ≤ p ∧ p < w 1) (hv : 0 ≤ v ∧ v ≤ w 2) (h12 : ¬ 0 < w 12) : PO n σ w (ru w (16 + p) v) (F_C_tell p v) (w (16 + p) + 1) := by
  have hc := h.1
  have a := hc.1.n
  have b := hc.1.pl
  have p12 := hc.1.p12
  have e16 : σ.1 6 16 = w 12 := hc.2.1.2.2.2.2.2.2.2.2.2.2.2.1
  have e32 : σ.1 3 2 = w 2 := hc.2.2.2.2.1
  obtain ⟨s, k1, k2⟩ := pk_keep h
  have ts := k2.tb h
  have tt := ts.2.2.2.2.2.2
  refine ⟨zt_up s 9 p v, ?_, k2.pd h (fun c j hc => up_o (Or.inl (by omega))) (fun c j hc => rfl) rfl (ts.ex hc.1 (ru_ex (by omega)) (fun c j a b d => up_o (Or.inl (by omega))) (fun c j => rfl) (fun q h0 h1 => ?_) (fun i h0 h1 => ru_o (by omega)) ?_), hc.1.exr (by omega), h.2.1.exr (by omega), ru_e0 (by omega)⟩
  · unfold F_C_tell
    rw [px_needPlayer hc hp, zt_bxS, e32, ec_needRange (by unfold zt_in; omega) (by decide) (by unfold zt_in; omega), if_pos hv, zt_bxS, e16, zt_ckI (by unfold zt_in; omega), if_neg h12, k1, zt_bdS, be_at ⟨hp.1, by omega⟩ (by decide), be_set ⟨hp.1, by omega⟩ (by decide), show s.1 9 p = w (16 + p) from (ts.2.2.1 p hp.1 (by omega)).1]
  · show (zt_up s 9 p v).1 9 q = _
    by_cases hq : q = p
    · rw [hq, up_s, ru_s]
    · rw [up_o (Or.inr hq), ru_o (by omega)]
      exact (ts.2.2.1 q h0 h1).1
  · simp (disch := omega) only [up_o, ru_o]
    exact tt
theorem po_setTrump_no {v : Int} (h : PG n σ w) (hv : -1 ≤ v ∧ v ≤ 3) (h12 : 0 < w 12) : F_C_setTrump v σ = some (.inl (-2), σ) := by
  have hc := h.1
  have a := hc.1.n
  have p12 := hc.1.p12
  have e16 : σ.1 6 16 = w 12 := hc.2.1.2.2.2.2.2.2.2.2.2.2.2.1
  unfold F_C_setTrump
  rw [ec_needRange (by unfold zt_in; omega) (by decide) (by decide), if_pos hv, zt_bxS, e16, zt_ckI (by unfold zt_in; omega), if_pos h12]
/-- the row behind setTrump -/
def rTrump (w : Int → Int) (v : Int) : Int → Int := ru (ru (ru w 4 v) 10 v) 11 (if v = -1 then 0 else w 5)
theorem po_setTrump {v : Int} (h : PG n σ w) (hv : -1 ≤ v ∧ v ≤ 3) (h12 : ¬ 0 < w 12) : PO n σ w (rTrump w v) (F_C_setTrump v) (w 4 + 1) := by
  have hc := h.1
  have a := hc.1.n
  have b := hc.1.pl
  have p12 := hc.1.p12
  have e16 : σ.1 6 16 = w 12 := hc.2.1.2.2.2.2.2.2.2.2.2.2.2.1
  obtain ⟨s, k1, k2⟩ := pk_keep h
  have ts := k2.tb h
  have ss := k2.su h
  have tt := ts.2.2.2.2.2.2
  unfold rTrump
  have g0 : 0 ≤ (if v = -1 then (0 : Int) else w 5) ∧ (if v = -1 then (0 : Int) else w 5) ≤ 30 := by split <;> omega
  generalize hg : (if v = -1 then (0 : Int) else w 5) = g at g0 ⊢
  have e : ∀ i, i ≠ 4 → i ≠ 10 → i ≠ 11 → ru (ru (ru w 4 v) 10 v) 11 g i = w i := fun i h1 h2 h3 => by rw [ru_o h3, ru_o h2, ru_o h1]
  refine ⟨zt_up (zt_up (zt_up s 6 14 v) 7 7 v) 7 8 g, ?_, k2.pd h (fun c j hc => by rw [up_o (Or.inl (by omega)), up_o (Or.inl (by omega)), up_o (Or.inl (by omega))]) (fun c j hc => rfl) rfl (ts.zero hc.1 (by omega) e (fun c j a b => by rw [up_o (Or.inl (by omega)), up_o (Or.inl (by omega)), up_o (Or.inl (by omega))]) (fun c j => rfl) (fun j h0 h1 => by rw [up_o (by omega), up_o (by omega), up_o (by omega)]) ?_ (fun j hj => by rw [up_o (by omega), up_o (by omega), up_o (by omega)]) ?_), hc.1.light hv g0, ?_, fun j hj => e j (by omega) (by omega) (by omega)⟩
  · have e14 : (zt_up s 6 14 v).1 6 14 = v := up_s _ _ _ _
    have e33 : (zt_up s 6 14 v).1 3 3 = w 5 := by rw [up_o (by omega)]; exact ss.2.2.2
    unfold F_C_setTrump
    rw [ec_needRange (by unfold zt_in; omega) (by decide) (by decide), if_pos hv, zt_bxS, e16, zt_ckI (by unfold zt_in; omega), if_neg h12, k1, zt_bdS, zt_letS, ec_lightTrump (by decide) (by rw [e14]; unfold zt_in; omega), zt_bdS, e14, show zt_su 6 = 3 from rfl, e33, hg, show s.1 6 14 = w 4 from tt.2.2.2.1]
  · simp (disch := omega) only [up_s, up_o, ru_s, ru_o]
    exact ⟨trivial, trivial⟩
  · simp (disch := omega) only [up_s, up_o, ru_s, ru_o]
  · refine RB.up (n := n) ⟨?_, fun p h0 h1 => ?_⟩ (by omega)
    · rw [e 14 (by omega) (by omega) (by omega)]; exact h.2.1.1
    · rw [e _ (by omega) (by omega) (by omega)]; exact h.2.1.2 p h0 h1
end PP
