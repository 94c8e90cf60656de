/-! undo, the snapshot, the buffer -/
section UN
variable {σ : zt_S} {n : Int}
theorem AP.oq {fc fm : zt_S → Option (Int × zt_S)} (a : AP fc fm σ) (h : Inv n σ) : OQ (n + 1) fc fm σ := by
  obtain ⟨v, h1, h2, h3⟩ := a
  exact ⟨v, σ, _, h1, h2, h3, h.q (fun c j hc => up_o (by omega)) (fun c j _ => rfl) (Nat.le_succ _)⟩
theorem oq_undoCount (h : Inv n σ) : OQ (n + 1) F_C_undoCount F_M_undoCount σ := by
  have u := h.2.2.1
  refine AP.oq ⟨σ.1 163 5, ?_, ?_, by have := u.1; unfold zt_in; omega⟩ h
  · unfold F_C_undoCount
    rw [u.2.1]
  · unfold F_M_undoCount
    rw [zt_letS, up_o (by omega)]
theorem oq_errorPosition (h : Inv n σ) : OQ (n + 1) F_C_errorPosition F_M_errorPosition σ := by
  have u := h.2.2.2.2.2.1
  refine AP.oq ⟨σ.1 163 17, ?_, ?_, u.2⟩ h
  · unfold F_C_errorPosition
    rw [u.1]
  · unfold F_M_errorPosition
    rw [zt_letS, up_o (by omega)]
theorem RW.r13 {t : Nat} {w : Int → Int} (h : RW n σ t w) : σ.1 t 13 = 0 ∨ σ.1 t 13 = 1 := by
  have := h.2.2.1.2.2.2.2.2.2.2.2.1
  have := h.1.n
  omega
/-- a row that was kept is the game's again -/
theorem co_back {σ τ : zt_S} {t : Nat} {w : Int → Int} (hc : CO σ) (r : RW n σ t w) (s : zt_S) (c : CPY 6 t σ s) (e1 : ∀ c j, 6 ≤ c → c ≤ 15 → τ.1 c j = s.1 c j) (e2 : ∀ c j, 6 ≤ c → c ≤ 15 → τ.2.1 c j = s.2.1 c j) (e3 : ∀ j, τ.1 3 j = s.1 3 j) (e : EQ w (τ.1 164)) : CO τ ∧ RB n (τ.1 164) ∧ ∀ j, (j = 0 ∨ j = 1 ∨ j = 2 ∨ j = 5) → τ.1 164 j = σ.1 164 j := by
  obtain ⟨r1, r2, r3, r4, r5, r6, r7⟩ := r
  have e0 : ∀ j, (j = 0 ∨ j = 1 ∨ j = 2 ∨ j = 5) → τ.1 164 j = σ.1 164 j := by
    intro j hj
    rcases hj with rfl | rfl | rfl | rfl
    · rw [e 0 (by omega) (by omega), r4]
    · rw [e 1 (by omega) (by omega), r5]
    · rw [e 2 (by omega) (by omega), r6]
    · rw [e 5 (by omega) (by omega), r7]
  refine ⟨⟨e.i r1, e.tb r1 (TB.ag (σ := s) e1 e2 (r3.cp c r1)), ?_⟩, e.rb r2, e0⟩
  have g := hc.2.2
  unfold SUw at g ⊢
  rw [e0 0 (by omega), e0 1 (by omega), e0 2 (by omega), e0 5 (by omega), e3, e3, e3, e3, (c.1.1 3 0 (by omega)).1, (c.1.1 3 1 (by omega)).1, (c.1.1 3 2 (by omega)).1, (c.1.1 3 3 (by omega)).1]
  exact g
theorem oq_undo (h : Inv n σ) : OQ (n + 1) F_C_undo F_M_undo σ := by
  obtain ⟨hc, h2, h3, h4, h5, h6, h7, h8, h9⟩ := id h
  obtain ⟨u1, u2, u3, u4⟩ := id h3
  by_cases hu : σ.1 163 5 = 0
  · refine AP.oq ⟨-1, ?_, ?_, by decide⟩ h
    · unfold F_C_undo
      rw [u2, zt_ckI (by unfold zt_in; omega), if_neg (by omega)]
    · unfold F_M_undo
      rw [zt_letS, up_o (by omega), zt_ckI (by unfold zt_in; omega), if_pos hu]
  · have r := u4 0 (by omega) (by omega)
    have tl := hT_lt (σ := σ) (i := 0)
    obtain ⟨nx, hnx⟩ : ∃ x, x = (if 0 < σ.1 16 1 then σ.1 16 1 - 1 else 9) := ⟨_, rfl⟩
    have nl : 0 ≤ nx ∧ nx < 10 ∧ nx = (σ.1 16 1 + 9) % 10 := by rw [hnx]; split <;> omega
    have hTt : hT σ 0 = 18 + 10 * nx.toNat := by unfold hT; rw [nl.2.2, Int.sub_zero]
    obtain ⟨s0, hs0⟩ : ∃ x, x = zt_up (zt_up σ 16 1 nx) 16 2 (σ.1 163 5 - 1) := ⟨_, rfl⟩
    have s0f : ∀ c j, c ≠ 16 → s0.1 c j = σ.1 c j := fun c j hc => by rw [hs0, up_o (Or.inl hc), up_o (Or.inl hc)]
    have s02 : s0.2 = σ.2 := by rw [hs0]; rfl
    have r0 : RW n s0 (hT σ 0) (fun j => σ.1 167 (274 * (σ.1 163 5 - 1 - 0) + j)) := r.ag (Int.le_refl _) (fun c j a b => s0f c j (by omega)) (fun c j a b => by rw [s02]) (fun j hj => s0f _ _ (by omega))
    obtain ⟨s, c1, c2⟩ := ec_copyFrom (σ := s0) (t0 := 6) (t1 := hT σ 0) (by omega) r0.r13
    have cs : F_C_undo σ = some (σ.1 163 5 - 1, s) := by
      have hr : F_Hi_rowAt nx s0 = some (hT σ 0, s0) := by
        unfold F_Hi_rowAt
        rw [zt_ckI (by unfold zt_in; omega), if_neg (by omega), zt_ckI (by unfold zt_in; omega), if_pos (by omega), zt_ckI (by omega), hTt]
      have hm : hT σ 0 ∈ zt_tabs := by rw [hTt]; exact kT_tabs _ (by omega)
      have k19 : F_Hi_takeBack_19 6 nx σ = some ((), s) := by
        unfold F_Hi_takeBack_19
        have e1 : (if (zt_up σ 16 1 nx).1 16 2 - 1 < 0 then (0 : Int) else (zt_up σ 16 1 nx).1 16 2 - 1) = σ.1 163 5 - 1 := by rw [up_o (by omega), u2, if_neg (by omega)]
        rw [zt_letS, zt_ckI (by rw [up_o (by omega), u2]; unfold zt_in; omega), e1, zt_letS, ← hs0, show s0.1 16 1 = nx from by rw [hs0, up_o (by omega), up_s], hr, zt_bdS, zt_ckI hm, c1, zt_bdS]
      have kt : F_Hi_takeBack 6 σ = some ((), s) := by
        unfold F_Hi_takeBack
        rw [zt_ckI (by unfold zt_in; omega)]
        by_cases hn : 0 < σ.1 16 1
        · rw [if_pos hn] at hnx ⊢
          rw [← hnx]
          exact k19
        · rw [if_neg hn] at hnx ⊢
          rw [← hnx]
          exact k19
      unfold F_C_undo
      rw [u2, zt_ckI (by unfold zt_in; omega), if_pos (by omega), kt, zt_bdS, show s.1 16 2 = σ.1 163 5 - 1 from by rw [(c2.1.1 16 2 (by omega)).1, hs0, up_s]]
    have sf : ∀ c j, c ≠ 16 → (c < 6 ∨ 15 < c) → s.1 c j = σ.1 c j := fun c j a b => by rw [(c2.1.1 c j (by omega)).1, s0f c j a]
    have sl : ∀ c j, (c < 6 ∨ 15 < c) → s.2.1 c j = σ.2.1 c j := fun c j a => by rw [(c2.1.1 c j (by omega)).2, s02]
    obtain ⟨τ, hτ⟩ : ∃ x, x = zt_cI (zt_up (zt_up s 163 0 0) 163 5 (σ.1 163 5 - 1)) 167 164 (274 * (σ.1 163 5 - 1)) 0 274 := ⟨_, rfl⟩
    have cm : F_M_undo s = some (σ.1 163 5 - 1, τ) := by
      unfold F_M_undo
      have e5 : (zt_up s 163 0 0).1 163 5 = σ.1 163 5 := by rw [up_o (by omega), sf 163 5 (by omega) (by omega)]
      rw [zt_letS, e5, zt_ckI (by unfold zt_in; omega), if_neg hu, zt_letS, up_s, eb_copies ⟨by omega, by omega⟩ ⟨by omega, by omega⟩ (Or.inl (by decide)), ← hτ, show τ.1 163 5 = σ.1 163 5 - 1 from by rw [hτ, cI_o (by decide), up_s]]
    have t1 : ∀ c j, c ≠ 164 → (c ≠ 163 ∨ (j ≠ 0 ∧ j ≠ 5)) → τ.1 c j = s.1 c j := fun c j a b => by rw [hτ, cI_o a, up_o (by omega), up_o (by omega)]
    have t2 : τ.2 = s.2 := by rw [hτ]; rfl
    have t3 : EQ (fun j => σ.1 167 (274 * (σ.1 163 5 - 1 - 0) + j)) (τ.1 164) := fun j j0 j1 => by
      rw [hτ, cI_s ⟨by omega, by omega⟩, up_o (by omega), up_o (by omega), sf _ _ (by omega) (by omega)]
      show _ = σ.1 167 (274 * (σ.1 163 5 - 1 - 0) + j)
      rw [show 274 * (σ.1 163 5 - 1) + (j - 0) = 274 * (σ.1 163 5 - 1 - 0) + j by omega]
    have hc0 : CO s0 := by
      refine ⟨by rw [show s0.1 164 = σ.1 164 from funext fun j => s0f _ _ (by omega)]; exact hc.1, by rw [show s0.1 164 = σ.1 164 from funext fun j => s0f _ _ (by omega)]; exact hc.2.1.ag (fun c j a b => s0f c j (by omega)) (fun c j a b => by rw [s02]), ?_⟩
      have g := hc.2.2
      unfold SUw at g ⊢
      rw [s0f _ _ (by omega), s0f _ _ (by omega), s0f _ _ (by omega), s0f _ _ (by omega), s0f _ _ (by omega), s0f _ _ (by omega), s0f _ _ (by omega), s0f _ _ (by omega)]
      exact g
    obtain ⟨k1, k2, k3⟩ := co_back (τ := τ) hc0 r0 s c2 (fun c j a b => t1 c j (by omega) (by omega)) (fun c j a b => by rw [t2]) (fun j => t1 _ _ (by omega) (by omega)) t3
    have k4 : ∀ j, (j = 0 ∨ j = 1 ∨ j = 2 ∨ j = 5) → τ.1 164 j = σ.1 164 j := fun j hj => by rw [k3 j hj, s0f _ _ (by omega)]
    have f1 : ∀ c j, c ≠ 16 → (c < 6 ∨ 15 < c) → c ≠ 164 → (c ≠ 163 ∨ (j ≠ 0 ∧ j ≠ 5)) → τ.1 c j = σ.1 c j := fun c j a b d e => by rw [t1 c j d e, sf c j a b]
    have f2 : ∀ c j, (c < 6 ∨ 15 < c) → τ.2.1 c j = σ.2.1 c j := fun c j a => by rw [t2, sl c j a]
    have g5 : τ.1 163 5 = σ.1 163 5 - 1 := by rw [hτ, cI_o (by decide), up_s]
    have g1 : τ.1 16 1 = nx := by rw [t1 _ _ (by omega) (by omega), (c2.1.1 16 1 (by omega)).1, hs0, up_o (by omega), up_s]
    have g2 : τ.1 16 2 = σ.1 163 5 - 1 := by rw [t1 _ _ (by omega) (by omega), (c2.1.1 16 2 (by omega)).1, hs0, up_s]
    refine ⟨σ.1 163 5 - 1, s, τ, cs, cm, by unfold zt_in; omega, k1, k2.up (by omega), ⟨by omega, by omega, by omega, fun i i0 i1 => ?_⟩, h4.ag (by omega) (fun c j a b => f1 c j (by omega) (by omega) (by omega) (by omega)) (fun c j a b => f2 c j (by omega)) (f1 _ _ (by omega) (by omega) (by omega) (by omega)) (f1 _ _ (by omega) (by omega) (by omega) (by omega)) (fun j => f1 _ _ (by omega) (by omega) (by omega) (by omega)) k4, h5.ag (f1 _ _ (by omega) (by omega) (by omega) (by omega)) (f1 _ _ (by omega) (by omega) (by omega) (by omega)) (fun j => f1 _ _ (by omega) (by omega) (by omega) (by omega)) (fun j => f1 _ _ (by omega) (by omega) (by omega) (by omega)), h6.ag (f1 _ _ (by omega) (by omega) (by omega) (by omega)) (f1 _ _ (by omega) (by omega) (by omega) (by omega)), h7.ag (fun c j a b => f1 _ _ (by omega) (by omega) (by omega) (by omega)) (f1 _ _ (by omega) (by omega) (by omega) (by omega)) (fun j => f1 _ _ (by omega) (by omega) (by omega) (by omega)), h8.ag (by omega) (fun c j a b => f2 c j (by omega)), by rw [t2, c2.1.2, s02]; omega⟩
    have et : hT τ i = hT σ (i + 1) := by
      unfold hT
      rw [g1, nl.2.2]
      omega
    have tl2 := hT_lt (σ := σ) (i := i + 1)
    rw [et]
    refine RW.eq ((u4 (i + 1) (by omega) (by omega)).ag (m := n + 1) (by omega) (fun c j a b => f1 c j (by omega) (by omega) (by omega) (by omega)) (fun c j a b => f2 c j (by omega)) k4) (fun j j0 j1 => ?_)
    show τ.1 167 (274 * (τ.1 163 5 - 1 - i) + j) = σ.1 167 (274 * (σ.1 163 5 - 1 - (i + 1)) + j)
    rw [g5, f1 _ _ (by omega) (by omega) (by omega) (by omega), show 274 * (σ.1 163 5 - 1 - 1 - i) + j = 274 * (σ.1 163 5 - 1 - (i + 1)) + j by omega]
theorem sv_snapshot (h : Inv n σ) : ∃ σ1 σ2, F_C_saveSnapshot σ = some ((), σ1) ∧ F_M_saveSnapshot σ1 = some ((), σ2) ∧ Inv (n + 1) σ2 := by
  obtain ⟨hc, h2, h3, h4, h5, h6, h7, h8, h9⟩ := id h
  have a := hc.1.n
  have e13 : σ.1 6 13 = 0 ∨ σ.1 6 13 = 1 := by
    have := hc.2.1.2.2.2.2.2.2.2.2.1
    omega
  obtain ⟨s, c1, c2⟩ := ec_copyFrom (σ := σ) (t0 := 118) (t1 := 6) (by omega) e13
  obtain ⟨τ, hτ⟩ : ∃ x, x = zt_up (zt_cI (zt_up (zt_up s 0 8 1) 163 0 0) 164 166 0 0 274) 163 6 1 := ⟨_, rfl⟩
  have f1 : ∀ c j, (c < 118 ∨ 127 < c) → c ≠ 166 → (c ≠ 163 ∨ (j ≠ 0 ∧ j ≠ 6)) → (c ≠ 0 ∨ j ≠ 8) → τ.1 c j = σ.1 c j := fun c j b1 b2 b3 b4 => by
    rw [hτ, up_o (by omega), cI_o b2, up_o (by omega), up_o (by omega), (c2.1.1 c j (by omega)).1]
  have f2 : ∀ c j, (c < 118 ∨ 127 < c) → τ.2.1 c j = σ.2.1 c j := fun c j b => by
    rw [hτ, up_2, cI_2, up_2, up_2]
    exact (c2.1.1 c j b).2
  have f3 : τ.1 164 = σ.1 164 := funext fun j => f1 _ _ (by omega) (by omega) (by omega) (by omega)
  refine ⟨zt_up s 0 8 1, τ, ?_, ?_, ?_, ?_, ?_, ?_, ?_, ?_, ?_, ?_, ?_⟩
  · unfold F_C_saveSnapshot
    rw [c1, zt_bdS, zt_letS]
  · unfold F_M_saveSnapshot
    rw [zt_letS, eb_copies ⟨by omega, by omega⟩ ⟨by omega, by omega⟩ (Or.inl (by decide)), zt_letS, hτ]
  · refine ⟨by rw [f3]; exact hc.1, by rw [f3]; exact hc.2.1.ag (fun c j a b => f1 c j (by omega) (by omega) (by omega) (by omega)) (fun c j a b => f2 c j (by omega)), ?_⟩
    have g := hc.2.2
    unfold SUw at g ⊢
    rw [f3, f1 _ _ (by omega) (by omega) (by omega) (by omega), f1 _ _ (by omega) (by omega) (by omega) (by omega), f1 _ _ (by omega) (by omega) (by omega) (by omega), f1 _ _ (by omega) (by omega) (by omega) (by omega)]
    exact g
  · rw [f3]; exact h2.up (by omega)
  · exact h3.ag (by omega) (fun c j a b => f1 c j (by omega) (by omega) (by omega) (by omega)) (fun c j a b => f2 c j (by omega)) (f1 _ _ (by omega) (by omega) (by omega) (by omega)) (fun j => f1 _ _ (by omega) (by omega) (by omega) (by omega)) (fun j _ => by rw [f3])
  · have g6 : τ.1 163 6 = 1 := by rw [hτ, up_s]
    refine ⟨by rw [g6, hτ, up_o (by omega), cI_o (by omega), up_o (by omega), up_s], Or.inr ⟨g6, RW.eq (w := σ.1 164) ⟨hc.1, h2.up (by omega), TB.ag (σ := s) (fun c j a b => by rw [hτ, up_o (by omega), cI_o (by omega), up_o (by omega), up_o (by omega)]) (fun c j a b => by rw [hτ]; rfl) (hc.2.1.cp c2 hc.1), by rw [f3], by rw [f3], by rw [f3], by rw [f3]⟩ (fun j j0 j1 => ?_)⟩⟩
    rw [hτ, up_o (by omega), cI_s ⟨by omega, by omega⟩, up_o (by omega), up_o (by omega), (c2.1.1 164 _ (by omega)).1, show 0 + (j - 0) = j by omega]
  · exact h5.ag (f1 _ _ (by omega) (by omega) (by omega) (by omega)) (f1 _ _ (by omega) (by omega) (by omega) (by omega)) (fun j => f1 _ _ (by omega) (by omega) (by omega) (by omega)) (fun j => f1 _ _ (by omega) (by omega) (by omega) (by omega))
  · exact h6.ag (f1 _ _ (by omega) (by omega) (by omega) (by omega)) (f1 _ _ (by omega) (by omega) (by omega) (by omega))
  · exact h7.ag (fun c j a b => f1 _ _ (by omega) (by omega) (by omega) (by omega)) (f1 _ _ (by omega) (by omega) (by omega) (by omega)) (fun j => f1 _ _ (by omega) (by omega) (by omega) (by omega))
  · exact h8.ag (by omega) (fun c j a b => f2 c j (by omega))
  · rw [show τ.2.2.2 = σ.2.2.2 from by rw [hτ, up_2, cI_2, up_2, up_2, c2.1.2]]; omega
theorem oq_restore (h : Inv n σ) : OQ (n + 1) F_C_restoreSnapshot F_M_restoreSnapshot σ := by
  obtain ⟨hc, h2, h3, h4, h5, h6, h7, h8, h9⟩ := id h
  obtain ⟨p1, p2⟩ := id h4
  rcases p2 with p2 | ⟨p2, r⟩
  · refine AP.oq ⟨0, ?_, ?_, by decide⟩ h
    · unfold F_C_restoreSnapshot
      rw [p1, p2, zt_ckI (by decide), if_pos rfl]
    · unfold F_M_restoreSnapshot
      rw [zt_letS, up_o (by omega), p2, zt_ckI (by decide), if_pos rfl]
  · obtain ⟨s, c1, c2⟩ := ec_copyFrom (σ := σ) (t0 := 6) (t1 := 118) (by omega) r.r13
    obtain ⟨τ, hτ⟩ : ∃ x, x = zt_up (zt_cI (zt_up (zt_up (zt_up s 16 1 0) 16 2 0) 163 0 0) 166 164 0 0 274) 163 5 0 := ⟨_, rfl⟩
    have t1 : ∀ c j, c ≠ 164 → c ≠ 16 → (c ≠ 163 ∨ (j ≠ 0 ∧ j ≠ 5)) → τ.1 c j = s.1 c j := fun c j b1 b2 b3 => by rw [hτ, up_o (by omega), cI_o b1, up_o (by omega), up_o (by omega), up_o (by omega)]
    have t2 : τ.2 = s.2 := by rw [hτ]; rfl
    have f1 : ∀ c j, (c < 6 ∨ 16 < c) → c ≠ 164 → (c ≠ 163 ∨ (j ≠ 0 ∧ j ≠ 5)) → τ.1 c j = σ.1 c j := fun c j b1 b2 b3 => by rw [t1 c j b2 (by omega) b3, (c2.1.1 c j (by omega)).1]
    have f2 : ∀ c j, (c < 6 ∨ 15 < c) → τ.2.1 c j = σ.2.1 c j := fun c j b => by rw [t2, (c2.1.1 c j (by omega)).2]
    have t3 : EQ (σ.1 166) (τ.1 164) := fun j j0 j1 => by
      rw [hτ, up_o (by omega), cI_s ⟨by omega, by omega⟩, up_o (by omega), up_o (by omega), up_o (by omega), (c2.1.1 166 _ (by omega)).1, show 0 + (j - 0) = j by omega]
    obtain ⟨k1, k2, k3⟩ := co_back (τ := τ) hc r s c2 (fun c j a b => t1 c j (by omega) (by omega) (by omega)) (fun c j a b => by rw [t2]) (fun j => t1 _ _ (by omega) (by omega) (by omega)) t3
    refine ⟨1, zt_up (zt_up s 16 1 0) 16 2 0, τ, ?_, ?_, by decide, k1, k2.up (by omega), ⟨?_, ?_, ?_, ?_⟩, h4.ag (by omega) (fun c j a b => f1 c j (by omega) (by omega) (by omega)) (fun c j a b => f2 c j (by omega)) (f1 _ _ (by omega) (by omega) (by omega)) (f1 _ _ (by omega) (by omega) (by omega)) (fun j => f1 _ _ (by omega) (by omega) (by omega)) k3, h5.ag (f1 _ _ (by omega) (by omega) (by omega)) (f1 _ _ (by omega) (by omega) (by omega)) (fun j => f1 _ _ (by omega) (by omega) (by omega)) (fun j => f1 _ _ (by omega) (by omega) (by omega)), h6.ag (f1 _ _ (by omega) (by omega) (by omega)) (f1 _ _ (by omega) (by omega) (by omega)), h7.ag (fun c j a b => f1 _ _ (by omega) (by omega) (by omega)) (f1 _ _ (by omega) (by omega) (by omega)) (fun j => f1 _ _ (by omega) (by omega) (by omega)), h8.ag (by omega) (fun c j a b => f2 c j (by omega)), by rw [t2, c2.1.2]; omega⟩
    · unfold F_C_restoreSnapshot F_Hi_clear
      rw [p1, p2, zt_ckI (by decide), if_neg (by decide), c1, zt_bdS, zt_letS, zt_letS, zt_bdS]
    · unfold F_M_restoreSnapshot
      rw [zt_letS, up_o (by omega), up_o (by omega), up_o (by omega), (c2.1.1 163 6 (by omega)).1, p2, zt_ckI (by decide), if_neg (by decide), eb_copies ⟨by omega, by omega⟩ ⟨by omega, by omega⟩ (Or.inl (by decide)), zt_letS, hτ]
    · rw [hτ, up_s]; omega
    · rw [hτ, up_s, up_o (by omega), cI_o (by omega), up_o (by omega), up_s]
    · rw [hτ, up_o (by omega), cI_o (by omega), up_o (by omega), up_o (by omega), up_s]; omega
    · intro i i0 i1
      rw [hτ, up_s] at i1
      omega
end UN
