/-! THE CLAUSES' LOOPS -/
section LS
variable (B : Int → Int) (N : Int)
def clZ (z : ZS) : ZS :=
  if pWb B N (q_big + 1 + 8) z.2 = true then ((haZ B N (z.1, pX B N z.2)).1, pNS B N 59 (haZ B N (z.1, pX B N z.2)).2)
  else if pWb B N (q_big + 1 + 9) z.2 = true then ((teZ B N (z.1, pX B N z.2)).1, pNS B N 59 (teZ B N (z.1, pX B N z.2)).2)
  else (z.1, pNS B N 59 (pF B N 1 z.2))
def caZ : Nat → ZS → ZS
  | 0, z => z
  | m + 1, z => if z.2.1 = 0 ∧ ¬ tK B N z.2.2.2 = 0 then caZ m (clZ B N z) else z
def kaZ : Nat → Int → ZS → Int
  | 0, k, _ => k
  | m + 1, k, z => if z.2.1 = 0 ∧ ¬ tK B N z.2.2.2 = 0 then kaZ m (if pWb B N (q_big + 1 + 8) z.2 = true then 1 else k) (clZ B N z) else k
end LS
section LB
variable {B : Int → Int} {N : Int} {σ τ : zt_S} {s : PS} {r u : Int → Int} {z : ZS} {lo hi p : Int}
/-! onwards -/
def UP (N : Int) (s s' : PS) : Prop := 0 ≤ s.2.2 → s.2.2 ≤ N → s.2.2 ≤ s'.2.2 ∧ s'.2.2 ≤ N
theorem UP.rf : UP N s s := fun _ h => ⟨Int.le_refl _, h⟩
theorem UP.tr {a b c : PS} (h : UP N a b) (g : UP N b c) : UP N a c := fun h0 h1 => by
  have x := h h0 h1
  have y := g (by omega) x.2
  omega
theorem up_X : UP N s (pX B N s) := fun h0 h1 => by
  have a := tE_lt (B := B) (N := N) (i := s.2.2) ⟨h0, h1⟩
  have b := tS_lt (B := B) (N := N) (i := s.2.2) ⟨h0, h1⟩
  show s.2.2 ≤ tE B N s.2.2 ∧ tE B N s.2.2 ≤ N
  omega
theorem up_X1 (h0 : 0 ≤ s.2.2) (h1 : s.2.2 ≤ N) (hk : tK B N s.2.2 ≠ 0) : s.2.2 < (pX B N s).2.2 := by
  have a := tE_lt (B := B) (N := N) (i := s.2.2) ⟨h0, h1⟩
  have b := tS_lt (B := B) (N := N) (i := s.2.2) ⟨h0, h1⟩
  have := a.2.2 hk
  show s.2.2 < tE B N s.2.2
  omega
theorem up_F {k : Int} : UP N s (pF B N k s) := by
  unfold pF
  split
  · exact fun _ h => ⟨Int.le_refl _, h⟩
  · exact UP.rf
theorem up_P : UP N s (pPs B N lo hi s) := by
  unfold pPs
  split
  · split
    · exact up_F
    · exact UP.rf
  · exact up_F
theorem up_Nu : UP N s (pNu B N lo hi s) := by
  unfold pNu
  split
  · exact up_P.tr up_X
  · exact up_P
theorem up_NS {b : Int} : UP N s (pNS B N b s) := by
  unfold pNS
  split
  · exact up_X
  · exact up_F
theorem up_cd : UP N z.2 (cdZ B N p z).2 := by
  have e : UP N z.2 (cdS B N p z) := by
    unfold cdS
    split
    · exact up_P.tr up_F
    · exact up_P
  unfold cdZ
  split
  · exact e.tr up_X
  · exact e
theorem up_hn : ∀ (m : Nat) (z : ZS), UP N z.2 (hnZ B N p m z).2
  | 0, _ => UP.rf
  | m + 1, z => by
    rw [hnZ]
    split
    · exact up_cd.tr (up_hn m _)
    · exact UP.rf
theorem up_ha : UP N z.2 (haZ B N z).2 := by
  unfold haZ
  have a : UP N z.2 (pNu B N 0 (z.1 1 - 1) z.2) := up_Nu
  have b : UP N (pNu B N 0 (z.1 1 - 1) z.2) (cdZ B N (pPv B N 0 (z.1 1 - 1) z.2) (z.1, pNu B N 0 (z.1 1 - 1) z.2)).2 := up_cd (z := (z.1, pNu B N 0 (z.1 1 - 1) z.2))
  exact (a.tr b).tr (up_hn _ _)
theorem up_te : UP N z.2 (teZ B N z).2 := by
  have e : UP N z.2 (teS B N z) := by
    unfold teS
    split
    · exact up_P.tr up_F
    · exact up_P
  unfold teZ
  split
  · split
    · exact (e.tr up_X).tr up_Nu
    · exact (e.tr up_X).tr up_Nu
  · exact e
theorem pWb_k {w : Nat} (h : pWb B N w s = true) : s.1 = 0 ∧ tK B N s.2.2 = 2 := by
  unfold pWb isW at h
  simp only [Bool.and_eq_true, decide_eq_true_eq] at h
  exact ⟨h.1, h.2.1.1⟩
theorem pNS_g {b : Int} (h : (pNS B N b s).1 = 0) : s.1 = 0 := by
  rcases Classical.em (s.1 = 0) with x | x
  · exact x
  · rw [pNS_f x] at h; exact h
theorem up_cl (h0 : 0 ≤ z.2.2.2) (h1 : z.2.2.2 ≤ N) (g : (clZ B N z).2.1 = 0) : z.2.2.2 < (clZ B N z).2.2.2 ∧ (clZ B N z).2.2.2 ≤ N := by
  unfold clZ at g ⊢
  by_cases a : pWb B N (q_big + 1 + 8) z.2 = true
  · rw [if_pos a] at g ⊢
    have k := pWb_k a
    have x1 := up_X1 (B := B) (s := z.2) h0 h1 (by omega)
    have x0 := up_X (B := B) (s := z.2) h0 h1
    have x2 := (up_ha (B := B) (z := (z.1, pX B N z.2))).tr (up_NS (B := B) (b := 59)) (by show 0 ≤ (pX B N z.2).2.2; omega) x0.2
    dsimp only at x2 ⊢
    omega
  · rw [if_neg a] at g ⊢
    by_cases b : pWb B N (q_big + 1 + 9) z.2 = true
    · rw [if_pos b] at g ⊢
      have k := pWb_k b
      have x1 := up_X1 (B := B) (s := z.2) h0 h1 (by omega)
      have x0 := up_X (B := B) (s := z.2) h0 h1
      have x2 := (up_te (B := B) (z := (z.1, pX B N z.2))).tr (up_NS (B := B) (b := 59)) (by show 0 ≤ (pX B N z.2).2.2; omega) x0.2
      dsimp only at x2 ⊢
      omega
    · rw [if_neg b] at g
      exact absurd (pNS_g g) (pF_ne (by decide))
theorem clZ_R (h : RH z.1) : RH (clZ B N z).1 ∧ ∀ i, i < 16 → (clZ B N z).1 i = z.1 i := by
  unfold clZ
  split
  · exact ⟨haZ_R (z := (z.1, pX B N z.2)) h, fun i hi => haZ_o (z := (z.1, pX B N z.2)) (by omega)⟩
  · split
    · have := teZ_R (B := B) (N := N) (z := (z.1, pX B N z.2)) h
      exact ⟨this.1, fun i hi => this.2 i (by omega)⟩
    · exact ⟨h, fun _ _ => rfl⟩
theorem caZ_R : ∀ (m : Nat) (z : ZS), RH z.1 → RH (caZ B N m z).1 ∧ ∀ i, i < 16 → (caZ B N m z).1 i = z.1 i
  | 0, _, h => ⟨h, fun _ _ => rfl⟩
  | m + 1, z, h => by
    rw [caZ]
    split
    · have a := clZ_R (B := B) (N := N) h
      have b := caZ_R m _ a.1
      exact ⟨b.1, fun i hi => by rw [b.2 i hi, a.2 i hi]⟩
    · exact ⟨h, fun _ _ => rfl⟩
/-! the class -/
theorem ec_clause (h : CZ B N σ z) (hr : RH z.1) : ∃ σ', F_TR_readClause N σ = some ((), σ') ∧ CZ B N σ' (clZ B N z) ∧ FC σ σ' := by
  have t47 : ∀ (σ2 : zt_S) (z2 : ZS), CZ B N σ2 z2 → FC σ σ2 → ∃ σ', F_TR_readClause_47 σ2 = some ((), σ') ∧ CZ B N σ' (z2.1, pNS B N 59 z2.2) ∧ FC σ σ' := by
    intro σ2 z2 k1 k2
    obtain ⟨σ3, m1, m2, m3⟩ := e_needSign (b := 59) k1.1 (by decide)
    unfold F_TR_readClause_47
    rw [m1, zt_bdS]
    exact ⟨σ3, rfl, k1.ft m3 m2, k2.tr m3.c⟩
  obtain ⟨σ1, g1, g2, g3⟩ := e_takeWord (k := 8) (by decide) h.1
  have h1 := h.ft g3 g2
  unfold pWd at h1
  unfold F_TR_readClause clZ
  rw [g1, zt_bdS]
  by_cases a : pWb B N (q_big + 1 + 8) z.2 = true
  · rw [if_pos a] at h1
    rw [if_pos a, zt_ckI (by decide), if_neg (by decide), if_pos a]
    obtain ⟨σ2, k1, k2, k3⟩ := ec_hand h1 hr
    rw [k1, zt_bdS]
    exact t47 σ2 _ k2 (g3.c.tr k3)
  · rw [if_neg a] at h1
    rw [if_neg a, zt_ckI (by decide), if_pos rfl, if_neg a]
    obtain ⟨σ2, k1, k2, k3⟩ := e_takeWord (k := 9) (by decide) h1.1
    have h2 := h1.ft k3 k2
    unfold pWd at h2
    rw [k1, zt_bdS]
    by_cases b : pWb B N (q_big + 1 + 9) z.2 = true
    · dsimp only at h2 ⊢
      rw [if_pos b] at h2
      rw [if_pos b, zt_ckI (by decide), if_neg (by decide), if_pos b]
      obtain ⟨σ3, m1, m2, m3⟩ := ec_tell h2 hr
      rw [m1, zt_bdS]
      exact t47 σ3 _ m2 ((g3.c.tr k3.c).tr m3)
    · dsimp only at h2 ⊢
      rw [if_neg b] at h2
      rw [if_neg b, zt_ckI (by decide), if_pos rfl, if_neg b]
      obtain ⟨σ3, m1, m2, m3⟩ := e_fail (k := 1) h2.1 (by decide)
      rw [m1, zt_bdS]
      exact t47 σ3 _ (h2.ft m3 m2) ((g3.c.tr k3.c).tr m3.c)
theorem ec_read_29 {N : Int} (hN : 0 ≤ N ∧ N ≤ 500) : ∀ (m f : Nat) (k : Int) (σ : zt_S) (z : ZS), k + m = N → m < f → 0 ≤ k → CZ B N σ z → RH z.1 → ∃ σ', F_TR_read_29 f N k σ = F_TR_read_65 σ' ∧ CZ B N σ' (caZ B N m z) ∧ FC σ σ'
  | m, 0, _, _, _, _, h1, _, _, _ => absurd h1 (Nat.not_lt_zero m)
  | 0, f + 1, k, σ, z, h0, h1, h2, h, hr => by
    refine ⟨σ, ?_, h, FC.rf⟩
    rw [F_TR_read_29, zt_ckI ⟨by unfold zt_in; omega, by unfold zt_in; omega⟩, if_neg (by omega)]
  | m + 1, f + 1, k, σ, z, h0, h1, h2, h, hr => by
    rw [F_TR_read_29, zt_ckI ⟨by unfold zt_in; omega, by unfold zt_in; omega⟩, if_pos (by omega), e_hasFailed h.1, zt_bdS, caZ]
    by_cases x : z.2.1 = 0
    · rw [if_pos x, zt_ckI (by decide), if_pos rfl, e_isAtEnd h.1, zt_bdS]
      by_cases y : tK B N z.2.2.2 = 0
      · rw [if_pos y, zt_ckI (by decide), if_neg (by decide), if_neg (fun q => q.2 y)]
        exact ⟨σ, rfl, h, FC.rf⟩
      · rw [if_neg y, zt_ckI (by decide), if_pos rfl, if_pos ⟨x, y⟩]
        obtain ⟨σ1, g1, g2, g3⟩ := ec_clause h hr
        rw [g1, zt_bdS]
        obtain ⟨σ2, k1, k2, k3⟩ := ec_read_29 hN m f (k + 1) σ1 (clZ B N z) (by omega) (by omega) (by omega) g2 (clZ_R hr).1
        exact ⟨σ2, k1, k2, g3.tr k3⟩
    · rw [if_neg x, zt_ckI (by decide), if_neg (by decide), if_neg (fun q => x q.1)]
      exact ⟨σ, rfl, h, FC.rf⟩
/-! the reference -/
theorem RH.hr (hq : τ.1 165 = r) (h : RH r) : ∀ c, 0 ≤ c → c < 52 → -1 ≤ τ.1 165 (40 + c) ∧ τ.1 165 (40 + c) < 100 := fun c h0 h1 => by
  have := h.2.1 c h0 h1
  have := h.1.2.1
  rw [hq]
  omega
theorem em_card {K : Int → zt_S → Option (Unit × zt_S)} (h : MZ B N τ z) (hr : RH z.1) (hp : 0 ≤ p ∧ p < z.1 1) (f : Nat) (hK : K = F_M_readsHand_14 f) : ∃ τ', MZ B N τ' (cdZ B N p z) ∧ FM3 τ τ' ∧ F_M_readsHand_14 (f + 1) p τ = (if (cdZ B N p z).2.1 = 0 ∧ tK B N (cdZ B N p z).2.2.2 = 3 then F_M_readsHand_14 f p τ' else some ((), τ')) := by
  have a := hr.1.1
  have a1 := hr.1.2.1
  have a2 := hr.1.2.2.1
  have hw := hr.2.2.2 p hp.1 hp.2
  have km := kM_v (B := B) h.1.2.1
  obtain ⟨t1, t2, t3, t4, t5⟩ := h.1.2.2.1
  rw [F_M_readsHand_14, em_isGood h.1, zt_bdS]
  by_cases x : z.2.1 = 0
  · rw [if_pos x, zt_ckI (by decide), if_neg (by decide), t3, zt_ckI km.2.2.2.2]
    -- behind a fault
    have bad : ∀ k, (k = 1 ∨ k = 2 ∨ k = 3) → cdS B N p z = pF B N k z.2 → ∃ τ', MZ B N τ' (cdZ B N p z) ∧ FM3 τ τ' ∧ (zt_bd (F_M_wrongs k τ) fun _ s8 => F_M_readsHand_111 (F_M_readsHand_14 f) p s8) = (if (cdZ B N p z).2.1 = 0 ∧ tK B N (cdZ B N p z).2.2.2 = 3 then F_M_readsHand_14 f p τ' else some ((), τ')) := by
      intro k hk e
      obtain ⟨τ2, k1, k2, k3⟩ := em_wrongs (k := k) h.1 (by omega)
      have ne : ¬ (pF B N k z.2).1 = 0 := pF_ne (by omega)
      have ez : cdZ B N p z = (z.1, pF B N k z.2) := by
        unfold cdZ
        rw [e, if_neg ne]
      rw [ez, k1, zt_bdS]
      refine ⟨τ2, h.ft k3 k2, k3.m, ?_⟩
      rw [if_neg (fun q => ne q.1)]
      unfold F_M_readsHand_111
      rw [em_isGood k2, zt_bdS, if_neg ne, zt_ckI (by decide), if_pos rfl]
    by_cases h3 : tK B N z.2.2.2 = 3
    · have tv := tN_tV (B := B) h.1.2.1 h3
      rw [if_pos (km.2.2.1.mpr h3), t4 h3, show τ.1 165 0 = z.1 0 by rw [h.2], show (0 : Int64) = zt_l 0 from rfl, em_in (by unfold zt_in; omega) (by decide) (by unfold zt_in; omega), zt_bdS]
      have ep : pPs B N 0 (4 * z.1 0 - 1) z.2 = if tN B N z.2.2.2 < 0 ∨ 4 * z.1 0 - 1 < tN B N z.2.2.2 then pF B N 2 z.2 else z.2 := if_pos h3
      by_cases hin : 0 ≤ tV B N z.2.2.2 ∧ tV B N z.2.2.2 ≤ 4 * z.1 0 - 1
      · have ev : tV B N z.2.2.2 = tN B N z.2.2.2 := by omega
        rw [if_neg (by omega)] at ep
        have d := hr.2.1 (tN B N z.2.2.2) (by omega) (by omega)
        rw [if_pos hin, zt_ckI (by decide), if_neg (by decide), t4 h3, ev, zt_ckI (by omega), show τ.1 165 (40 + tN B N z.2.2.2) = z.1 (40 + tN B N z.2.2.2) by rw [h.2], zt_ckI (by unfold zt_in; omega)]
        by_cases f1 : z.1 (40 + tN B N z.2.2.2) = -1
        · have hc := em_heldBy (σ := τ) (c1 := 165) (p := p) (by omega) (hr.hr h.2)
          rw [h.2] at hc
          have hcl := cn_le (fun c => decide (wHd z.1 c = p)) 52 0
          rw [if_pos f1, hc, zt_bdS, show τ.1 165 2 = z.1 2 by rw [h.2], zt_ckI ⟨by unfold zt_in wHc; omega, by unfold zt_in; omega⟩]
          by_cases f2 : wHc z.1 p = z.1 2
          · rw [if_pos f2]
            unfold F_M_readsHand_105
            exact bad 3 (by omega) (by unfold cdS; rw [ep, if_pos ⟨x, Or.inr f2⟩])
          · have es : cdS B N p z = z.2 := by
              unfold cdS
              rw [ep, if_neg (fun q => by omega)]
            have ez : cdZ B N p z = (ru z.1 (40 + tN B N z.2.2.2) p, pX B N z.2) := by
              unfold cdZ
              rw [es, if_pos x]
            rw [if_neg f2, ez]
            obtain ⟨τ2, k1, k2, k3⟩ := em_nx (τ := zt_up τ 165 (40 + tN B N z.2.2.2) p) h.1.up
            unfold F_M_readsHand_111
            rw [em_isGood h.1, zt_bdS, if_pos x, zt_ckI (by decide), if_neg (by decide), t4 h3, ev, zt_ckI (by omega), zt_letS, k1, zt_bdS]
            have km2 := kM_v (B := B) k2.2.1
            rw [k2.2.2.1.2.2.1, zt_ckI km2.2.2.2.2]
            refine ⟨τ2, ⟨k2, k3.row (row5_up h.2)⟩, FM3.up.tr k3.m, ?_⟩
            by_cases y : tK B N (pX B N z.2).2.2 = 3
            · rw [if_pos (km2.2.2.1.mpr y), if_pos ⟨x, y⟩]
            · rw [if_neg (fun q => y (km2.2.2.1.mp q)), if_neg (fun q => y q.2)]
        · rw [if_neg f1]
          unfold F_M_readsHand_105
          exact bad 3 (by omega) (by unfold cdS; rw [ep, if_pos ⟨x, Or.inl f1⟩])
      · rw [if_neg hin, zt_ckI (by decide), if_pos rfl]
        rw [if_pos (by omega)] at ep
        exact bad 2 (by omega) (by unfold cdS; rw [ep, if_neg (fun q => absurd q.1 (pF_ne (by decide)))])
    · have ep : pPs B N 0 (4 * z.1 0 - 1) z.2 = pF B N 1 z.2 := if_neg h3
      rw [if_neg (fun q => h3 (km.2.2.1.mp q))]
      exact bad 1 (by omega) (by unfold cdS; rw [ep, if_neg (fun q => absurd q.1 (pF_ne (by decide)))])
  · have es : cdS B N p z = z.2 := by
      unfold cdS
      rw [pPs_f x, if_neg (fun q => x q.1)]
    have ez : cdZ B N p z = (z.1, z.2) := by
      unfold cdZ
      rw [es, if_neg x]
    rw [if_neg x, zt_ckI (by decide), if_pos rfl, ez]
    refine ⟨τ, h, FM3.rf, ?_⟩
    rw [if_neg (fun q => x q.1)]
theorem cd_pos (h0 : 0 ≤ z.2.2.2) (h1 : z.2.2.2 ≤ N) (g : (cdZ B N p z).2.1 = 0) : z.2.2.2 < (cdZ B N p z).2.2.2 ∧ (cdZ B N p z).2.2.2 ≤ N := by
  unfold cdZ at g ⊢
  by_cases x : (cdS B N p z).1 = 0
  · have q := cdS_0 x
    rw [if_pos x, q.2.1]
    exact ⟨up_X1 h0 h1 (by omega), (up_X h0 h1).2⟩
  · rw [if_neg x] at g
    exact absurd g x
theorem em_hand_14 : ∀ (m f : Nat) (τ : zt_S) (z : ZS), (z.2.1 = 0 → N - z.2.2.2 ≤ m) → m < f → MZ B N τ z → RH z.1 → (0 ≤ p ∧ p < z.1 1) → ∃ τ', F_M_readsHand_14 f p τ = some ((), τ') ∧ MZ B N τ' (hnZ B N p m (cdZ B N p z)) ∧ FM3 τ τ'
  | m, 0, _, _, _, h1, _, _, _ => absurd h1 (Nat.not_lt_zero m)
  | m, f + 1, τ, z, h0, h1, h, hr, hp => by
    have hN := h.1.2.1
    obtain ⟨τ1, g1, g2, g3⟩ := em_card h hr hp f rfl
    rw [g3]
    by_cases x : (cdZ B N p z).2.1 = 0 ∧ tK B N (cdZ B N p z).2.2.2 = 3
    · have gs : z.2.1 = 0 := by
        have q := x.1
        unfold cdZ at q
        by_cases y : (cdS B N p z).1 = 0
        · exact (cdS_0 y).1
        · rw [if_neg y] at q
          exact absurd q y
      have up := cd_pos hN.1 hN.2 x.1
      have m0 := h0 gs
      rw [if_pos x]
      cases m with
      | zero => omega
      | succ m =>
        obtain ⟨τ2, k1, k2, k3⟩ := em_hand_14 m f τ1 (cdZ B N p z) (fun _ => by omega) (by omega) g1 (cdZ_R hr hp) (by rw [cdZ_o (by decide)]; exact hp)
        refine ⟨τ2, k1, ?_, g2.tr k3⟩
        rw [hnZ, if_pos x]
        exact k2
    · rw [if_neg x]
      refine ⟨τ1, rfl, ?_, g2⟩
      cases m with
      | zero => exact g1
      | succ m =>
        rw [hnZ, if_neg x]
        exact g1
theorem em_hand (h : MZ B N τ z) (hr : RH z.1) : ∃ τ', F_M_readsHand τ = some ((), τ') ∧ MZ B N τ' (haZ B N z) ∧ FM3 τ τ' := by
  have a1 := hr.1.2.1
  have hN := h.1.1.1
  obtain ⟨τ1, g1, g2, g3⟩ := em_number (lo := 0) (hi := z.1 1 - 1) h.1 (by decide) (by omega)
  have pv := pPv_in (B := B) (N := N) (s := z.2) (show (0 : Int) ≤ z.1 1 - 1 by omega)
  have hp : 0 ≤ pPv B N 0 (z.1 1 - 1) z.2 ∧ pPv B N 0 (z.1 1 - 1) z.2 < z.1 1 := by omega
  have g4 := g2.2.1
  obtain ⟨τ2, k1, k2, k3⟩ := em_hand_14 (p := pPv B N 0 (z.1 1 - 1) z.2) N.toNat zt_N τ1 (z.1, pNu B N 0 (z.1 1 - 1) z.2) (fun _ => by show N - (pNu B N 0 (z.1 1 - 1) z.2).2.2 ≤ _; omega) (zN (by omega)) (h.ft g3 g2) hr hp
  refine ⟨τ2, ?_, k2, g3.m.tr k3⟩
  unfold F_M_readsHand
  rw [show τ.1 165 1 = z.1 1 by rw [h.2], g1, zt_bdS]
  exact k1
theorem em_tell (h : MZ B N τ z) (hr : RH z.1) : ∃ τ', F_M_readsTell τ = some ((), τ') ∧ MZ B N τ' (teZ B N z) ∧ FM3 τ τ' := by
  have a1 := hr.1.2.1
  have a2 := hr.1.2.2.1
  have km := kM_v (B := B) h.1.2.1
  obtain ⟨t1, t2, t3, t4, t5⟩ := h.1.2.2.1
  unfold F_M_readsTell
  rw [em_isGood h.1, zt_bdS]
  by_cases x : z.2.1 = 0
  · rw [if_pos x, zt_ckI (by decide), if_neg (by decide), t3, zt_ckI km.2.2.2.2]
    have bad : ∀ k, (k = 1 ∨ k = 2 ∨ k = 3) → teS B N z = pF B N k z.2 → ∃ τ', (zt_bd (F_M_wrongs k τ) fun _ s8 => F_M_readsTell_77 s8) = some ((), τ') ∧ MZ B N τ' (teZ B N z) ∧ FM3 τ τ' := by
      intro k hk e
      obtain ⟨τ2, k1, k2, k3⟩ := em_wrongs (k := k) h.1 (by omega)
      have ne : ¬ (pF B N k z.2).1 = 0 := pF_ne (by omega)
      have ez : teZ B N z = (z.1, pF B N k z.2) := by
        unfold teZ
        rw [e, if_neg ne]
      rw [ez, k1, zt_bdS]
      unfold F_M_readsTell_77
      rw [em_isGood k2, zt_bdS, if_neg ne, zt_ckI (by decide), if_pos rfl]
      exact ⟨τ2, rfl, h.ft k3 k2, k3.m⟩
    by_cases h3 : tK B N z.2.2.2 = 3
    · have tv := tN_tV (B := B) h.1.2.1 h3
      rw [if_pos (km.2.2.1.mpr h3), t4 h3, show τ.1 165 1 = z.1 1 by rw [h.2], show (0 : Int64) = zt_l 0 from rfl, em_in (by unfold zt_in; omega) (by decide) (by unfold zt_in; omega), zt_bdS]
      have ep : pPs B N 0 (z.1 1 - 1) z.2 = if tN B N z.2.2.2 < 0 ∨ z.1 1 - 1 < tN B N z.2.2.2 then pF B N 2 z.2 else z.2 := if_pos h3
      by_cases hin : 0 ≤ tV B N z.2.2.2 ∧ tV B N z.2.2.2 ≤ z.1 1 - 1
      · have ev : tV B N z.2.2.2 = tN B N z.2.2.2 := by omega
        rw [if_neg (by omega)] at ep
        have d := hr.2.2.1 (tN B N z.2.2.2) (by omega) (by omega)
        rw [if_pos hin, zt_ckI (by decide), if_neg (by decide), t4 h3, ev, zt_ckI (by omega), show τ.1 165 (16 + tN B N z.2.2.2) = z.1 (16 + tN B N z.2.2.2) by rw [h.2], zt_ckI (by unfold zt_in; omega)]
        by_cases f1 : z.1 (16 + tN B N z.2.2.2) = -1
        · have es : teS B N z = z.2 := by
            unfold teS
            rw [ep, if_neg (fun q => q.2 f1)]
          rw [if_pos f1]
          obtain ⟨τ2, k1, k2, k3⟩ := em_nx h.1
          obtain ⟨τ3, m1, m2, m3⟩ := em_number (lo := 0) (hi := z.1 2) k2 (by decide) (by omega)
          have r3 := m3.row (k3.row h.2)
          unfold F_M_readsTell_77 teZ
          rw [em_isGood h.1, zt_bdS, if_pos x, zt_ckI (by decide), if_neg (by decide), k1, zt_bdS, show τ2.1 165 2 = z.1 2 by rw [k3.row h.2], m1, zt_bdS, em_isGood m2, zt_bdS, es, if_pos x]
          by_cases y : (pNu B N 0 (z.1 2) (pX B N z.2)).1 = 0
          · rw [if_pos y, zt_ckI (by decide), if_neg (by decide), if_pos y, t4 h3, ev, zt_ckI (by omega), zt_letS]
            exact ⟨_, rfl, ⟨m2.up, row5_up r3⟩, (k3.m.tr m3.m).tr FM3.up⟩
          · rw [if_neg y, zt_ckI (by decide), if_pos rfl, if_neg y]
            exact ⟨τ3, rfl, ⟨m2, r3⟩, k3.m.tr m3.m⟩
        · rw [if_neg f1]
          exact bad 3 (by omega) (by unfold teS; rw [ep, if_pos ⟨x, f1⟩])
      · rw [if_neg hin, zt_ckI (by decide), if_pos rfl]
        rw [if_pos (by omega)] at ep
        exact bad 2 (by omega) (by unfold teS; rw [ep, if_neg (fun q => absurd q.1 (pF_ne (by decide)))])
    · have ep : pPs B N 0 (z.1 1 - 1) z.2 = pF B N 1 z.2 := if_neg h3
      rw [if_neg (fun q => h3 (km.2.2.1.mp q))]
      exact bad 1 (by omega) (by unfold teS; rw [ep, if_neg (fun q => absurd q.1 (pF_ne (by decide)))])
  · have es : teS B N z = z.2 := by
      unfold teS
      rw [pPs_f x, if_neg (fun q => x q.1)]
    have ez : teZ B N z = (z.1, z.2) := by
      unfold teZ
      rw [es, if_neg x]
    rw [if_neg x, zt_ckI (by decide), if_pos rfl, ez]
    exact ⟨τ, rfl, h, FM3.rf⟩
theorem em_all_6 : ∀ (m f : Nat) (k : Int) (τ : zt_S) (z : ZS), (z.2.1 = 0 → N - z.2.2.2 ≤ m) → m < f → MZ B N τ z → RH z.1 → ∃ τ', F_M_readsAll_6 f k τ = F_M_readsAll_71 (kaZ B N m k z) τ' ∧ MZ B N τ' (caZ B N m z) ∧ FM3 τ τ'
  | m, 0, _, _, _, _, h1, _, _ => absurd h1 (Nat.not_lt_zero m)
  | m, f + 1, k, τ, z, h0, h1, h, hr => by
    have hN := h.1.2.1
    have km := kM_v (B := B) h.1.2.1
    have ts := tS_lt (B := B) h.1.2.1
    rw [F_M_readsAll_6, em_isGood h.1, zt_bdS]
    by_cases x : z.2.1 = 0
    · rw [if_pos x, zt_ckI (by decide), if_neg (by decide), h.1.2.2.1.2.2.1, zt_ckI km.2.2.2.2]
      by_cases y : tK B N z.2.2.2 = 0
      · rw [if_pos (km.1.mpr y)]
        refine ⟨τ, ?_, ?_, FM3.rf⟩
        · cases m with
          | zero => rfl
          | succ m => rw [kaZ, if_neg (fun q => q.2 y)]
        · cases m with
          | zero => exact h
          | succ m => rw [caZ, if_neg (fun q => q.2 y)]; exact h
      · rw [if_neg (fun q => y (km.1.mp q))]
        have m0 := h0 x
        cases m with
        | zero =>
          have : tS B N z.2.2.2 = N := by omega
          exact absurd (ts.2.2.2.mpr this) y
        | succ m =>
          have xy : z.2.1 = 0 ∧ ¬ tK B N z.2.2.2 = 0 := ⟨x, y⟩
          rw [kaZ, caZ, if_pos xy, if_pos xy]
          -- behind the clause
          have t62 : ∀ (k' : Int) (τ2 : zt_S) (z2 : ZS), MZ B N τ2 z2 → FM3 τ τ2 → clZ B N z = (z2.1, pNS B N 59 z2.2) → ∃ τ', F_M_readsAll_62 (F_M_readsAll_6 f) k' τ2 = F_M_readsAll_71 (kaZ B N m k' (clZ B N z)) τ' ∧ MZ B N τ' (caZ B N m (clZ B N z)) ∧ FM3 τ τ' := by
            intro k' τ2 z2 k1 k2 k3
            obtain ⟨τ3, n1, n2, n3⟩ := em_must (b := 59) k1.1 (by decide)
            unfold F_M_readsAll_62
            rw [n1, zt_bdS]
            have k4 : MZ B N τ3 (clZ B N z) := by rw [k3]; exact k1.ft n3 n2
            obtain ⟨τ4, q1, q2, q3⟩ := em_all_6 m f k' τ3 (clZ B N z) (fun g => by have := up_cl hN.1 hN.2 g; omega) (by omega) k4 (clZ_R hr).1
            exact ⟨τ4, q1, q2, (k2.tr n3.m).tr q3⟩
          obtain ⟨τ1, g1, g2, g3⟩ := em_passes (k := 8) (by decide) hW_8.symm h.1
          have h1' := h.ft g3 g2
          unfold pWd at h1'
          rw [g1, zt_bdS]
          by_cases a : pWb B N (q_big + 1 + 8) z.2 = true
          · rw [if_pos a] at h1'
            rw [if_pos a, zt_ckI (by decide), if_neg (by decide), if_pos a]
            obtain ⟨τ2, k1, k2, k3⟩ := em_hand h1' hr
            rw [k1, zt_bdS]
            exact t62 1 τ2 _ k2 (g3.m.tr k3) (if_pos a)
          · rw [if_neg a] at h1'
            rw [if_neg a, zt_ckI (by decide), if_pos rfl, if_neg a]
            obtain ⟨τ2, k1, k2, k3⟩ := em_passes (k := 9) (by decide) hW_9.symm h1'.1
            have h2' := h1'.ft k3 k2
            unfold pWd at h2'
            rw [k1, zt_bdS]
            dsimp only at h2' ⊢
            by_cases b : pWb B N (q_big + 1 + 9) z.2 = true
            · rw [if_pos b] at h2'
              rw [if_pos b, zt_ckI (by decide), if_neg (by decide)]
              obtain ⟨τ3, n1, n2, n3⟩ := em_tell h2' hr
              rw [n1, zt_bdS]
              exact t62 k τ3 _ n2 ((g3.m.tr k3.m).tr n3) (by unfold clZ; rw [if_neg a, if_pos b])
            · rw [if_neg b] at h2'
              rw [if_neg b, zt_ckI (by decide), if_pos rfl]
              obtain ⟨τ3, n1, n2, n3⟩ := em_wrongs (k := 1) h2'.1 (by decide)
              rw [n1, zt_bdS]
              exact t62 k τ3 (z.1, pF B N 1 z.2) (h2'.ft n3 n2) ((g3.m.tr k3.m).tr n3.m) (by unfold clZ; rw [if_neg a, if_neg b])
    · rw [if_neg x, zt_ckI (by decide), if_pos rfl]
      refine ⟨τ, ?_, ?_, FM3.rf⟩
      · cases m with
        | zero => rfl
        | succ m => rw [kaZ, if_neg (fun q => x q.1)]
      · cases m with
        | zero => exact h
        | succ m => rw [caZ, if_neg (fun q => x q.1)]; exact h
end LB
