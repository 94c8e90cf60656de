/-! THE SIMULATION, for every number of steps -/
theorem st_by : ∀ z ∈ q_sc, z.2.2.2.length < 2147483648 ∧ ∀ b ∈ z.2.2.2, b &&& 255 = b := by decide +kernel
theorem st_at {j : Nat} (hj : j < q_sc.length) : q_sc.getD j default ∈ q_sc := by
  rw [List.getD_eq_getElem?_getD, List.getElem?_eq_getElem hj]
  exact List.getElem_mem hj
theorem st_gm {L : List Int32} {i : Nat} (h : i < L.length) : L.getD i 0 ∈ L := by
  rw [List.getD_eq_getElem?_getD, List.getElem?_eq_getElem h]
  exact List.getElem_mem h
theorem q_mn_900 : q_mn 900 = st_len := rfl
theorem q_mn_901 : q_mn 901 = st_chr := rfl
set_option maxHeartbeats 1000000 in
theorem q_sim_all {l : Launch} {D : va_G} {tc : Nat → ClassId} {A : Nat → Prop} {X : q_X} : ∀ f : Nat, q_Sim l D tc A X f
  | 0 => by
    intro d y pc lv st Mw r Me h
    rw [q_ex] at h
    cases h
  | f + 1 => by
    refine q_step (q_sim_all f) ?_
    intro d y pc a b idx p e R s m args below meth c Q ad H locs ls cells slots hF hC hRf hRl hc hs hsz hS hdg hk j r hj hr
    obtain ⟨hx, hb, hml, hts, hown, -, -, -⟩ := hF
    obtain ⟨-, -, -, -, -, hSx⟩ := hC
    obtain ⟨av, h1, h2, h3, h4⟩ := hSx.1 j hj
    obtain ⟨b1, b2⟩ := st_by _ (st_at hj)
    have hTT : st_T A (ad (q_big + 1 + j)) (q_sc.getD j default).2.2.2.length (fun k => (q_sc.getD j default).2.2.2.getD k 0) s s.heap := ⟨av, h1, h2, h3, h4⟩
    have hG : st_G A s s.heap := hSx.2
    refine ⟨fun ha kk => ?_, fun k hk9 ha kk => ?_⟩
    · subst ha
      rw [q_mn_900] at hk
      exact st_V (As := []) (rest := r) (Wd := 16) (st_mlen (A := A) (g := fun k => (q_sc.getD j default).2.2.2.getD k 0)) hx hb hown hts hsz hk (st_w _ (by simp)) (st_w _ (by simp)) (st_w _ (by simp [st_len])) (st_wc _ (by simp)) (by decide) st_llen ⟨by omega, by omega⟩ st_bT (va_Orecv h1 hS) (fun U hU hW => ⟨rfl, hTT.to hS hU hW, hG.to hS hU hW⟩) hr hdg ⟨hc, hs⟩ rfl kk
    · subst ha
      rw [q_mn_901] at hk
      have hin : vp_in k (q_sc.getD j default).2.2.2.length := hk9
      have hlt : k.toNatClampNeg < (q_sc.getD j default).2.2.2.length := Nat.not_le.mp (fun z => hk9 (Or.inr z))
      have hmem : (q_sc.getD j default).2.2.2.getD k.toNatClampNeg 0 ∈ (q_sc.getD j default).2.2.2 := by
        exact st_gm hlt
      have hbb := b2 _ hmem
      have hg : ((((q_sc.getD j default).2.2.2.getD k.toNatClampNeg 0) &&& 255).toUInt32 % 65536).toInt32 = (q_sc.getD j default).2.2.2.getD k.toNatClampNeg 0 ∧ narrow .char (.int ((q_sc.getD j default).2.2.2.getD k.toNatClampNeg 0)) = .int ((q_sc.getD j default).2.2.2.getD k.toNatClampNeg 0) := by
        refine ⟨(sc_c2 _).trans hbb, ?_⟩
        have := sc_nar ((q_sc.getD j default).2.2.2.getD k.toNatClampNeg 0)
        rw [hbb] at this
        exact this
      exact st_V (As := [.int k]) (rest := r) (Wd := 16) (st_mchr (A := A) (g := fun k => (q_sc.getD j default).2.2.2.getD k 0) hin b1 hg) hx hb hown hts hsz hk (st_w _ (by simp)) (st_w _ (by simp)) (st_w _ (by simp [st_chr])) (st_wc _ (by simp)) (by decide) st_lchr ⟨by omega, by omega⟩ st_bT (va_Orecv h1 hS) (fun U hU hW => ⟨rfl, hTT.to hS hU hW, hG.to hS hU hW⟩) hr hdg ⟨hc, hs⟩ rfl kk
