/-! SURE: a card played in the search -/
/-- what a card brings the searcher at once -/
def gn (q : Int) (w : Int → Int) (c : Int) : Int := if wPl w + 1 = w 1 ∧ rPlays w c 9 = q then 1 else 0
section SU
variable {σ τ : zt_S} {w : Int → Int} {c q : Int}
/-- a full trick ends -/
theorem TK_end {k : Nat} {u : Int → Int} (hks : k ≠ 3) (hs : SUw σ 3 u) (hu : QI u) (h : TK σ k u) (hp : wPl u = u 1) (h13 : 0 ≤ u 13 ∧ u 13 ≤ 12) (h12 : 0 ≤ u 12 ∧ u 12 ≤ 52) : ∃ σ', F_Tr_finish k 3 (u 6) (u 7) σ = some ((), σ') ∧ FK k σ σ' ∧ TK σ' k (rEnd u) ∧ rEnd u 9 = σ.1 k 6 := by
  have a := hu.n
  have bp := (wBp_ltq hu).2.2.1 (by omega)
  have cb := hu.cd bp.1 bp.2
  have z : ¬ wPl u = 0 := by omega
  obtain ⟨⟨k0, k1, k2, k3⟩, ⟨k4, k5, k6⟩, k7, k8⟩ := id h
  rw [if_neg z] at k4 k5 k6
  have wl := Int.emod_nonneg (u 9 + wBp u) (show u 1 ≠ 0 by omega)
  have wu := Int.emod_lt_of_pos (u 9 + wBp u) (show 0 < u 1 by omega)
  obtain ⟨ρ, f1, f2, f3, f4, f5, f6, f7, f8, f9, f10, f11⟩ := ec_finish (σ := σ) (k := k) (s := 3) (w := u) (x := wCd u (wBp u)) hks hs hu k7 k8 k5 ⟨cb.1, cb.2.1⟩
  have ve : ∀ i, i ≠ 9 → i ≠ 13 → i ≠ 10 → i ≠ 11 → (i < 196 + 6 * u 13 ∨ 196 + 6 * u 13 + 5 < i) → rEnd u i = u i := fun i h1 h2 h3 h4 h5 => rEnd_o ⟨h1, h2, h3, h4⟩ h5
  have v9 : rEnd u 9 = (u 9 + wBp u) % u 1 := by unfold rEnd; rw [rFade_o ⟨by omega, by omega⟩, rTrick_9]
  have v13 : rEnd u 13 = u 13 + 1 := by unfold rEnd; rw [rFade_o ⟨by omega, by omega⟩, rTrick_13]
  have tr : ∀ i, i ≠ 9 → i ≠ 13 → i < 196 → rTrick u i = u i := fun i h1 h2 h3 => rTrick_o ⟨h1, h2⟩ (by omega)
  have fa := rFade_ag (w := u) (w' := rTrick u) (s := wS u (wCd u (wBp u))) (tr 5 (by omega) (by omega) (by omega)) (tr 6 (by omega) (by omega) (by omega)) (tr 7 (by omega) (by omega) (by omega)) (tr 10 (by omega) (by omega) (by omega)) (tr 11 (by omega) (by omega) (by omega))
  have v1 : rEnd u 1 = u 1 := ve 1 (by omega) (by omega) (by omega) (by omega) (by omega)
  have v12 : rEnd u 12 = u 12 := ve 12 (by omega) (by omega) (by omega) (by omega) (by omega)
  have vpl : wPl (rEnd u) = 0 := by
    unfold wPl at hp ⊢
    rw [v12, v13, v1, Int.add_mul, Int.one_mul]
    omega
  refine ⟨ρ, f1, f2, ⟨⟨?_, ?_, ?_, ?_⟩, ⟨?_, ?_, ?_⟩, ?_, ?_⟩, by rw [k6, v9]⟩
  · rw [f3, k6, v9]
  · rw [f4, k6, vpl, v9, v1, Int.add_zero, Int.emod_eq_of_lt wl wu]
  · rw [f5, vpl]
  · rw [f6]; unfold wLd; rw [if_pos vpl]
  · rw [f7, if_pos vpl]
  · rw [f8, if_pos vpl]
  · rw [f9, if_pos vpl]
  · rw [f10, ← fa.1]; rfl
  · rw [f11, ← fa.2]; rfl
theorem tri_in : ∀ d : Nat, d < 13 → 148 + d ∈ zt_tris := by decide
theorem e_trickAt {d : Int} (h : 0 ≤ d ∧ d < 13) : F_SS_trickAt d σ = some (148 + d.toNat, σ) := by
  unfold F_SS_trickAt
  rw [zt_ckI (by unfold zt_in; omega), if_neg (by omega), zt_ckI (by unfold zt_in; omega), if_pos (by omega), zt_ckI (by omega)]
theorem TK.cp {k k' : Nat} (h : TK σ k w) (e : ∀ j, 0 ≤ j → j < 9 → τ.1 k' j = σ.1 k j) : TK τ k' w := by
  unfold TK at h ⊢
  rw [e 0 (by omega) (by omega), e 1 (by omega) (by omega), e 2 (by omega) (by omega), e 3 (by omega) (by omega), e 4 (by omega) (by omega), e 5 (by omega) (by omega), e 6 (by omega) (by omega), e 7 (by omega) (by omega), e 8 (by omega) (by omega)]
  exact h
/-- the class plays a card in its search -/
theorem e_tricksWith {ww : Int → Int64 → zt_S → Option (Int × zt_S)} {d : Int} {L : Int64} (hd : 0 ≤ d ∧ d < 12) (hk : TK σ (148 + d.toNat) w) (hs : SUw σ 3 w) (hw : RI w) (ho : wOv w = false) (hc : 0 ≤ c ∧ c < 4 * w 0) (hp : wHd w c = wTn w) (h6 : σ.1 6 12 = w 6) (h7 : σ.1 6 13 = w 7) (hq : σ.1 144 7 = q) (hqi : zt_in q) : ∃ σ', FK (148 + (d + 1).toNat) σ σ' ∧ TK σ' (148 + (d + 1).toNat) (rPlays w c) ∧ F_SS_tricksWith (148 + d.toNat) ww d L c σ = (zt_bd (ww (d + 1) (L &&& (zt_ls 1 c ^^^ -1)) σ') fun a s => some (gn q w c + a, s)) := by
  have a := hw.n
  have b := hw.wpl
  have pl := hw.pl
  have o := wOv_lt hw ho
  have ag := rLack_ag (c := c) hw ho
  have ri := rLack_i (c := c) hw ho
  have ho' : wOv (rLack w c) = false := by unfold wOv at ho ⊢; rw [ag 12 (by omega), ag 1 (by omega), ag 2 (by omega)]; exact ho
  have hc' : 0 ≤ c ∧ c < 4 * rLack w c 0 := by rw [ag 0 (by omega)]; exact hc
  have nx : Nx w (rCard (rLack w c) c (wTn w)) c := (rCard_nx (p := wTn w) ri ho' hc').ag ag hw.q
  have r12 : rLack w c 12 = w 12 := ag 12 (by omega)
  have ue : ∀ i, i < 24 → i ≠ 12 → rCard (rLack w c) c (wTn w) i = w i := fun i h1 h4 => by rw [rCard_o ⟨by omega, by rw [r12]; omega, by rw [r12]; omega, h4⟩, ag i (by omega)]
  have u12 : rCard (rLack w c) c (wTn w) 12 = w 12 + 1 := by unfold rCard; rw [ru_s, r12]
  have k1 : 148 + (d + 1).toNat ∈ zt_tris := tri_in _ (by omega)
  obtain ⟨σ1, c1, c2, c3, c4⟩ := e_TrCopy (σ := σ) (k0 := 148 + (d + 1).toNat) (k1 := 148 + d.toNat) (by omega)
  have tk1 : TK σ1 (148 + (d + 1).toNat) w := hk.cp c4
  have s1 : SUw σ1 3 w := by
    unfold SUw at hs ⊢
    rw [c3 _ _ (by omega), c3 _ _ (by omega), c3 _ _ (by omega), c3 _ _ (by omega)]
    exact hs
  obtain ⟨σ2, p1, p2, p3, p4⟩ := ec_placed_up tk1 s1 hw hc (by omega)
  have tk2 := TK_place hw nx b.1 p4
  have fk2 : FK (148 + (d + 1).toNat) σ σ2 := ⟨fun x j hx => by rw [p3 x j hx, c3 x j hx], p2.trans c2⟩
  have e2 : σ2.1 (148 + (d + 1).toNat) 2 = wPl w + 1 := p4.2.2.1
  have e31 : σ2.1 3 1 = w 1 := by rw [fk2.1 _ _ (by omega)]; exact hs.2.1
  have hu1 : rCard (rLack w c) c (wTn w) 1 = w 1 := ue 1 (by omega) (by omega)
  have upl : wPl (rCard (rLack w c) c (wTn w)) = wPl w + 1 := nx.pl
  unfold F_SS_tricksWith F_SS_tricksWith_93
  rw [e_trickAt (by omega), zt_bdS, zt_ckI k1, c1, zt_bdS, p1, zt_bdS, e2, e31, zt_ckI ⟨by unfold zt_in; omega, by unfold zt_in; omega⟩]
  by_cases full : wPl w + 1 = w 1
  · have er : rPlays w c = rEnd (rCard (rLack w c) c (wTn w)) := if_pos full
    have hu : QI (rCard (rLack w c) c (wTn w)) := rCard_q ri ho' hc'
    have s2 : SUw σ2 3 (rCard (rLack w c) c (wTn w)) := by
      unfold SUw at hs ⊢
      rw [ue 0 (by omega) (by omega), ue 1 (by omega) (by omega), ue 2 (by omega) (by omega), ue 5 (by omega) (by omega), fk2.1 _ _ (by omega), fk2.1 _ _ (by omega), fk2.1 _ _ (by omega), fk2.1 _ _ (by omega)]
      exact hs
    obtain ⟨σ3, t1, t2, t3, t4⟩ := TK_end (by omega) s2 hu tk2 (by omega) (by rw [ue 13 (by omega) (by omega)]; omega) (by rw [u12]; omega)
    rw [ue 6 (by omega) (by omega), ue 7 (by omega) (by omega)] at t1
    have e6 : σ2.1 6 12 = w 6 := by rw [fk2.1 _ _ (by omega)]; exact h6
    have e7 : σ2.1 6 13 = w 7 := by rw [fk2.1 _ _ (by omega)]; exact h7
    have eq : σ2.1 144 7 = q := by rw [fk2.1 _ _ (by omega)]; exact hq
    have w9 : 0 ≤ rPlays w c 9 ∧ rPlays w c 9 < 4 := by
      have := (RI_plays hw ho hc hp).n
      have e1 : rPlays w c 1 = w 1 := by
        rw [er, rEnd_o ⟨by omega, by omega, by omega, by omega⟩ (Or.inl (by rw [ue 13 (by omega) (by omega)]; omega)), hu1]
      omega
    have e66 : σ2.1 (148 + (d + 1).toNat) 6 = rPlays w c 9 := by rw [er, t4]
    refine ⟨σ3, ⟨fun x j hx => by rw [t2.1 x j hx, fk2.1 x j hx], by rw [t2.2, fk2.2]⟩, by rw [er]; exact t3, ?_⟩
    unfold F_SS_tricksWith_68 F_SS_tricksWith_93 F_Rw_without gn
    rw [if_neg (by omega), e66, eq, zt_ckI ⟨by unfold zt_in; omega, hqi⟩]
    by_cases y : rPlays w c 9 = q
    · rw [if_pos y, e6, e7, t1, zt_bdS, zt_bdS, if_pos ⟨full, y⟩]
    · rw [if_neg y, e6, e7, t1, zt_bdS, zt_bdS, if_neg (fun z => y z.2)]
  · have er : rPlays w c = rCard (rLack w c) c (wTn w) := if_neg full
    refine ⟨σ2, fk2, by rw [er]; exact tk2, ?_⟩
    unfold F_Rw_without gn
    rw [if_pos (by omega), zt_bdS, if_neg (fun z => full z.1)]
end SU
