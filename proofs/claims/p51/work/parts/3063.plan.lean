/-! THE SCRIPT READ TO ITS END -/
section PL
variable {B : Int → Int} {N : Int} {σ τ : zt_S} {s : PS} {r u : Int → Int} {z : ZS} {p : Int}
def Held (r : Int → Int) : Prop := ∃ c, 0 ≤ c ∧ c < 52 ∧ ¬ r (40 + c) = -1
theorem cd_held (h : RH z.1) (hp : 0 ≤ p) : (Held z.1 → Held (cdZ B N p z).1) ∧ ((cdZ B N p z).2.1 = 0 → Held (cdZ B N p z).1) := by
  have a := h.1.1
  unfold cdZ
  by_cases x : (cdS B N p z).1 = 0
  · have q := cdS_0 x
    rw [if_pos x]
    have g : Held (ru z.1 (40 + tN B N z.2.2.2) p) := ⟨tN B N z.2.2.2, q.2.2.2.1.1, by omega, by rw [ru_s]; omega⟩
    exact ⟨fun _ => g, fun _ => g⟩
  · rw [if_neg x]
    exact ⟨fun h => h, fun z => absurd z x⟩
theorem hn_held : ∀ (m : Nat) (z : ZS), RH z.1 → (0 ≤ p ∧ p < z.1 1) → (Held z.1 → Held (hnZ B N p m z).1) ∧ ((hnZ B N p m z).2.1 = 0 → z.2.1 = 0)
  | 0, _, _, _ => ⟨fun h => h, fun h => h⟩
  | m + 1, z, h, hp => by
    rw [hnZ]
    by_cases x : z.2.1 = 0 ∧ tK B N z.2.2.2 = 3
    · rw [if_pos x]
      have ih := hn_held m (cdZ B N p z) (cdZ_R h hp) (by rw [cdZ_o (by decide)]; exact hp)
      exact ⟨fun y => ih.1 ((cd_held h hp.1).1 y), fun _ => x.1⟩
    · rw [if_neg x]
      exact ⟨fun h => h, fun h => h⟩
theorem ha_held (h : RH z.1) : (haZ B N z).2.1 = 0 → Held (haZ B N z).1 := by
  have a1 := h.1.2.1
  have pv := pPv_in (B := B) (N := N) (s := z.2) (show (0 : Int) ≤ z.1 1 - 1 by omega)
  have hp : 0 ≤ pPv B N 0 (z.1 1 - 1) z.2 ∧ pPv B N 0 (z.1 1 - 1) z.2 < z.1 1 := by omega
  unfold haZ
  intro g
  have hn := hn_held (B := B) (N := N) (p := pPv B N 0 (z.1 1 - 1) z.2) N.toNat (cdZ B N (pPv B N 0 (z.1 1 - 1) z.2) (z.1, pNu B N 0 (z.1 1 - 1) z.2)) (cdZ_R (z := (z.1, pNu B N 0 (z.1 1 - 1) z.2)) h hp) (by rw [cdZ_o (by decide)]; exact hp)
  exact hn.1 ((cd_held (z := (z.1, pNu B N 0 (z.1 1 - 1) z.2)) h hp.1).2 (hn.2 g))
def kI (k : Int) (z : ZS) : Prop := z.2.1 = 0 → (k = 0 ∧ ∀ c, 0 ≤ c → c < 52 → z.1 (40 + c) = -1) ∨ (¬ k = 0 ∧ zt_in k ∧ Held z.1)
theorem cl_kI {k : Int} (h : RH z.1) (hk : kI k z) : kI (if pWb B N (q_big + 1 + 8) z.2 = true then 1 else k) (clZ B N z) := by
  unfold clZ
  intro g
  by_cases a : pWb B N (q_big + 1 + 8) z.2 = true
  · rw [if_pos a] at g ⊢
    rw [if_pos a]
    exact Or.inr ⟨by decide, by decide, ha_held (z := (z.1, pX B N z.2)) h (pNS_g g)⟩
  · rw [if_neg a] at g ⊢
    rw [if_neg a]
    by_cases b : pWb B N (q_big + 1 + 9) z.2 = true
    · rw [if_pos b] at g ⊢
      have t := (teZ_R (B := B) (N := N) (z := (z.1, pX B N z.2)) h).2
      rcases hk (pWb_k b).1 with ⟨y1, y2⟩ | ⟨y1, y0, c, y2, y3, y4⟩
      · exact Or.inl ⟨y1, fun c h0 h1 => by dsimp only; rw [t _ (by omega)]; exact y2 c h0 h1⟩
      · exact Or.inr ⟨y1, y0, c, y2, y3, by dsimp only; rw [t _ (by omega)]; exact y4⟩
    · rw [if_neg b] at g
      exact absurd (pNS_g g) (pF_ne (by decide))
theorem ca_kI : ∀ (m : Nat) (k : Int) (z : ZS), RH z.1 → kI k z → kI (kaZ B N m k z) (caZ B N m z)
  | 0, _, _, _, h => h
  | m + 1, k, z, hr, h => by
    rw [kaZ, caZ]
    by_cases x : z.2.1 = 0 ∧ ¬ tK B N z.2.2.2 = 0
    · rw [if_pos x, if_pos x]
      exact ca_kI m _ _ (clZ_R hr).1 (cl_kI hr h)
    · rw [if_neg x, if_neg x]
      exact h
theorem ha_o2 {i : Int} (hi' : i < 40) : (haZ B N z).1 i = z.1 i := haZ_o hi'
theorem cl_o2 (h : RH z.1) {i : Int} (hi' : 19 < i ∧ i < 40) : (clZ B N z).1 i = z.1 i := by
  unfold clZ
  split
  · exact haZ_o (z := (z.1, pX B N z.2)) (by omega)
  · split
    · exact (teZ_R (B := B) (N := N) (z := (z.1, pX B N z.2)) h).2 i (by omega)
    · rfl
theorem ca_o2 {i : Int} (hi' : 19 < i ∧ i < 40) : ∀ (m : Nat) (z : ZS), RH z.1 → (caZ B N m z).1 i = z.1 i
  | 0, _, _ => rfl
  | m + 1, z, h => by
    rw [caZ]
    split
    · rw [ca_o2 hi' m _ (clZ_R h).1, cl_o2 h hi']
    · rfl
/-- the row ahead of the hands -/
def XR (r : Int → Int) : Prop := RH r ∧ r 9 = r 8 ∧ r 10 = r 4 ∧ r 11 = (if r 4 = -1 then 0 else r 5) ∧ r 12 = 0 ∧ r 13 = 0 ∧ r 14 = 0 ∧ ∀ i, 20 ≤ i → i < 40 → r i = 0
def s0 : PS := (0, -1, 0)
def z0 (B : Int → Int) (N : Int) (u : Int → Int) : ZS := (rL (zh B N u s0).1, (zh B N u s0).2)
theorem zh_o {i : Int} (hi' : 9 ≤ i ∧ i ≠ 15) : (zh B N u s).1 i = rBg u (szA B N s) (szB B N s) (szC B N s) i := by
  unfold zh zh4 zh3 zh2 zh1
  dsimp only
  rw [wn_o (by omega), wn_o (by omega), trZ_o (by omega), wn_o (by omega)]
theorem rL_o {i : Int} (h : i < 9 ∨ 11 < i) : rL r i = r i := by
  unfold rL
  rw [ru_o (by omega), ru_o (by omega), ru_o (by omega)]
theorem XR_0 : XR (z0 B N u).1 := by
  have R := (zh_R (B := B) (N := N) (u := u) (s := s0)).2.2.2.2
  have si := sz_in (B := B) (N := N) (s := s0)
  obtain ⟨v1, v2, v3⟩ := rBg_r (u := u) (a := szA B N s0) (b := szB B N s0) (c := szC B N s0)
  have vv := rBg_v (u := u) (a := szA B N s0) (b := szB B N s0) (c := szC B N s0)
  have zo := fun i hi => zh_o (B := B) (N := N) (u := u) (s := s0) (i := i) hi
  have lo := fun i hi => rL_o (r := (zh B N u s0).1) (i := i) hi
  unfold z0
  have h40 : ∀ c, 0 ≤ c → c < 52 → rL (zh B N u s0).1 (40 + c) = -1 := fun c h0 h1 => by rw [lo _ (by omega), zo _ (by omega), v3 _ (by omega) (by omega)]
  have R2 : RR (rL (zh B N u s0).1) := by
    unfold RR at R ⊢
    rw [lo 0 (by omega), lo 1 (by omega), lo 2 (by omega), lo 3 (by omega), lo 4 (by omega), lo 5 (by omega), lo 6 (by omega), lo 7 (by omega), lo 8 (by omega), lo 15 (by omega)]
    exact R
  refine ⟨⟨R2, fun c h0 h1 => ?_, fun p h0 h1 => ?_, fun p h0 h1 => ?_⟩, ?_, ?_, ?_, ?_, ?_, ?_, fun i h0 h1 => ?_⟩
  · have := R2.2.1
    have := h40 c h0 h1
    dsimp only at *
    omega
  · dsimp only
    rw [lo _ (by omega), zo _ (by omega), v1 _ (by omega) (by omega)]
    omega
  · have e : wHc (rL (zh B N u s0).1) p = 0 := by
      unfold wHc wHd
      exact cn_none _ _ (fun c a b => by rw [h40 c a (by omega)]; exact decide_eq_false (by omega))
    have := R2.2.2.1
    dsimp only at *
    omega
  · show rL (zh B N u s0).1 9 = rL (zh B N u s0).1 8
    rw [lo 8 (by omega)]
    unfold rL
    rw [ru_o (by omega), ru_o (by omega), ru_s]
  · show rL (zh B N u s0).1 10 = rL (zh B N u s0).1 4
    rw [lo 4 (by omega)]
    unfold rL
    rw [ru_o (by omega), ru_s]
  · show rL (zh B N u s0).1 11 = if rL (zh B N u s0).1 4 = -1 then 0 else rL (zh B N u s0).1 5
    rw [lo 4 (by omega), lo 5 (by omega)]
    unfold rL
    rw [ru_s]
  · show rL (zh B N u s0).1 12 = 0
    rw [lo _ (by omega), zo _ (by omega)]; exact vv.2.2.2.2.2.2.2.2.2.2.1
  · show rL (zh B N u s0).1 13 = 0
    rw [lo _ (by omega), zo _ (by omega)]; exact vv.2.2.2.2.2.2.2.2.2.2.2.1
  · show rL (zh B N u s0).1 14 = 0
    rw [lo _ (by omega), zo _ (by omega)]; exact vv.2.2.2.2.2.2.2.2.2.2.2.2
  · show rL (zh B N u s0).1 i = 0
    rw [lo _ (by omega), zo _ (by omega)]; exact v2 i h0 h1
theorem z0_40 : (∀ c, 0 ≤ c → c < 52 → (z0 B N u).1 (40 + c) = -1) ∧ ∀ p, 0 ≤ p → p < 4 → (z0 B N u).1 (16 + p) = -1 := by
  obtain ⟨v1, v2, v3⟩ := rBg_r (u := u) (a := szA B N s0) (b := szB B N s0) (c := szC B N s0)
  refine ⟨fun c h0 h1 => ?_, fun p h0 h1 => ?_⟩
  · show rL (zh B N u s0).1 _ = _
    rw [rL_o (by omega), zh_o (by omega), v3 _ (by omega) (by omega)]
  · show rL (zh B N u s0).1 _ = _
    rw [rL_o (by omega), zh_o (by omega), v1 _ (by omega) (by omega)]
def zE (B : Int → Int) (N : Int) (u : Int → Int) : ZS := caZ B N N.toNat (z0 B N u)
def kE (B : Int → Int) (N : Int) (u : Int → Int) : Int := kaZ B N N.toNat 0 (z0 B N u)
theorem XR_E : XR (zE B N u).1 := by
  have x := XR_0 (B := B) (N := N) (u := u)
  have c := caZ_R (B := B) (N := N) N.toNat (z0 B N u) x.1
  have o := c.2
  refine ⟨c.1, ?_, ?_, ?_, ?_, ?_, ?_, fun i h0 h1 => ?_⟩
  · show (caZ B N N.toNat (z0 B N u)).1 9 = (caZ B N N.toNat (z0 B N u)).1 8
    rw [o 9 (by omega), o 8 (by omega)]; exact x.2.1
  · show (caZ B N N.toNat (z0 B N u)).1 10 = (caZ B N N.toNat (z0 B N u)).1 4
    rw [o 10 (by omega), o 4 (by omega)]; exact x.2.2.1
  · show (caZ B N N.toNat (z0 B N u)).1 11 = if (caZ B N N.toNat (z0 B N u)).1 4 = -1 then 0 else (caZ B N N.toNat (z0 B N u)).1 5
    rw [o 11 (by omega), o 4 (by omega), o 5 (by omega)]; exact x.2.2.2.1
  · exact (o 12 (by omega)).trans x.2.2.2.2.1
  · exact (o 13 (by omega)).trans x.2.2.2.2.2.1
  · exact (o 14 (by omega)).trans x.2.2.2.2.2.2.1
  · exact (ca_o2 (by omega) _ _ x.1).trans (x.2.2.2.2.2.2.2 i h0 h1)
theorem kE_ok : kI (kE B N u) (zE B N u) := ca_kI _ _ _ XR_0.1 (fun _ => Or.inl ⟨rfl, z0_40.1⟩)
/-- all the cards given -/
def fin (r : Int → Int) (k : Int) : Int → Int := if k = 0 then dlr (wMx (4 * r 0) (r 15)) (r 1) (r 1 * r 2).toNat r else fu (wMx (4 * r 0) (r 15)) (4 * r 0).toNat 0 r
theorem fin_ok {k : Int} (h : XR r) (hk : k = 0 → ∀ c, 0 ≤ c → c < 52 → r (40 + c) = -1) : RI (fin r k) ∧ ∀ i, (i < 40 ∨ 92 ≤ i) → fin r k i = r i := by
  obtain ⟨hr, h9, h10, h11, h12, h13, h14, h20⟩ := h
  obtain ⟨⟨a0, a1, a2, a3, b3, b4, b5, b6, b7, b8, b15⟩, c1, c2, c3⟩ := id hr
  have hP := wMx_pm (n := 4 * r 0) (seed := r 15) (by omega)
  have mm : 0 ≤ r 1 * r 2 := Int.mul_nonneg (by omega) (by omega)
  have key : (∀ i, (i < 40 ∨ 92 ≤ i) → fin r k i = r i) ∧ (∀ c, 0 ≤ c → c < 52 → -1 ≤ fin r k (40 + c) ∧ fin r k (40 + c) < r 1 ∧ (4 * r 0 ≤ c → fin r k (40 + c) = -1)) ∧ ∀ p, 0 ≤ p → p < r 1 → wHc (fin r k) p = r 2 := by
    unfold fin
    by_cases k0 : k = 0
    · rw [if_pos k0]
      have f40 := hk k0
      refine ⟨fun i hi => dlr_o hP (by omega) hi _ (by omega), fun c h0 h1 => dlr_rg hP (by omega) a1 f40 _ (by omega) c h0 h1, fun p h0 h1 => ?_⟩
      rw [dlr_hc hP (by omega) a1 f40 ⟨h0, h1⟩ _ (by omega), show (((r 1 * r 2).toNat : Nat) : Int) = r 1 * r 2 by omega]
      have q : r 1 = 2 ∨ r 1 = 3 ∨ r 1 = 4 := by omega
      rcases q with q | q | q <;> rw [q] at h1 ⊢ <;> omega
    · rw [if_neg k0]
      obtain ⟨r', g1, g2, g3, g4, g5⟩ := em_comp_23 (τ := rz 168 (fun _ _ => 0, fun _ _ => 0, default, 0) (wMx (4 * r 0) (r 15))) (R := r 0) a0 hP (fun j _ _ => by rw [rz_r]) (r 1).toNat zt_N 0 0 r (by omega) (zN (by omega)) (by omega) ⟨hr, rfl, by omega, fun j _ _ => by omega, fun q _ _ => by omega⟩
      rw [Int.sub_zero] at g2
      rw [← g2]
      refine ⟨g4, fun c h0 h1 => ?_, fun p h0 h1 => ?_⟩
      · have := g3.2.1 c h0 h1
        rw [g4 1 (by omega), g4 0 (by omega)] at this
        exact this
      · have := g5 p h0 (by rw [g4 1 (by omega)]; exact h1)
        rw [g4 2 (by omega)] at this
        exact this
  obtain ⟨k1, k2, k3⟩ := key
  refine ⟨RI.of0 ?_ ?_ ?_ ?_ (fun p h0 h1 => ?_) (fun p h0 h1 => ?_) (fun j h0 h1 => ?_) (fun c h0 h1 => ?_) (fun p h0 h1 => ?_), k1⟩
  · rw [k1 0 (by omega), k1 1 (by omega), k1 2 (by omega), k1 3 (by omega), k1 4 (by omega), k1 5 (by omega), k1 6 (by omega), k1 7 (by omega), k1 8 (by omega), k1 9 (by omega), k1 10 (by omega), k1 11 (by omega), h9, h10, h11]
    refine ⟨a0, a1, a2, a3, b3, b4, b5, b6, b7, b8, b8, b4, ?_⟩
    split <;> omega
  · rw [k1 _ (by omega)]; exact h12
  · rw [k1 _ (by omega)]; exact h13
  · rw [k1 _ (by omega)]; omega
  · rw [k1 _ (by omega)]; exact c2 p h0 h1
  · rw [k1 _ (by omega), h20 _ (by omega) (by omega)]; omega
  · rw [k1 _ (by omega), h20 _ (by omega) (by omega)]; omega
  · rw [k1 1 (by omega), k1 0 (by omega)]; exact k2 c h0 h1
  · rw [k1 1 (by omega)] at h1
    rw [k1 2 (by omega)]; exact k3 p h0 h1
end PL
