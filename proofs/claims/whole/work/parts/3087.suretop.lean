section SG
variable {w w' w0 : Int → Int} {q : Int} {S L : Int64} {σ τ : zt_S}
theorem e_best {f : Int → Int64 → zt_S → Option (Int × zt_S)} {d : Nat} (hd : d < 12) (hf : DEEP w0 q S (d + 1) f) (hq : 0 ≤ q ∧ q < 4) (ho : wOv w = false) (h : ND w0 q S d L w σ) (h8 : d = 0 → σ.1 144 8 = -1) : ∃ σ', F_SS_bestFrom (148 + d) f (d : Int) L σ = some (VV q w, σ') ∧ MEM w0 q S σ' ∧ FG d σ σ' ∧ (d = 0 → σ'.1 144 8 = (VB q w).2) := by
  obtain ⟨n1, n2, n3, n4, n5, n6⟩ := id h
  have hw := n3.1
  have n := hw.n
  have p13 := hw.p13
  have pl := hw.pl
  have l1 := n1.2.2.2.2.2.2.2.1
  have t := wTn_lt hw
  have t0 := t.2.2 ho
  have e0 : w 0 = w0 0 := n3.2.1 0 (by omega) (by omega)
  have hs : SUw σ 3 w := n1.1.ag (n3.2.1 0 (by omega) (by omega)) (n3.2.1 1 (by omega) (by omega)) (n3.2.1 2 (by omega) (by omega)) (n3.2.1 5 (by omega) (by omega))
  have k1 : σ.1 (148 + d) 1 = wTn w := by rw [n5.1.2.1, tn_pl ho]
  have hH : ∀ c, 0 ≤ c → c < 64 → hb (σ.2.1 8 (wTn w) &&& L) c = decide (c < 4 * w 0 ∧ wHd w c = wTn w) := fun c c0 c1 => by
    rw [hb_and, n1.2.2.2.2.2.2.1 _ c t0 (by omega) c0 c1, n6 c c0 c1, ← e0]
    by_cases z : c < 4 * w 0
    · rcases n3.2.2.1 c c0 (by omega) with y | y
      · rw [y]
        by_cases x : wHd w0 c = wTn w
        · have : ¬ wHd w0 c = -1 := by omega
          simp [z, x, this]
          omega
        · simp [x]
      · have : ¬ (-1 : Int) = wTn w := by omega
        simp [y, this]
    · simp [z]
  obtain ⟨A, a1, a2⟩ := ec_allowed n5 hs hw ⟨t0, by omega⟩ hH
  rw [n3.2.1 3 (by omega) (by omega), ← n1.2.1] at a1
  have hA : ∀ c, 0 ≤ c → c < 64 → hb A c = (decide (c < 4 * w 0) && wLg w c) := fun c c0 c1 => by
    rw [a2 c c0 c1]
    unfold wLg
    have : ¬ wTn w = -1 := by omega
    by_cases z : c < 4 * w 0 <;> by_cases y : wHd w c = wTn w <;> simp [z, y, this]
  have bits := hand_bits hw t0 hH
  have go : ∀ (own : Bool) (o G : Int), own = decide (wTn w = q) → (o = if own = true then 1 else 0) → (G = if own = true then w 2 - w 13 else 0) → ∃ σ', F_SS_bestFrom_66 (148 + d) f (d : Int) L o A G σ = some (VV q w, σ') ∧ MEM w0 q S σ' ∧ FG d σ σ' ∧ (d = 0 → σ'.1 144 8 = (VB q w).2) := by
    intro own o G b1 b2 b3
    obtain ⟨σ', g1, g2, g3, g4⟩ := e_best_74 (L := L) hd hf (by unfold zt_in; omega) b1 b2 b3 ho hA (σ.1 144 6).toNat zt_N 0 0 (-1, -1) σ (by omega) (zN (by omega)) (by omega) (by omega) (fun j j0 j1 => by omega) (fun j j0 j1 => (n1.2.2.2.2.2.2.2.2.1 j j0 j1).1.1) (Or.inl rfl) h8 h
    refine ⟨σ', ?_, g2, g3, fun z => ?_⟩
    · unfold F_SS_bestFrom_66
      rw [g1, VV_eq hw ho]
      unfold VB
      rw [← b1]
      rfl
    · rw [g4 z]
      unfold VB
      rw [← b1]
      rfl
  unfold F_SS_bestFrom F_SS_bestFrom_16
  rw [k1, n1.2.2.2.2.1, zt_ckI ⟨by unfold zt_in; omega, by unfold zt_in; omega⟩]
  by_cases own : wTn w = q
  · rw [if_pos own, be_handOf ⟨t0, by omega⟩, a1, zt_bdS, zt_ckI (by decide), if_neg (by decide), be_bitCount, bits, goal_eq hw ho]
    exact go true 1 _ (decide_eq_true own).symm rfl rfl
  · rw [if_neg own, be_handOf ⟨t0, by omega⟩, a1, zt_bdS, zt_ckI (by decide), if_pos rfl]
    exact go false 0 0 (decide_eq_false own).symm rfl rfl
theorem e_from (hS : 0 ≤ S.toInt ∧ S.toInt < 2 ^ 40) (hq : 0 ≤ q ∧ q < 4) (hc : w0 1 * w0 2 - w0 12 ≤ 12) : ∀ (n : Nat) (d : Nat) (L : Int64) (w : Int → Int) (σ : zt_S), d ≤ 12 → 13 ≤ n + d → ND w0 q S d L w σ → (d = 0 → σ.1 144 8 = -1) → (d = 0 → ∀ p, 0 ≤ p → p < 16384 → ¬ zt_rs (σ.2.1 147 p) 20 = S) → ∃ σ', F_SS_tricksFrom n (d : Int) L σ = some (VV q w, σ') ∧ MEM w0 q S σ' ∧ FG d σ σ' ∧ (d = 0 → wOv w = false → σ'.1 144 8 = (VB q w).2)
  | 0, d, _, _, _, h0, h1, _, _, _ => by omega
  | n + 1, d, L, w, σ, h0, h1, h, h8, hm => by
    obtain ⟨n1, n2, n3, n4, n5, n6⟩ := id h
    have hw := n3.1
    have nn := hw.n
    have p13 := hw.p13
    have pl := hw.pl
    have wpl := hw.wpl
    have l1 := n1.2.2.2.2.2.2.2.1
    have e1 : w 1 = w0 1 := n3.2.1 1 (by omega) (by omega)
    have e2 : w 2 = w0 2 := n3.2.1 2 (by omega) (by omega)
    have e0 : w 0 = w0 0 := n3.2.1 0 (by omega) (by omega)
    rw [F_SS_tricksFrom, e_trickAt (by omega), zt_bdS, show ((d : Int)).toNat = d by omega, zt_ckI (tri_in d (by omega))]
    by_cases z : wOv w = true
    · rw [if_pos (zt_lc0.mpr ((n6.zero hw).mpr z))]
      refine ⟨σ, ?_, n2, FG.rf, fun _ y => by rw [z] at y; exact absurd y (by decide)⟩
      have : VV q w = 0 := by
        unfold VV
        cases lf w with
        | zero => rfl
        | succ m => rw [VN, if_pos z]
      rw [this]
    · have ho : wOv w = false := Bool.eq_false_iff.mpr z
      have o := wOv_lt hw ho
      have d12 : d < 12 := by rw [e1, e2] at o; omega
      have hf : DEEP w0 q S (d + 1) (F_SS_tricksFrom n) := fun L' w' σ' h' => by
        obtain ⟨σ2, g1, g2, g3, _⟩ := e_from hS hq hc n (d + 1) L' w' σ' (by omega) (by omega) h' (fun y => by omega) (fun y => by omega)
        exact ⟨σ2, g1, g2, g3⟩
      have k2 : σ.1 (148 + d) 2 = wPl w := n5.1.2.2.1
      rw [if_neg (fun y => z ((n6.zero hw).mp (zt_lc0.mp y))), k2, zt_ckI (by unfold zt_in; omega)]
      by_cases p0 : 0 < wPl w
      · obtain ⟨σ', g1, g2, g3, g4⟩ := e_best d12 hf hq ho h h8
        rw [if_pos p0, g1, zt_bdS]
        exact ⟨σ', rfl, g2, g3, fun y _ => g4 y⟩
      · have pz : wPl w = 0 := by omega
        have k0 : σ.1 (148 + d) 0 = w 9 := n5.1.1
        have k7 : σ.1 (148 + d) 7 = w 10 := n5.2.2.1
        have pe := e_placeOf (l := w 9) n1.2.2.2.2.2.2.2 n6 e0 nn.1 (σ.1 144 6).toNat zt_N 0 (by omega) (zN (by omega))
        have pk' : 4 * mk (σ.1 146) w (0 + (σ.1 144 6).toNat) + w 9 = pk σ w := by rw [Nat.zero_add]; rfl
        have pr := spk_in (w := w) n1.2.2.2.2.2.2.2 ⟨nn.2.2.2.2.2.2.2.2.2.2.1.1, by omega⟩
        have mm := n2 _ pr.1 pr.2
        have nb := nib_in (σ.2.1 147 (pk σ w)) (4 * (w 10 + 1))
        rw [pk'] at pe
        have pe' : F_SS_placeOf L (w 9) σ = some (pk σ w, σ) := pe
        rw [if_neg p0, k0, pe', zt_bdS, k7, e_recall pr n1.2.2.2.2.2.1, zt_bdS, zt_ckI (by split <;> (unfold zt_in; omega))]
        by_cases rc : 0 < (if zt_rs (σ.2.1 147 (pk σ w)) 20 = S then nib (σ.2.1 147 (pk σ w)) (4 * (w 10 + 1)) else 0)
        · have rS : zt_rs (σ.2.1 147 (pk σ w)) 20 = S := by
            by_cases y : zt_rs (σ.2.1 147 (pk σ w)) 20 = S
            · exact y
            · rw [if_neg y] at rc; omega
          rw [if_pos rc]
          rw [if_pos rS] at rc ⊢
          have v := mm.2 rS (w 10 + 1) (by omega) (by omega) rc w n3 pz rfl rfl
          refine ⟨σ, by rw [v, show VV q w + 1 - 1 = VV q w by omega], n2, FG.rf, fun y _ => absurd rS (hm y _ pr.1 pr.2)⟩
        · obtain ⟨σ1, g1, g2, g3, g4⟩ := e_best d12 hf hq ho h h8
          have pk1 : pk σ1 w = pk σ w := pk_fg g3
          have mm1 := g2 _ pr.1 pr.2
          have nb1 := nib_in (σ1.2.1 147 (pk σ w)) (4 * (w 10 + 1))
          have s1 : σ1.2.1 144 5 = S := by rw [g3.2.2.1 _ _ (by omega)]; exact n1.2.2.2.2.2.1
          obtain ⟨σ2, u1, u2, u3, u4⟩ := e_remember (d := d) s1 hS (n1.2.2.2.2.2.2.2.fg g3) g2 n3 pz (fun y => by
            rw [pk1] at y ⊢
            by_cases x : 0 < nib (σ1.2.1 147 (pk σ w)) (4 * (w 10 + 1))
            · exact Or.inr (mm1.2 y (w 10 + 1) (by omega) (by omega) x w n3 pz rfl pk1)
            · exact Or.inl (by omega))
          rw [pk1] at u1
          rw [if_neg rc, g1, zt_bdS, u1, zt_bdS]
          exact ⟨σ2, rfl, u2, g3.tr u3, fun y _ => by rw [u4]; exact g4 y⟩
/-! the class' sure -/
theorem e_list_7 {V : Int64} {w0 : Int → Int} (hs : SUw σ 3 w0) (h0 : 4 ≤ w0 0 ∧ w0 0 ≤ 13) (hV : ∀ c, 0 ≤ c → c < 64 → hb V c = decide (c < 4 * w0 0 ∧ ¬ wHd w0 c = -1)) (hn : cn (fun c => decide (¬ wHd w0 c = -1)) 0 (4 * w0 0).toNat ≤ 12) : ∀ (k g : Nat) (c : Int) (τ : zt_S), c + k = 4 * w0 0 → k < g → 0 ≤ c → (∀ x j, (x ≠ 144 ∨ j ≠ 6) → x ≠ 146 → τ.1 x j = σ.1 x j) → τ.2 = σ.2 → τ.1 144 6 = cn (fun c => decide (¬ wHd w0 c = -1)) 0 c.toNat → (∀ i, 0 ≤ i → i < τ.1 144 6 → (0 ≤ τ.1 146 i ∧ τ.1 146 i < c) ∧ ¬ wHd w0 (τ.1 146 i) = -1) → (∀ x, 0 ≤ x → x < c → ¬ wHd w0 x = -1 → ∃ i, 0 ≤ i ∧ i < τ.1 144 6 ∧ τ.1 146 i = x) → (∀ i j, 0 ≤ i → i < j → j < τ.1 144 6 → τ.1 146 i < τ.1 146 j) → ∃ τ', F_SS_listCards_7 g V c τ = some ((), τ') ∧ (∀ x j, (x ≠ 144 ∨ j ≠ 6) → x ≠ 146 → τ'.1 x j = σ.1 x j) ∧ τ'.2 = σ.2 ∧ (0 ≤ τ'.1 144 6 ∧ τ'.1 144 6 ≤ 12) ∧ (∀ i, 0 ≤ i → i < τ'.1 144 6 → (0 ≤ τ'.1 146 i ∧ τ'.1 146 i < 4 * w0 0) ∧ ¬ wHd w0 (τ'.1 146 i) = -1) ∧ (∀ x, 0 ≤ x → x < 4 * w0 0 → ¬ wHd w0 x = -1 → ∃ i, 0 ≤ i ∧ i < τ'.1 144 6 ∧ τ'.1 146 i = x) ∧ ∀ i j, 0 ≤ i → i < j → j < τ'.1 144 6 → τ'.1 146 i < τ'.1 146 j
  | k, 0, _, _, _, h1, _, _, _, _, _, _, _ => absurd h1 (Nat.not_lt_zero k)
  | k, g + 1, c, τ, h1, h2, h3, f1, f2, f3, f4, f5, f6 => by
    have s0 : τ.1 3 0 = w0 0 := by rw [f1 _ _ (by omega) (by omega)]; exact hs.1
    have sp := cn_app (fun c => decide (¬ wHd w0 c = -1)) (4 * w0 0 - c).toNat c.toNat 0
    have cle := cn_le (fun c => decide (¬ wHd w0 c = -1)) (4 * w0 0 - c).toNat (0 + ((c.toNat : Nat) : Int))
    have cl2 := cn_le (fun c => decide (¬ wHd w0 c = -1)) c.toNat 0
    rw [show c.toNat + (4 * w0 0 - c).toNat = (4 * w0 0).toNat by omega] at sp
    rw [F_SS_listCards_7, e_cardCount, zt_bdS, s0, zt_ckI ⟨by unfold zt_in; omega, by unfold zt_in; omega⟩]
    cases k with
    | zero =>
      rw [if_neg (by omega)]
      have ec : c = 4 * w0 0 := by omega
      rw [← ec]
      exact ⟨τ, rfl, f1, f2, by omega, f4, f5, f6⟩
    | succ k =>
      have hv := hV c h3 (by omega)
      unfold F_SS_listCards_48
      have cs : cn (fun c => decide (¬ wHd w0 c = -1)) 0 (c + 1).toNat = cn (fun c => decide (¬ wHd w0 c = -1)) 0 c.toNat + (if ¬ wHd w0 c = -1 then 1 else 0) := by
        have e := cn_app (fun c => decide (¬ wHd w0 c = -1)) 1 c.toNat 0
        rw [show (c + 1).toNat = c.toNat + 1 by omega, e, cn, cn, show 0 + ((c.toNat : Nat) : Int) = c by omega]
        simp
      rw [if_pos (by omega)]
      by_cases z : wHd w0 c = -1
      · rw [be_has_f ⟨h3, by omega⟩ (by rw [hv, decide_eq_true_eq]; exact fun y => y.2 z), zt_ckI (by decide), if_pos rfl]
        rw [if_neg (fun y => y z), Int.add_zero] at cs
        exact e_list_7 hs h0 hV hn k g (c + 1) τ (by omega) (by omega) (by omega) f1 f2 (by rw [cs]; exact f3) (fun i a b => by have := f4 i a b; exact ⟨by omega, this.2⟩) (fun x a b y => f5 x a (by
          rcases Int.lt_or_le x c with q | q
          · exact q
          · exact absurd (show x = c by omega) (fun e => y (e ▸ z))) y) f6
      · have sp2 := cn_app (fun c => decide (¬ wHd w0 c = -1)) (4 * w0 0 - (c + 1)).toNat (c + 1).toNat 0
        have cle2 := cn_le (fun c => decide (¬ wHd w0 c = -1)) (4 * w0 0 - (c + 1)).toNat (0 + (((c + 1).toNat : Nat) : Int))
        rw [show (c + 1).toNat + (4 * w0 0 - (c + 1)).toNat = (4 * w0 0).toNat by omega] at sp2
        rw [if_pos z] at cs
        rw [be_has_t ⟨h3, by omega⟩ (by rw [hv, decide_eq_true_eq]; exact ⟨by omega, z⟩), zt_ckI (by decide), if_neg (by decide), be_set (by omega) (by decide), zt_letS, up_o (by omega)]
        have u6 : (zt_up (zt_up τ 146 (τ.1 144 6) c) 144 6 (τ.1 144 6 + 1)).1 144 6 = τ.1 144 6 + 1 := up_s _ _ _ _
        have ui : ∀ i, (zt_up (zt_up τ 146 (τ.1 144 6) c) 144 6 (τ.1 144 6 + 1)).1 146 i = if i = τ.1 144 6 then c else τ.1 146 i := fun i => by
          rw [up_o (by omega)]
          by_cases y : i = τ.1 144 6
          · rw [if_pos y, y, up_s]
          · rw [if_neg y, up_o (by omega)]
        refine e_list_7 hs h0 hV hn k g (c + 1) _ (by omega) (by omega) (by omega) (fun x j a b => by rw [up_o (by omega), up_o (by omega)]; exact f1 x j a b) (by rw [up_2, up_2]; exact f2) (by rw [u6, cs, f3]) (fun i a b => ?_) (fun x a b y => ?_) (fun i j a b e => ?_)
        · rw [u6] at b
          rw [ui]
          by_cases y : i = τ.1 144 6
          · rw [if_pos y]; exact ⟨by omega, z⟩
          · rw [if_neg y]
            have := f4 i a (by omega)
            exact ⟨by omega, this.2⟩
        · by_cases e : x = c
          · exact ⟨τ.1 144 6, by omega, by rw [u6]; omega, by rw [ui, if_pos rfl, e]⟩
          · obtain ⟨i, i0, i1, i2⟩ := f5 x a (by omega) y
            exact ⟨i, i0, by rw [u6]; omega, by rw [ui, if_neg (by omega), i2]⟩
        · rw [u6] at e
          rw [ui, ui, if_neg (by omega)]
          by_cases y : j = τ.1 144 6
          · rw [if_pos y]
            have := f4 i a (by omega)
            omega
          · rw [if_neg y]
            exact f6 i j a b (by omega)
end SG
