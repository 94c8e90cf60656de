/-! THE HANDS FILLED UP -/
def fL (r : Int → Int) : Nat → Int → Int
  | 0, _ => -1
  | m + 1, p => if wHc r p < r 2 then p else fL r m (p + 1)
def fF (r : Int → Int) : Int := fL r (r 1).toNat 0
def fu (P : Int → Int) : Nat → Int → (Int → Int) → (Int → Int)
  | 0, _, r => r
  | m + 1, k, r => if ¬ fF r = -1 ∧ r (40 + P k) = -1 then fu P m (k + 1) (ru r (40 + P k) (fF r)) else fu P m (k + 1) r
section FS
variable {r : Int → Int} {P : Int → Int} {σ τ : zt_S} {p : Int}
theorem fL_no : ∀ (m : Nat) (p : Int), (∀ q, p ≤ q → q < p + m → ¬ wHc r q < r 2) → fL r m p = -1
  | 0, _, _ => rfl
  | m + 1, p, h => by
    rw [fL, if_neg (h p (by omega) (by omega))]
    exact fL_no m (p + 1) (fun q a b => h q (by omega) (by omega))
theorem fL_at {q : Int} : ∀ (m : Nat) (p : Int), p ≤ q → q < p + m → (∀ x, p ≤ x → x < q → ¬ wHc r x < r 2) → wHc r q < r 2 → fL r m p = q
  | 0, p, h0, h1, _, _ => by omega
  | m + 1, p, h0, h1, h, hq => by
    rw [fL]
    by_cases e : q = p
    · rw [if_pos (e ▸ hq), e]
    · rw [if_neg (h p (by omega) (by omega))]
      exact fL_at m (p + 1) (by omega) (by omega) (fun x a b => h x (by omega) b) hq
theorem fL_lt : ∀ (m : Nat) (p : Int), fL r m p = -1 ∨ (p ≤ fL r m p ∧ fL r m p < p + m ∧ wHc r (fL r m p) < r 2)
  | 0, _ => Or.inl rfl
  | m + 1, p => by
    rw [fL]
    split
    · rename_i h
      exact Or.inr ⟨by omega, by omega, h⟩
    · rcases fL_lt m (p + 1) with z | z
      · exact Or.inl z
      · exact Or.inr ⟨by omega, by omega, z.2.2⟩
theorem fF_lt (h : 0 ≤ r 1) : fF r = -1 ∨ (0 ≤ fF r ∧ fF r < r 1 ∧ wHc r (fF r) < r 2) := by
  rcases fL_lt (r := r) (r 1).toNat 0 with z | z
  · exact Or.inl z
  · refine Or.inr ⟨z.1, ?_, z.2.2⟩
    have := z.2.1
    show fL r (r 1).toNat 0 < r 1
    omega
theorem fu_gv (hr : RH r) (hP : PM (4 * r 0) P) {k : Int} (hk : 0 ≤ k ∧ k < 4 * r 0) (h : ¬ fF r = -1 ∧ r (40 + P k) = -1) : RH (ru r (40 + P k) (fF r)) := by
  have a := hr.1.2.1
  have f := fF_lt (r := r) (by omega)
  have q := hP.1 k hk.1 hk.2
  have f2 : 0 ≤ fF r ∧ fF r < r 1 ∧ wHc r (fF r) < r 2 := by
    rcases f with z | z
    · exact absurd z h.1
    · exact z
  exact hr.gv ⟨f2.1, f2.2.1⟩ q h.2 f2.2.2
theorem fu_R : ∀ (m : Nat) (k : Int) (r : Int → Int), RH r → PM (4 * r 0) P → 0 ≤ k → k + m ≤ 4 * r 0 → RH (fu P m k r) ∧ ∀ i, (i < 40 ∨ 92 ≤ i) → fu P m k r i = r i
  | 0, _, _, h, _, _, _ => ⟨h, fun _ _ => rfl⟩
  | m + 1, k, r, h, hP, h0, h1 => by
    have a := h.1.1
    rw [fu]
    by_cases x : ¬ fF r = -1 ∧ r (40 + P k) = -1
    · have q := hP.1 k h0 (by omega)
      have e : ∀ i, (i < 40 ∨ 92 ≤ i) → ru r (40 + P k) (fF r) i = r i := fun i hi => ru_o (by omega)
      have ih := fu_R m (k + 1) (ru r (40 + P k) (fF r)) (fu_gv h hP ⟨h0, by omega⟩ x) (by rw [e 0 (by omega)]; exact hP) (by omega) (by rw [e 0 (by omega)]; omega)
      rw [if_pos x]
      exact ⟨ih.1, fun i hi => by rw [ih.2 i hi, e i hi]⟩
    · rw [if_neg x]
      exact fu_R m (k + 1) r h hP (by omega) (by omega)
theorem fu_no (h : fF r = -1) : ∀ (m : Nat) (k : Int), fu P m k r = r
  | 0, _ => rfl
  | m + 1, k => by
    rw [fu, if_neg (fun z => z.1 h)]
    exact fu_no h m (k + 1)
/-! the class -/
theorem ec_fl_2 (hq : CQ LW σ r) (h : CH σ r) (hr : RH r) : ∀ (m f : Nat) (p : Int), p + m = r 1 → m < f → 0 ≤ p → F_Tb_firstLackingCards_2 130 f p σ = some (fL r m p, σ)
  | m, 0, _, _, h1, _ => absurd h1 (Nat.not_lt_zero m)
  | 0, f + 1, p, h0, h1, h2 => by
    have a1 := hr.1.2.1
    have e : σ.1 (zt_su 130) 1 = r 1 := hq.e1
    rw [F_Tb_firstLackingCards_2, e, zt_ckI ⟨by unfold zt_in; omega, by unfold zt_in; omega⟩, if_neg (by omega)]
    rfl
  | m + 1, f + 1, p, h0, h1, h2 => by
    have a1 := hr.1.2.1
    have e : σ.1 (zt_su 130) 1 = r 1 := hq.e1
    rw [F_Tb_firstLackingCards_2, e, zt_ckI ⟨by unfold zt_in; omega, by unfold zt_in; omega⟩, if_pos (by omega), ec_full hq h hr ⟨h2, by omega⟩, zt_bdS, fL]
    by_cases x : wHc r p < r 2
    · rw [if_pos x, zt_ckI (by decide), if_pos rfl, if_pos x]
    · rw [if_neg x, zt_ckI (by decide), if_neg (by decide), if_neg x]
      exact ec_fl_2 hq h hr m f (p + 1) (by omega) (by omega) (by omega)
theorem ec_fill_2 {R : Int} (hR : 4 ≤ R ∧ R ≤ 13) (hP : PM (4 * R) P) : ∀ (m f : Nat) (k : Int) (σ : zt_S) (r : Int → Int), k + m = 4 * R → m < f → 0 ≤ k → r 0 = R → CQ LW σ r → CH σ r → RH r → (∀ j, 0 ≤ j → j < 4 * R → σ.1 5 j = P j) → ∃ σ', F_Tb_fillUp_2 130 f k σ = some ((), σ') ∧ CQ LW σ' (fu P m k r) ∧ CH σ' (fu P m k r) ∧ σ'.1 = σ.1 ∧ (∀ c j, c ≠ 132 → σ'.2.1 c j = σ.2.1 c j) ∧ σ'.2.2 = σ.2.2
  | m, 0, _, _, _, _, h1, _, _, _, _, _, _ => absurd h1 (Nat.not_lt_zero m)
  | 0, f + 1, k, σ, r, h0, h1, h2, h3, hq, h, hr, h5 => by
    refine ⟨σ, ?_, hq, h, rfl, fun _ _ _ => rfl, rfl⟩
    have e : σ.1 (zt_su 130) 0 = r 0 := hq.e0
    rw [F_Tb_fillUp_2, e_cardCount, zt_bdS, e, zt_ckI ⟨by unfold zt_in; omega, by unfold zt_in; omega⟩, if_neg (by omega)]
  | m + 1, f + 1, k, σ, r, h0, h1, h2, h3, hq, h, hr, h5 => by
    have a1 := hr.1.2.1
    have e : σ.1 (zt_su 130) 0 = r 0 := hq.e0
    have hPr : PM (4 * r 0) P := by rw [h3]; exact hP
    have q := hP.1 k h2 (by omega)
    have f0 := fF_lt (r := r) (by omega)
    have fl : F_Tb_firstLackingCards 130 σ = some (fF r, σ) := ec_fl_2 hq h hr (r 1).toNat zt_N 0 (by omega) (zN (by omega)) (by omega)
    rw [F_Tb_fillUp_2, e_cardCount, zt_bdS, e, zt_ckI ⟨by unfold zt_in; omega, by unfold zt_in; omega⟩, if_pos (by omega)]
    unfold F_Pk_cardAt F_Tb_fillUp_47
    rw [be_at (by omega) (by decide), zt_bdS, h5 k h2 (by omega), fl, zt_bdS, zt_ckI (by unfold zt_in; omega), fu]
    have ih := fun σ r a b c d e => ec_fill_2 hR hP m f (k + 1) σ r (by omega) (by omega) (by omega) a b c d e
    by_cases x : fF r = -1
    · rw [if_pos x, if_neg (fun z => z.1 x)]
      exact ih σ r h3 hq h hr h5
    · have f1 : 0 ≤ fF r ∧ fF r < r 1 := by omega
      rw [if_neg x, ec_hold hq h hr ⟨q.1, by omega⟩, zt_bdS]
      have d := hr.2.1 (P k) q.1 (by omega)
      rw [zt_ckI (by unfold zt_in; omega)]
      by_cases y : r (40 + P k) = -1
      · rw [if_pos y, if_pos ⟨x, y⟩, e_give ⟨f1.1, by omega⟩, zt_bdS]
        have hg := hb_give (x := 0) (t := 130) (w := r) (σ := σ) (p := fF r) ⟨f1.1, by omega⟩ (c := P k) ⟨q.1, by omega⟩ (by omega) y h.1
        have er : ∀ i, i < 40 → ru r (40 + P k) (fF r) i = r i := fun i hi => ru_o (by omega)
        obtain ⟨σ', g1, g2, g3, g4, g5, g6⟩ := ih (zt_uL σ (130 + 2) (fF r) (σ.2.1 (130 + 2) (fF r) ||| zt_ls 1 (P k))) (ru r (40 + P k) (fF r)) (by rw [er 0 (by omega)]; exact h3) (CQ.row (σ := zt_uL σ (130 + 2) (fF r) (σ.2.1 (130 + 2) (fF r) ||| zt_ls 1 (P k))) hq (fun i hi => er i (by have := LW_lt i hi; omega))) ⟨fun a b c d e' f' => (hg a b c d e' f').trans (decide_eq_decide.mpr (by rw [er 0 (by omega)])), fun p a b => by rw [er _ (by omega)]; exact h.2 p a b⟩ (fu_gv hr hPr ⟨h2, by omega⟩ ⟨x, y⟩) h5
        exact ⟨σ', g1, g2, g3, g4, fun c j hc => by rw [g5 c j hc]; exact uL_o (Or.inl hc), g6⟩
      · rw [if_neg y, if_neg (fun z => y z.2)]
        exact ih σ r h3 hq h hr h5
theorem ec_all_4 {t : Nat} : ∀ (m f : Nat) (k : Int) (a : Int64), k + m = 4 → m < f → 0 ≤ k → ∃ v, F_Tb_allHands_4 t f a k σ = some (v, σ) ∧ ∀ c, hb v c = true ↔ hb a c = true ∨ ∃ q, k ≤ q ∧ q < 4 ∧ hb (σ.2.1 (t + 2) q) c = true
  | m, 0, _, _, _, h1, _ => absurd h1 (Nat.not_lt_zero m)
  | 0, f + 1, k, a, h0, h1, h2 => by
    refine ⟨a, ?_, fun c => ⟨Or.inl, fun z => ?_⟩⟩
    · rw [F_Tb_allHands_4, zt_ckI (by unfold zt_in; omega), if_neg (by omega)]
    · rcases z with z | ⟨q, z1, z2, _⟩
      · exact z
      · omega
  | m + 1, f + 1, k, a, h0, h1, h2 => by
    obtain ⟨v, g1, g2⟩ := ec_all_4 m f (k + 1) (a ||| σ.2.1 (t + 2) k) (by omega) (by omega) (by omega)
    refine ⟨v, ?_, fun c => ?_⟩
    · rw [F_Tb_allHands_4, zt_ckI (by unfold zt_in; omega), if_pos (by omega), zt_ckI (by omega)]
      exact g1
    · rw [g2, hb_or, Bool.or_eq_true]
      constructor
      · rintro ((z | z) | ⟨q, z1, z2, z3⟩)
        · exact Or.inl z
        · exact Or.inr ⟨k, by omega, by omega, z⟩
        · exact Or.inr ⟨q, by omega, z2, z3⟩
      · rintro (z | ⟨q, z1, z2, z3⟩)
        · exact Or.inl (Or.inl z)
        · by_cases e : q = k
          · exact Or.inl (Or.inr (e ▸ z3))
          · exact Or.inr ⟨q, by omega, z2, z3⟩
theorem ec_all (h : CH σ r) (hr : RH r) : ∃ v, F_Tb_allHands 130 σ = some (v, σ) ∧ (zt_lc v 0 = 0 ↔ ∀ c, 0 ≤ c → c < 52 → r (40 + c) = -1) := by
  have a := hr.1.1
  have a1 := hr.1.2.1
  obtain ⟨v, g1, g2⟩ := ec_all_4 (t := 130) (σ := σ) 4 zt_N 0 0 (by omega) (zN (by omega)) (by omega)
  refine ⟨v, g1, ?_⟩
  rw [zt_lc0]
  constructor
  · intro hv c h0 h1
    have d := hr.2.1 c h0 h1
    rcases Classical.em (r (40 + c) = -1) with z | z
    · exact z
    · have : hb v c = true := (g2 c).mpr (Or.inr ⟨r (40 + c), by omega, by omega, by rw [h.1 _ c (by omega) (by omega) h0 (by omega)]; exact decide_eq_true ⟨by omega, rfl⟩⟩)
      rw [hv, hb_0] at this
      exact absurd this (by decide)
  · intro hz
    refine hb_ext (fun c h0 h1 => ?_)
    rw [hb_0]
    rw [Bool.eq_false_iff]
    intro hv
    rcases (g2 c).mp hv with z | ⟨q, z1, z2, z3⟩
    · rw [hb_0] at z; exact absurd z (by decide)
    · rw [h.1 q c z1 z2 h0 h1, decide_eq_true_eq] at z3
      have := hz c h0 (by omega)
      omega
/-! how many are held -/
theorem cn_inj {Q : Int → Bool} : ∀ (v : Nat) (Q : Int → Bool), (∀ j, 0 ≤ j → j < (v : Int) → (0 ≤ P j ∧ P j < 52) ∧ Q (P j) = true) → (∀ i j, 0 ≤ i → i < j → j < (v : Int) → P i ≠ P j) → (v : Int) ≤ cn Q 0 52
  | 0, Q, _, _ => (cn_le Q 52 0).1
  | v + 1, Q, h, hi => by
    have hv := h v (by omega) (by omega)
    have ih := cn_inj (Q := Q) v (fun c => Q c && !decide (c = P v)) (fun j h0 h1 => by
      have := h j h0 (by omega)
      refine ⟨this.1, ?_⟩
      have ne := hi j v h0 h1 (by omega)
      simp [this.2, ne]) (fun i j h0 h1 h2 => hi i j h0 h1 (by omega))
    have e := cn_upd (P := Q) (Q := fun c => Q c && !decide (c = P v)) (j := P v) 52 0 (by omega) (by omega) (fun c _ _ h2 => by simp [h2])
    rw [e, if_pos hv.2] at ih
    simp at ih
    omega
theorem hc_sum (h : ∀ c, 0 ≤ c → c < 52 → -1 ≤ r (40 + c) ∧ r (40 + c) < 4) : wHc r 0 + wHc r 1 + wHc r 2 + wHc r 3 = cn (fun c => decide (¬ r (40 + c) = -1)) 0 52 := by
  have g : ∀ (m : Nat) (k : Int), 0 ≤ k → k + m ≤ 52 → cn (fun c => decide (r (40 + c) = 0)) k m + cn (fun c => decide (r (40 + c) = 1)) k m + cn (fun c => decide (r (40 + c) = 2)) k m + cn (fun c => decide (r (40 + c) = 3)) k m = cn (fun c => decide (¬ r (40 + c) = -1)) k m := by
    intro m
    induction m with
    | zero => intro k _ _; rfl
    | succ m ih =>
      intro k h0 h1
      have e := ih (k + 1) (by omega) (by omega)
      have d := h k h0 (by omega)
      simp only [cn, decide_eq_true_eq]
      by_cases b0 : r (40 + k) = 0
      · simp [b0] at e ⊢; omega
      · by_cases b1 : r (40 + k) = 1
        · simp [b1] at e ⊢; omega
        · by_cases b2 : r (40 + k) = 2
          · simp [b2] at e ⊢; omega
          · by_cases b3 : r (40 + k) = 3
            · simp [b3] at e ⊢; omega
            · have b4 : r (40 + k) = -1 := by omega
              simp [b4] at e ⊢; omega
  exact g 52 0 (by omega) (by omega)
theorem hc_out (hr : RH r) {q : Int} (hq : r 1 ≤ q) : wHc r q = 0 := by
  unfold wHc wHd
  exact cn_none _ _ (fun c h0 h1 => by
    have := hr.2.1 c h0 (by omega)
    exact decide_eq_false (by omega))
/-- some card is still free while a player lacks one -/
theorem fu_more (hr : RH r) (hP : PM (4 * r 0) P) {v : Int} (h0 : 0 ≤ v ∧ v ≤ 4 * r 0) (hv : ∀ j, 0 ≤ j → j < v → ¬ r (40 + P j) = -1) (hp : 0 ≤ p ∧ p < r 1) (hl : wHc r p < r 2) : v < 4 * r 0 := by
  have a := hr.1.1
  have a1 := hr.1.2.1
  have a2 := hr.1.2.2.1
  have a3 := hr.1.2.2.2.1
  have ci := cn_inj (P := P) (Q := fun c => decide (¬ r (40 + c) = -1)) v.toNat (fun c => decide (¬ r (40 + c) = -1)) (fun j h1 h2 => by
    have := hP.1 j h1 (by omega)
    exact ⟨by omega, decide_eq_true (hv j h1 (by omega))⟩) (fun i j h1 h2 h3 e => by
    have := hP.2 i j h1 (by omega) (by omega) (by omega) e
    omega)
  have sm := hc_sum (r := r) (fun c h1 h2 => by have := hr.2.1 c h1 h2; omega)
  have w0 := hr.2.2.2 0 (by omega) (by omega)
  have w1 := hr.2.2.2 1 (by omega) (by omega)
  have q : r 1 = 2 ∨ r 1 = 3 ∨ r 1 = 4 := by omega
  have pv : p = 0 ∨ p = 1 ∨ p = 2 ∨ p = 3 := by omega
  rcases q with q | q | q
  · have o2 := hc_out hr (q := 2) (by omega)
    have o3 := hc_out hr (q := 3) (by omega)
    rw [q] at a3
    rcases pv with e | e | e | e <;> subst e <;> omega
  · have w2 := hr.2.2.2 2 (by omega) (by omega)
    have o3 := hc_out hr (q := 3) (by omega)
    rw [q] at a3
    rcases pv with e | e | e | e <;> subst e <;> omega
  · have w2 := hr.2.2.2 2 (by omega) (by omega)
    have w3 := hr.2.2.2 3 (by omega) (by omega)
    rw [q] at a3
    rcases pv with e | e | e | e <;> subst e <;> omega
/-! the reference -/
/-- behind the cards up to v, the players before p are served -/
def FI (P : Int → Int) (R : Int) (v p : Int) (r : Int → Int) : Prop := RH r ∧ r 0 = R ∧ (0 ≤ v ∧ v ≤ 4 * R) ∧ (∀ j, 0 ≤ j → j < v → ¬ r (40 + P j) = -1) ∧ (∀ q, 0 ≤ q → q < p → wHc r q = r 2)
theorem em_comp_50 {R : Int} (hR : 4 ≤ R ∧ R ≤ 13) (hP : PM (4 * R) P) (K : Int → Int → zt_S → Option (Unit × zt_S)) (h5 : ∀ j, 0 ≤ j → j < 4 * R → τ.1 168 j = P j) : ∀ (m f : Nat) (v p n : Int) (r : Int → Int), v + m = 4 * R → m < f → 0 ≤ p → p < r 1 → n = r 2 - wHc r p → FI P R v p r → ∃ v' r', F_M_completes_50 K f v p n (rz 165 τ r) = K v' (p + 1) (rz 165 τ r') ∧ FI P R v' (p + 1) r' ∧ fu P m v r = fu P (4 * R - v').toNat v' r' ∧ (∀ i, (i < 40 ∨ 92 ≤ i) → r' i = r i)
  | m, 0, _, _, _, _, _, h1, _, _, _, _ => absurd h1 (Nat.not_lt_zero m)
  | m, f + 1, v, p, n, r, h0, h1, h2, h3, hn, hi => by
    obtain ⟨hr, e0, hv, hh, hf⟩ := hi
    have a1 := hr.1.2.1
    have a2 := hr.1.2.2.1
    have w := hr.2.2.2 p h2 h3
    have wl := cn_le (fun c => decide (wHd r c = p)) 52 0
    have wn : 0 ≤ wHc r p := wl.1
    have hPr : PM (4 * r 0) P := by rw [e0]; exact hP
    rw [F_M_completes_50, zt_ckI (by unfold zt_in; omega)]
    by_cases x : 0 < n
    · have lt := fu_more hr hPr (by rw [e0]; exact hv) hh ⟨h2, h3⟩ (by omega)
      have q := hP.1 v hv.1 (by omega)
      have d := hr.2.1 (P v) q.1 (by omega)
      have fp : fF r = p := fL_at (r 1).toNat 0 h2 (by omega) (fun y y0 y1 => by rw [hf y y0 y1]; omega) (by omega)
      rw [if_pos x, zt_ckI (by omega), rz_o (by decide), h5 v hv.1 (by omega), zt_ckI (by omega), rz_r, zt_ckI (by unfold zt_in; omega)]
      cases m with
      | zero => omega
      | succ m =>
        rw [fu]
        unfold F_M_completes_90
        by_cases y : r (40 + P v) = -1
        · have xy : ¬ fF r = -1 ∧ r (40 + P v) = -1 := ⟨by omega, y⟩
          have er : ∀ i, (i < 40 ∨ 92 ≤ i) → ru r (40 + P v) p i = r i := fun i hi => ru_o (by omega)
          have up := fun q' (hq' : 0 ≤ q') => hc_up (r := r) (p := p) (c := P v) (by omega) y h2 (q := q') hq'
          rw [if_pos y, if_pos xy, zt_ckI (by omega), zt_ckI (by omega), zt_letS, rz_up, fp]
          obtain ⟨v', r', g1, g2, g3, g4⟩ := em_comp_50 hR hP K h5 m f (v + 1) p (n + -1) (ru r (40 + P v) p) (by omega) (by omega) h2 (by rw [er 1 (by omega)]; exact h3) (by rw [er 2 (by omega), up p h2, if_pos rfl]; omega) ⟨hr.gv ⟨h2, h3⟩ ⟨q.1, by omega⟩ y (by omega), by rw [er 0 (by omega)]; exact e0, by omega, fun j j0 j1 => by
              by_cases ej : P j = P v
              · rw [ej, ru_s]; omega
              · rw [ru_o (by omega)]
                by_cases jv : j = v
                · exact absurd (by rw [jv]) ej
                · exact hh j j0 (by omega), fun q' q0 q1 => by rw [up q' q0, if_neg (by omega), er 2 (by omega), hf q' q0 q1]; omega⟩
          refine ⟨v', r', ?_, g2, g3, fun i hi => by rw [g4 i hi, er i hi]⟩
          exact g1
        · rw [if_neg y, if_neg (fun z => y z.2)]
          exact em_comp_50 hR hP K h5 m f (v + 1) p n r (by omega) (by omega) h2 h3 hn ⟨hr, e0, by omega, fun j j0 j1 => by
            by_cases jv : j = v
            · rw [jv]; exact y
            · exact hh j j0 (by omega), hf⟩
    · rw [if_neg x]
      refine ⟨v, r, rfl, ⟨hr, e0, hv, hh, fun q' q0 q1 => ?_⟩, by rw [show m = (4 * R - v).toNat by omega], fun _ _ => rfl⟩
      by_cases e : q' = p
      · rw [e]; omega
      · exact hf q' q0 (by omega)
theorem em_comp_23 {R : Int} (hR : 4 ≤ R ∧ R ≤ 13) (hP : PM (4 * R) P) (h5 : ∀ j, 0 ≤ j → j < 4 * R → τ.1 168 j = P j) : ∀ (m f : Nat) (v p : Int) (r : Int → Int), p + m = r 1 → m < f → 0 ≤ p → FI P R v p r → ∃ r', F_M_completes_23 f v p (rz 165 τ r) = some ((), rz 165 τ r') ∧ r' = fu P (4 * R - v).toNat v r ∧ RH r' ∧ (∀ i, (i < 40 ∨ 92 ≤ i) → r' i = r i) ∧ ∀ q, 0 ≤ q → q < r' 1 → wHc r' q = r' 2
  | m, 0, _, _, _, _, h1, _, _ => absurd h1 (Nat.not_lt_zero m)
  | 0, f + 1, v, p, r, h0, h1, h2, hi => by
    have a1 := hi.1.1.2.1
    refine ⟨r, ?_, ?_, hi.1, fun _ _ => rfl, fun q q0 q1 => hi.2.2.2.2 q q0 (by omega)⟩
    · rw [F_M_completes_23, rz_r, zt_ckI ⟨by unfold zt_in; omega, by unfold zt_in; omega⟩, if_neg (by omega)]
    · refine (fu_no (fL_no _ _ (fun q q0 q1 => ?_)) _ _).symm
      rw [hi.2.2.2.2 q q0 (by omega)]
      omega
  | m + 1, f + 1, v, p, r, h0, h1, h2, hi => by
    have a1 := hi.1.1.2.1
    have v1 := hi.2.2.1
    have hc := em_heldBy (σ := rz 165 τ r) (c1 := 165) (p := p) (by omega) (hi.1.hr (rz_r _ _ _))
    rw [F_M_completes_23, rz_r, zt_ckI ⟨by unfold zt_in; omega, by unfold zt_in; omega⟩, if_pos (by omega), hc, zt_bdS, rz_r]
    obtain ⟨v', r', g1, g2, g3, g4⟩ := em_comp_50 hR hP (F_M_completes_23 f) h5 (4 * R - v).toNat zt_N v p (r 2 - wHc r p) r (by omega) (zN (by omega)) h2 (by omega) rfl hi
    rw [g1]
    have v2 := g2.2.2.1
    obtain ⟨r2, k1, k2, k3, k4, k5⟩ := em_comp_23 hR hP h5 m f v' (p + 1) r' (by rw [g4 1 (by omega)]; omega) (by omega) (by omega) g2
    exact ⟨r2, k1, by rw [k2, g3], k3, fun i hi => by rw [k4 i hi, g4 i hi], k5⟩
end FS
