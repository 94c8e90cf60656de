/-! SURE: the class searches -/
def sLS (σ : zt_S) (w0 : Int → Int) : Prop := (0 ≤ σ.1 144 6 ∧ σ.1 144 6 ≤ 12) ∧ (∀ i, 0 ≤ i → i < σ.1 144 6 → (0 ≤ σ.1 146 i ∧ σ.1 146 i < 4 * w0 0) ∧ ¬ wHd w0 (σ.1 146 i) = -1) ∧ (∀ c, 0 ≤ c → c < 52 → ¬ wHd w0 c = -1 → ∃ i, 0 ≤ i ∧ i < σ.1 144 6 ∧ σ.1 146 i = c) ∧ ∀ i j, 0 ≤ i → i < j → j < σ.1 144 6 → σ.1 146 i < σ.1 146 j
/-- the held cards of a list as a number -/
def mk (ls w : Int → Int) : Nat → Int
  | 0 => 0
  | i + 1 => mk ls w i + (if wHd w (ls (i : Int)) = -1 then 0 else 2 ^ i)
def GL (w0 : Int → Int) (q : Int) (S : Int64) (σ : zt_S) : Prop := SUw σ 3 w0 ∧ σ.1 6 11 = w0 3 ∧ σ.1 6 12 = w0 6 ∧ σ.1 6 13 = w0 7 ∧ σ.1 144 7 = q ∧ σ.2.1 144 5 = S ∧ (∀ p c, 0 ≤ p → p < 4 → 0 ≤ c → c < 64 → hb (σ.2.1 8 p) c = decide (c < 4 * w0 0 ∧ wHd w0 c = p)) ∧ sLS σ w0
def pk (σ : zt_S) (w : Int → Int) : Int := 4 * mk (σ.1 146) w (σ.1 144 6).toNat + w 9
def MEM (w0 : Int → Int) (q : Int) (S : Int64) (σ : zt_S) : Prop := ∀ p, 0 ≤ p → p < 16384 → (zt_rs (σ.2.1 147 p) 20).toInt ≤ S.toInt ∧ (zt_rs (σ.2.1 147 p) 20 = S → ∀ u, 0 ≤ u → u ≤ 4 → 0 < nib (σ.2.1 147 p) (4 * u) → ∀ w, RM w0 w → wPl w = 0 → w 10 + 1 = u → pk σ w = p → nib (σ.2.1 147 p) (4 * u) = VV q w + 1)
def FG (d : Nat) (σ σ' : zt_S) : Prop := (∀ c j, (c ≤ 148 + d ∨ 160 < c) → (c ≠ 144 ∨ j ≠ 8) → σ'.1 c j = σ.1 c j) ∧ (0 < d → σ'.1 144 8 = σ.1 144 8) ∧ (∀ c j, c ≠ 147 → σ'.2.1 c j = σ.2.1 c j) ∧ σ'.2.2 = σ.2.2
def MK (w : Int → Int) (L : Int64) : Prop := ∀ c, 0 ≤ c → c < 64 → hb L c = decide (c < 4 * w 0 ∧ ¬ wHd w c = -1)
section SC
variable {w w' w0 : Int → Int} {q : Int} {S L : Int64} {σ τ : zt_S}
theorem FG.rf {d : Nat} : FG d σ σ := ⟨fun _ _ _ _ => rfl, fun _ => rfl, fun _ _ _ => rfl, rfl⟩
theorem FG.tr {d : Nat} {a b c : zt_S} (h : FG d a b) (g : FG d b c) : FG d a c := ⟨fun x j h1 h2 => by rw [g.1 x j h1 h2, h.1 x j h1 h2], fun z => by rw [g.2.1 z, h.2.1 z], fun x j hx => by rw [g.2.2.1 x j hx, h.2.2.1 x j hx], g.2.2.2.trans h.2.2.2⟩
theorem FG.up {d : Nat} (h : FG (d + 1) σ τ) : FG d σ τ := ⟨fun c j h1 h2 => h.1 c j (by omega) h2, fun _ => h.2.1 (by omega), h.2.2.1, h.2.2.2⟩
theorem sLS.fg {d : Nat} (h : sLS σ w0) (f : FG d σ τ) : sLS τ w0 := by
  have e6 : τ.1 144 6 = σ.1 144 6 := f.1 _ _ (by omega) (by omega)
  have ei : ∀ i, τ.1 146 i = σ.1 146 i := fun i => f.1 _ _ (by omega) (by omega)
  unfold sLS
  simp only [e6, ei]
  exact h
theorem GL.fg {d : Nat} (h : GL w0 q S σ) (f : FG d σ τ) : GL w0 q S τ := by
  obtain ⟨h1, h2, h3, h4, h5, h6, h7, h8⟩ := h
  refine ⟨?_, by rw [f.1 _ _ (by omega) (by omega)]; exact h2, by rw [f.1 _ _ (by omega) (by omega)]; exact h3, by rw [f.1 _ _ (by omega) (by omega)]; exact h4, by rw [f.1 _ _ (by omega) (by omega)]; exact h5, by rw [f.2.2.1 _ _ (by omega)]; exact h6, fun p c a b e g => by rw [f.2.2.1 _ _ (by omega)]; exact h7 p c a b e g, h8.fg f⟩
  unfold SUw at h1 ⊢
  rw [f.1 _ _ (by omega) (by omega), f.1 _ _ (by omega) (by omega), f.1 _ _ (by omega) (by omega), f.1 _ _ (by omega) (by omega)]
  exact h1
theorem pk_fg {d : Nat} (f : FG d σ τ) : pk τ w = pk σ w := by
  unfold pk
  rw [f.1 144 6 (by omega) (by omega), show τ.1 146 = σ.1 146 from funext fun j => f.1 146 j (by omega) (by omega)]
/-- nothing of the memory has changed -/
theorem MEM.ag (h : MEM w0 q S σ) (e1 : ∀ j, τ.1 146 j = σ.1 146 j) (e2 : τ.1 144 6 = σ.1 144 6) (e3 : ∀ p, τ.2.1 147 p = σ.2.1 147 p) : MEM w0 q S τ := by
  have ep : ∀ w, pk τ w = pk σ w := fun w => by
    unfold pk
    rw [e2, show τ.1 146 = σ.1 146 from funext e1]
  intro p p0 p1
  have := h p p0 p1
  rw [e3]
  simp only [ep]
  exact this
theorem mk_in (ls w : Int → Int) : ∀ i : Nat, 0 ≤ mk ls w i ∧ mk ls w i < 2 ^ i
  | 0 => ⟨Int.le_refl _, by rw [mk]; decide⟩
  | i + 1 => by
    have := mk_in ls w i
    rw [mk, Int.pow_succ]
    split <;> omega
theorem mk_inj {ls : Int → Int} : ∀ i : Nat, mk ls w i = mk ls w' i → ∀ j : Nat, j < i → (wHd w (ls (j : Int)) = -1 ↔ wHd w' (ls (j : Int)) = -1)
  | 0, _, _, h => absurd h (Nat.not_lt_zero _)
  | i + 1, h, j, hj => by
    have a := mk_in ls w i
    have b := mk_in ls w' i
    rw [mk, mk] at h
    by_cases x : wHd w (ls (i : Int)) = -1 <;> by_cases y : wHd w' (ls (i : Int)) = -1
    · rw [if_pos x, if_pos y] at h
      by_cases z : j = i
      · rw [z]; exact ⟨fun _ => y, fun _ => x⟩
      · exact mk_inj i (by omega) j (by omega)
    · rw [if_pos x, if_neg y] at h; omega
    · rw [if_neg x, if_pos y] at h; omega
    · rw [if_neg x, if_neg y] at h
      by_cases z : j = i
      · rw [z]; exact ⟨fun q => absurd q x, fun q => absurd q y⟩
      · exact mk_inj i (by omega) j (by omega)
theorem q_place : ∀ i : Nat, i < 12 → ∀ v : Nat, v < 2 ^ i → zt_or (v : Int) (zt_shl 1 (i : Int)) = ((v + 2 ^ i : Nat) : Int) := by decide +kernel
theorem e_placeOf {l : Int} (hl : sLS σ w0) (hm : MK w L) (h0 : w 0 = w0 0) (h13 : 4 ≤ w 0 ∧ w 0 ≤ 13) : ∀ (k f i : Nat), (i : Int) + k = σ.1 144 6 → k < f → F_SS_placeOf_6 f L l (mk (σ.1 146) w i) (i : Int) σ = some (4 * mk (σ.1 146) w (i + k) + l, σ)
  | k, 0, _, _, h1 => absurd h1 (Nat.not_lt_zero k)
  | 0, f + 1, i, h1, h2 => by
    obtain ⟨a1, a2, a3, a4⟩ := hl
    rw [F_SS_placeOf_6, zt_ckI ⟨by unfold zt_in; omega, by unfold zt_in; omega⟩, if_neg (by omega), Nat.add_zero, Int.mul_comm]
  | k + 1, f + 1, i, h1, h2 => by
    have ih := e_placeOf (l := l) hl hm h0 h13 k f (i + 1) (by omega) (by omega)
    obtain ⟨a1, a2, a3, a4⟩ := hl
    have x := a2 (i : Int) (by omega) (by omega)
    have m := mk_in (σ.1 146) w i
    have hx := hm (σ.1 146 (i : Int)) x.1.1 (by omega)
    rw [F_SS_placeOf_6, zt_ckI ⟨by unfold zt_in; omega, by unfold zt_in; omega⟩, if_pos (by omega), be_at (by omega) (by decide)]
    unfold F_SS_placeOf_40
    have e1 : ((i : Int) + 1) = ((i + 1 : Nat) : Int) := by omega
    rw [show i + (k + 1) = i + 1 + k by omega, ← ih, mk]
    by_cases z : wHd w (σ.1 146 (i : Int)) = -1
    · rw [be_has_f ⟨x.1.1, by omega⟩ (by rw [hx, decide_eq_true_eq]; exact fun y => y.2 z), zt_ckI (by decide), if_pos rfl, if_pos z, Int.add_zero, e1]
    · obtain ⟨v, hv⟩ := Int.eq_ofNat_of_zero_le m.1
      have p : v < 2 ^ i := by
        have := m.2
        rw [hv] at this
        have q : ((2 ^ i : Nat) : Int) = (2 : Int) ^ i := Int.natCast_pow 2 i
        omega
      rw [be_has_t ⟨x.1.1, by omega⟩ (by rw [hx, decide_eq_true_eq]; exact ⟨by omega, z⟩), zt_ckI (by decide), if_neg (by decide), if_neg z, hv, q_place i (by omega) v p, e1]
      have q : ((v + 2 ^ i : Nat) : Int) = (v : Int) + 2 ^ i := by rw [Int.natCast_add, Int.natCast_pow]; rfl
      rw [q]
theorem spk_in (hl : sLS σ w0) (h9 : 0 ≤ w 9 ∧ w 9 < 4) : 0 ≤ pk σ w ∧ pk σ w < 16384 := by
  have m := mk_in (σ.1 146) w (σ.1 144 6).toNat
  have p : (2 : Int) ^ (σ.1 144 6).toNat ≤ 4096 := by
    have := Nat.pow_le_pow_right (n := 2) (by decide) (show (σ.1 144 6).toNat ≤ 12 by have := hl.1; omega)
    have q := Int.ofNat_le.mpr this
    rw [Int.natCast_pow] at q
    exact q
  unfold pk
  omega
/-- the same key: the same value -/
theorem pk_ev (hl : sLS σ w0) (h : RM w0 w) (h' : RM w0 w') (p : wPl w = 0) (p' : wPl w' = 0) (e : pk σ w' = pk σ w) (h10 : w' 10 = w 10) : VV q w' = VV q w := by
  have n := h.1.n
  have n' := h'.1.n
  have a1 := h.2.1 1 (by omega) (by omega)
  have a1' := h'.2.1 1 (by omega) (by omega)
  unfold pk at e
  have e9 : w' 9 = w 9 := by omega
  have em : mk (σ.1 146) w (σ.1 144 6).toNat = mk (σ.1 146) w' (σ.1 144 6).toNat := by omega
  refine VV_ev (h.ev h' p p' (fun c c0 c1 => ?_) e9 h10) h.1 h'.1
  by_cases x : wHd w0 c = -1
  · have s := h.2.2.1 c c0 c1
    have s' := h'.2.2.1 c c0 c1
    exact ⟨fun _ => by rcases s' with z | z <;> omega, fun _ => by rcases s with z | z <;> omega⟩
  · obtain ⟨i, i0, i1, i2⟩ := hl.2.2.1 c c0 c1 x
    have j := mk_inj (w := w) (w' := w') (ls := σ.1 146) _ em i.toNat (by omega)
    rw [show ((i.toNat : Nat) : Int) = i by omega, i2] at j
    exact j
theorem e_recall {p s : Int} (hp : 0 ≤ p ∧ p < 16384) (hS : σ.2.1 144 5 = S) : F_SS_recall p s σ = some (if zt_rs (σ.2.1 147 p) 20 = S then nib (σ.2.1 147 p) s else 0, σ) := by
  unfold F_SS_recall F_SS_recall_30 nib
  rw [zt_ckI (by unfold zt_in; omega), if_neg (by omega), zt_ckI (by unfold zt_in; omega), if_pos (by omega), zt_ckI (by omega), hS]
  by_cases z : zt_rs (σ.2.1 147 p) 20 = S
  · rw [if_pos (zt_lc0.mpr z), zt_ckI (by omega), if_pos z]
  · rw [if_neg (fun y => z (zt_lc0.mp y)), if_neg z]
/-- what was found is remembered -/
theorem e_remember (hS : σ.2.1 144 5 = S) (hs : 0 ≤ S.toInt ∧ S.toInt < 2 ^ 40) (hl : sLS σ w0) (hm : MEM w0 q S σ) (h : RM w0 w) (hp : wPl w = 0) (hr : zt_rs (σ.2.1 147 (pk σ w)) 20 = S → nib (σ.2.1 147 (pk σ w)) (4 * (w 10 + 1)) = 0 ∨ nib (σ.2.1 147 (pk σ w)) (4 * (w 10 + 1)) = VV q w + 1) {d : Nat} : ∃ σ', F_SS_remember (pk σ w) (4 * (w 10 + 1)) (VV q w + 1) σ = some ((), σ') ∧ MEM w0 q S σ' ∧ FG d σ σ' ∧ σ'.1 = σ.1 := by
  have n := h.1.n
  have p13 := h.1.p13
  have v := VV_in (q := q) h.1
  have pl := h.1.pl
  have pr := spk_in (w := w) hl ⟨n.2.2.2.2.2.2.2.2.2.2.1.1, by omega⟩
  obtain ⟨k, hk⟩ : ∃ k, k = (if zt_rs (σ.2.1 147 (pk σ w)) 20 = S then σ.2.1 147 (pk σ w) else zt_ls S 20) := ⟨_, rfl⟩
  have kS : zt_rs k 20 = S := by
    rw [hk]
    by_cases z : zt_rs (σ.2.1 147 (pk σ w)) 20 = S
    · rw [if_pos z]; exact z
    · rw [if_neg z]; exact rs20_new hs
  have kn : nib k (4 * (w 10 + 1)) = 0 ∨ nib k (4 * (w 10 + 1)) = VV q w + 1 := by
    rw [hk]
    by_cases z : zt_rs (σ.2.1 147 (pk σ w)) 20 = S
    · rw [if_pos z]; exact hr z
    · rw [if_neg z]; exact Or.inl (nib_new (by omega))
  refine ⟨zt_uL σ 147 (pk σ w) (k ||| zt_ls (zt_l (VV q w + 1)) (4 * (w 10 + 1))), ?_, fun p p0 p1 => ?_, ⟨fun _ _ _ _ => rfl, fun _ => rfl, fun c j hc => uL_o (Or.inl hc), rfl⟩, rfl⟩
  · unfold F_SS_remember F_SS_remember_44
    rw [zt_ckI (by unfold zt_in; omega), if_neg (by omega), zt_ckI (by unfold zt_in; omega), if_pos (by omega), zt_ckI (by omega), hS]
    by_cases z : zt_rs (σ.2.1 147 (pk σ w)) 20 = S
    · rw [if_pos (zt_lc0.mpr z), zt_ckI (by omega), zt_ckI (by omega), zt_letS, hk, if_pos z]
    · rw [if_neg (fun y => z (zt_lc0.mp y)), zt_ckI (by omega), zt_letS, zt_ckI (by omega), zt_ckI (by omega), zt_letS, uL_s, hk, if_neg z]
      have e : zt_uL (zt_uL σ 147 (pk σ w) (zt_ls S 20)) 147 (pk σ w) (zt_ls S 20 ||| zt_ls (zt_l (VV q w + 1)) (4 * (w 10 + 1))) = zt_uL σ 147 (pk σ w) (zt_ls S 20 ||| zt_ls (zt_l (VV q w + 1)) (4 * (w 10 + 1))) := by
        unfold zt_uL
        congr 2
        funext c j
        by_cases y : c = 147 ∧ j = pk σ w
        · simp [y.1, y.2]
        · simp [y]
      rw [e]
  · have ep : ∀ u, pk (zt_uL σ 147 (pk σ w) (k ||| zt_ls (zt_l (VV q w + 1)) (4 * (w 10 + 1)))) u = pk σ u := fun _ => rfl
    by_cases z : p = pk σ w
    · subst z
      rw [uL_s, rs20_put (by omega) (by omega), kS]
      refine ⟨Int.le_refl _, fun _ u u0 u1 hu x hx hxp hx10 hxk => ?_⟩
      rw [ep] at hxk
      by_cases y : u = w 10 + 1
      · subst y
        rw [nib_put (by omega) (by omega) kn]
        rw [pk_ev hl h hx hp hxp hxk (by omega)]
      · rw [nib_oth (by omega) (by omega) (by omega) (by omega)] at hu ⊢
        rw [hk] at hu ⊢
        by_cases zz : zt_rs (σ.2.1 147 (pk σ w)) 20 = S
        · rw [if_pos zz] at hu ⊢
          exact (hm _ pr.1 pr.2).2 zz u u0 u1 hu x hx hxp hx10 hxk
        · rw [if_neg zz, nib_new (by omega)] at hu
          omega
    · rw [uL_o (Or.inr z)]
      have := hm p p0 p1
      simp only [ep]
      exact this
end SC
