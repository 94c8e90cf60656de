/-! THE SCRIPT'S HEADER -/
abbrev ZS : Type := (Int → Int) × PS
section HS
variable (B : Int → Int) (N : Int)
/-- a word and its number, put into the row -/
def wn (k : Nat) (lo hi j : Int) (z : ZS) : ZS := if pWb B N (q_big + 1 + k) z.2 = true then (ru z.1 j (pPv B N lo hi (pX B N z.2)), pNu B N lo hi (pX B N z.2)) else z
def wf (k : Nat) (j : Int) (z : ZS) : ZS := if pWb B N (q_big + 1 + k) z.2 = true then (ru z.1 j 1, pX B N z.2) else z
def mH (a b : Int) : Int := if 13 < 4 * a / b then 13 else 4 * a / b
def sz1 (s : PS) : PS := pNW B N (q_big + 1 + 0) s
def szA (s : PS) : Int := pPv B N 4 13 (sz1 B N s)
def sz2 (s : PS) : PS := pNu B N 4 13 (sz1 B N s)
def szB (s : PS) : Int := pPv B N 2 4 (sz2 B N s)
def sz3 (s : PS) : PS := pNu B N 2 4 (sz2 B N s)
def szC (s : PS) : Int := pPv B N 1 (mH (szA B N s) (szB B N s)) (sz3 B N s)
def sz4 (s : PS) : PS := pNu B N 1 (mH (szA B N s) (szB B N s)) (sz3 B N s)
def rBg (u : Int → Int) (a b c : Int) : Int → Int := rStart (ru (ru (ru (ru (ru (ru (ru (fl 0 274 0 u) 0 a) 1 b) 2 c) 3 1) 4 (-1)) 5 10) 6 2)
def trZ (z : ZS) : ZS := if pWb B N (q_big + 1 + 2) z.2 = true then wf B N 5 7 (wn B N 4 0 9 6 (wn B N 3 0 30 5 (ru z.1 4 (pPv B N 0 3 (pX B N z.2)), pNu B N 0 3 (pX B N z.2)))) else z
def zh1 (u : Int → Int) (s : PS) : ZS := wn B N 1 0 3 3 (rBg u (szA B N s) (szB B N s) (szC B N s), sz4 B N s)
def zh2 (u : Int → Int) (s : PS) : ZS := trZ B N (zh1 B N u s)
def zh3 (u : Int → Int) (s : PS) : ZS := wn B N 6 0 ((zh2 B N u s).1 1 - 1) 8 (zh2 B N u s)
def zh4 (u : Int → Int) (s : PS) : ZS := wn B N 7 0 99999 15 (zh3 B N u s)
def zh (u : Int → Int) (s : PS) : ZS := ((zh4 B N u s).1, pNS B N 59 (zh4 B N u s).2)
end HS
/-- what holds of the row that is read -/
def RR (r : Int → Int) : Prop := (4 ≤ r 0 ∧ r 0 ≤ 13) ∧ (2 ≤ r 1 ∧ r 1 ≤ 4) ∧ (1 ≤ r 2 ∧ r 2 ≤ 13) ∧ r 1 * r 2 ≤ 4 * r 0 ∧ (0 ≤ r 3 ∧ r 3 ≤ 3) ∧ (-1 ≤ r 4 ∧ r 4 ≤ 3) ∧ (0 ≤ r 5 ∧ r 5 ≤ 30) ∧ (0 ≤ r 6 ∧ r 6 ≤ 9) ∧ (0 ≤ r 7 ∧ r 7 ≤ 1) ∧ (0 ≤ r 8 ∧ r 8 < r 1) ∧ (0 ≤ r 15 ∧ r 15 ≤ 99999)
section HB
variable {B : Int → Int} {N : Int} {σ τ : zt_S} {s : PS} {r u : Int → Int} {z : ZS} {lo hi : Int}
theorem pF_ne {k : Int} (hk : k ≠ 0) : (pF B N k s).1 ≠ 0 := by
  unfold pF
  by_cases h : s.1 = 0
  · rw [if_pos h]; exact hk
  · rw [if_neg h]; exact h
theorem pF_f {k : Int} (h : ¬ s.1 = 0) : pF B N k s = s := if_neg h
theorem pPs_f (h : ¬ s.1 = 0) : pPs B N lo hi s = s := by
  unfold pPs
  rw [pF_f h, pF_f h]
  split
  · split <;> rfl
  · rfl
theorem pNu_f (h : ¬ s.1 = 0) : pNu B N lo hi s = s := by
  unfold pNu
  rw [pPs_f h, if_neg h]
theorem pWb_f {w : Nat} (h : ¬ s.1 = 0) : ¬ pWb B N w s = true := by
  unfold pWb
  rw [decide_eq_false h, Bool.false_and]
  decide
theorem pSb_f {b : Int} (h : ¬ s.1 = 0) : ¬ pSb B N b s = true := by
  unfold pSb
  rw [decide_eq_false h, Bool.false_and]
  decide
theorem pNS_f {b : Int} (h : ¬ s.1 = 0) : pNS B N b s = s := by
  unfold pNS
  rw [if_neg (pSb_f h), pF_f h]
theorem wn_f {k : Nat} {j : Int} (h : ¬ z.2.1 = 0) : wn B N k lo hi j z = z := by
  unfold wn
  rw [if_neg (pWb_f h)]
theorem trZ_f (h : ¬ z.2.1 = 0) : trZ B N z = z := by
  unfold trZ
  rw [if_neg (pWb_f h)]
theorem pPs_0 (h : (pPs B N lo hi s).1 = 0) : pPs B N lo hi s = s ∧ tK B N s.2.2 = 3 ∧ lo ≤ tN B N s.2.2 ∧ tN B N s.2.2 ≤ hi := by
  unfold pPs at h ⊢
  by_cases h3 : tK B N s.2.2 = 3
  · rw [if_pos h3] at h ⊢
    by_cases h4 : tN B N s.2.2 < lo ∨ hi < tN B N s.2.2
    · rw [if_pos h4] at h
      exact absurd h (pF_ne (by decide))
    · rw [if_neg h4]
      exact ⟨rfl, h3, by omega, by omega⟩
  · rw [if_neg h3] at h
    exact absurd h (pF_ne (by decide))
theorem pPv_in (h : lo ≤ hi) : lo ≤ pPv B N lo hi s ∧ pPv B N lo hi s ≤ hi := by
  unfold pPv
  by_cases h0 : (pPs B N lo hi s).1 = 0
  · have := (pPs_0 h0).2.2
    rw [if_pos h0]
    exact this
  · rw [if_neg h0]
    exact ⟨Int.le_refl _, h⟩
theorem mH_in {a b : Int} (ha : 4 ≤ a ∧ a ≤ 13) (hb : 2 ≤ b ∧ b ≤ 4) : 1 ≤ mH a b ∧ mH a b ≤ 13 ∧ b * mH a b ≤ 4 * a := by
  have q : b = 2 ∨ b = 3 ∨ b = 4 := by omega
  unfold mH
  rcases q with q | q | q <;> subst q <;> split <;> omega
theorem sz_in : (4 ≤ szA B N s ∧ szA B N s ≤ 13) ∧ (2 ≤ szB B N s ∧ szB B N s ≤ 4) ∧ (1 ≤ szC B N s ∧ szC B N s ≤ 13) ∧ szB B N s * szC B N s ≤ 4 * szA B N s := by
  have a : 4 ≤ szA B N s ∧ szA B N s ≤ 13 := pPv_in (by decide)
  have b : 2 ≤ szB B N s ∧ szB B N s ≤ 4 := pPv_in (by decide)
  have m := mH_in a b
  have c : 1 ≤ szC B N s ∧ szC B N s ≤ mH (szA B N s) (szB B N s) := pPv_in m.1
  refine ⟨a, b, by omega, ?_⟩
  have := Int.mul_le_mul_of_nonneg_left c.2 (show 0 ≤ szB B N s by omega)
  omega
theorem rBg_v {a b c : Int} : rBg u a b c 0 = a ∧ rBg u a b c 1 = b ∧ rBg u a b c 2 = c ∧ rBg u a b c 3 = 1 ∧ rBg u a b c 4 = -1 ∧ rBg u a b c 5 = 10 ∧ rBg u a b c 6 = 2 ∧ rBg u a b c 7 = 0 ∧ rBg u a b c 8 = 0 ∧ rBg u a b c 15 = 0 ∧ rBg u a b c 12 = 0 ∧ rBg u a b c 13 = 0 ∧ rBg u a b c 14 = 0 := by
  unfold rBg
  refine ⟨?_, ?_, ?_, ?_, ?_, ?_, ?_, ?_, ?_, ?_, rStart_v.2.1, rStart_v.2.2.1, ?_⟩ <;> rw [rStart_f (by omega)] <;> rfl
theorem rBg_r {a b c : Int} : (∀ i, 16 ≤ i → i < 20 → rBg u a b c i = -1) ∧ (∀ i, 20 ≤ i → i < 40 → rBg u a b c i = 0) ∧ (∀ i, 40 ≤ i → i < 92 → rBg u a b c i = -1) := by
  unfold rBg
  refine ⟨fun i h0 h1 => rStart_t (by omega), fun i h0 h1 => ?_, fun i h0 h1 => rStart_h (by omega)⟩
  by_cases h : i < 24
  · rw [rStart_f (by omega), ru_o (by omega), ru_o (by omega), ru_o (by omega), ru_o (by omega), ru_o (by omega), ru_o (by omega), ru_o (by omega), fl_i (by omega)]
  · exact rStart_l (by omega)
theorem rBg_R {a b c : Int} (ha : 4 ≤ a ∧ a ≤ 13) (hb : 2 ≤ b ∧ b ≤ 4) (hc : 1 ≤ c ∧ c ≤ 13) (h : b * c ≤ 4 * a) : RR (rBg u a b c) := by
  obtain ⟨v0, v1, v2, v3, v4, v5, v6, v7, v8, v15, _⟩ := rBg_v (u := u) (a := a) (b := b) (c := c)
  unfold RR
  rw [v0, v1, v2, v3, v4, v5, v6, v7, v8, v15]
  omega
theorem wn_o {k : Nat} {j i : Int} (hi' : i ≠ j) : (wn B N k lo hi j z).1 i = z.1 i := by
  unfold wn
  split
  · exact ru_o hi'
  · rfl
theorem wf_o {k : Nat} {j i : Int} (hi' : i ≠ j) : (wf B N k j z).1 i = z.1 i := by
  unfold wf
  split
  · exact ru_o hi'
  · rfl
theorem trZ_o {i : Int} (h : i < 4 ∨ 7 < i) : (trZ B N z).1 i = z.1 i := by
  unfold trZ
  split
  · rw [wf_o (by omega), wn_o (by omega), wn_o (by omega)]
    exact ru_o (by omega)
  · rfl
theorem wn_v {k : Nat} {j : Int} (h : lo ≤ hi) : (wn B N k lo hi j z).1 j = z.1 j ∨ (lo ≤ (wn B N k lo hi j z).1 j ∧ (wn B N k lo hi j z).1 j ≤ hi) := by
  unfold wn
  split
  · right
    dsimp only
    rw [ru_s]
    exact pPv_in h
  · left; rfl
theorem trZ_R (h : RR z.1) : RR (trZ B N z).1 := by
  have o := fun i hi => trZ_o (B := B) (N := N) (z := z) (i := i) hi
  obtain ⟨h0, h1, h2, h3, h4, h5, h6, h7, h8, h9, h15⟩ := h
  have main : (-1 ≤ (trZ B N z).1 4 ∧ (trZ B N z).1 4 ≤ 3) ∧ (0 ≤ (trZ B N z).1 5 ∧ (trZ B N z).1 5 ≤ 30) ∧ (0 ≤ (trZ B N z).1 6 ∧ (trZ B N z).1 6 ≤ 9) ∧ (0 ≤ (trZ B N z).1 7 ∧ (trZ B N z).1 7 ≤ 1) := by
    unfold trZ
    split
    · generalize hz1 : ((ru z.1 4 (pPv B N 0 3 (pX B N z.2)), pNu B N 0 3 (pX B N z.2)) : ZS) = z1
      have a4 : z1.1 4 = pPv B N 0 3 (pX B N z.2) := by rw [← hz1]; dsimp only; exact ru_s _ _ _
      have b4 := pPv_in (B := B) (N := N) (s := pX B N z.2) (show (0 : Int) ≤ 3 by decide)
      have a5 : z1.1 5 = z.1 5 := by rw [← hz1]; dsimp only; exact ru_o (by omega)
      have a6 : z1.1 6 = z.1 6 := by rw [← hz1]; dsimp only; exact ru_o (by omega)
      have a7 : z1.1 7 = z.1 7 := by rw [← hz1]; dsimp only; exact ru_o (by omega)
      have v5 := wn_v (B := B) (N := N) (k := 3) (j := 5) (z := z1) (show (0 : Int) ≤ 30 by decide)
      generalize hz2 : wn B N 3 0 30 5 z1 = z2 at v5 ⊢
      have c4 : z2.1 4 = z1.1 4 := by rw [← hz2]; exact wn_o (by omega)
      have c6 : z2.1 6 = z1.1 6 := by rw [← hz2]; exact wn_o (by omega)
      have c7 : z2.1 7 = z1.1 7 := by rw [← hz2]; exact wn_o (by omega)
      have v6 := wn_v (B := B) (N := N) (k := 4) (j := 6) (z := z2) (show (0 : Int) ≤ 9 by decide)
      generalize hz3 : wn B N 4 0 9 6 z2 = z3 at v6 ⊢
      have d4 : z3.1 4 = z2.1 4 := by rw [← hz3]; exact wn_o (by omega)
      have d5 : z3.1 5 = z2.1 5 := by rw [← hz3]; exact wn_o (by omega)
      have d7 : z3.1 7 = z2.1 7 := by rw [← hz3]; exact wn_o (by omega)
      rw [wf_o (by omega), wf_o (by omega), wf_o (by omega)]
      refine ⟨by omega, by omega, by omega, ?_⟩
      unfold wf
      split
      · dsimp only
        rw [ru_s]; omega
      · omega
    · exact ⟨h5, h6, h7, h8⟩
  unfold RR
  rw [o 0 (by omega), o 1 (by omega), o 2 (by omega), o 3 (by omega), o 8 (by omega), o 15 (by omega)]
  exact ⟨h0, h1, h2, h3, h4, main.1, main.2.1, main.2.2.1, main.2.2.2, h9, h15⟩
theorem zh_R : RR (zh1 B N u s).1 ∧ RR (zh2 B N u s).1 ∧ RR (zh3 B N u s).1 ∧ RR (zh4 B N u s).1 ∧ RR (zh B N u s).1 := by
  have si := sz_in (B := B) (N := N) (s := s)
  have k0 := rBg_R (u := u) si.1 si.2.1 si.2.2.1 si.2.2.2
  have k1 : RR (zh1 B N u s).1 := by
    unfold zh1
    generalize hz : ((rBg u (szA B N s) (szB B N s) (szC B N s), sz4 B N s) : ZS) = z0
    have k0' : RR z0.1 := by rw [← hz]; exact k0
    have v := wn_v (B := B) (N := N) (k := 1) (j := 3) (z := z0) (show (0 : Int) ≤ 3 by decide)
    unfold RR at k0' ⊢
    rw [wn_o (i := 0) (by omega), wn_o (i := 1) (by omega), wn_o (i := 2) (by omega), wn_o (i := 4) (by omega), wn_o (i := 5) (by omega), wn_o (i := 6) (by omega), wn_o (i := 7) (by omega), wn_o (i := 8) (by omega), wn_o (i := 15) (by omega)]
    omega
  have k2 : RR (zh2 B N u s).1 := trZ_R k1
  have k3 : RR (zh3 B N u s).1 := by
    unfold zh3
    generalize zh2 B N u s = z2 at k2
    unfold RR at k2 ⊢
    have v := wn_v (B := B) (N := N) (k := 6) (j := 8) (z := z2) (show (0 : Int) ≤ z2.1 1 - 1 by omega)
    rw [wn_o (i := 0) (by omega), wn_o (i := 1) (by omega), wn_o (i := 2) (by omega), wn_o (i := 3) (by omega), wn_o (i := 4) (by omega), wn_o (i := 5) (by omega), wn_o (i := 6) (by omega), wn_o (i := 7) (by omega), wn_o (i := 15) (by omega)]
    omega
  have k4 : RR (zh4 B N u s).1 := by
    unfold zh4
    generalize zh3 B N u s = z3 at k3
    unfold RR at k3 ⊢
    have v := wn_v (B := B) (N := N) (k := 7) (j := 15) (z := z3) (show (0 : Int) ≤ 99999 by decide)
    rw [wn_o (i := 0) (by omega), wn_o (i := 1) (by omega), wn_o (i := 2) (by omega), wn_o (i := 3) (by omega), wn_o (i := 4) (by omega), wn_o (i := 5) (by omega), wn_o (i := 6) (by omega), wn_o (i := 7) (by omega), wn_o (i := 8) (by omega)]
    omega
  exact ⟨k1, k2, k3, k4, k4⟩
theorem zh_f (h : ¬ (sz1 B N s).1 = 0) : (zh B N u s).2 = sz1 B N s := by
  have e2 : sz2 B N s = sz1 B N s := pNu_f h
  have e3 : sz3 B N s = sz1 B N s := by
    unfold sz3
    rw [e2]
    exact pNu_f h
  have e4 : sz4 B N s = sz1 B N s := by
    unfold sz4
    rw [e3]
    exact pNu_f h
  have f1 : (zh1 B N u s).2 = sz1 B N s := by
    unfold zh1
    rw [wn_f (by rw [e4]; exact h), e4]
  have f2 : (zh2 B N u s).2 = sz1 B N s := by
    unfold zh2
    rw [trZ_f (by rw [f1]; exact h), f1]
  have f3 : (zh3 B N u s).2 = sz1 B N s := by
    unfold zh3
    rw [wn_f (by rw [f2]; exact h), f2]
  have f4 : (zh4 B N u s).2 = sz1 B N s := by
    unfold zh4
    rw [wn_f (by rw [f3]; exact h), f3]
  unfold zh
  rw [f4]
  exact pNS_f h
/-! the class -/
def cC (i : Int) : Nat := if i ≤ 2 ∨ i = 5 then 129 else if i = 15 then 128 else 130
def cJ (i : Int) : Int := if i ≤ 2 then i else if i = 5 then 3 else if i = 15 then 4 else if i = 3 then 11 else if i = 6 then 12 else if i = 7 then 13 else if i = 4 then 14 else 15
def LW : List Int := [0, 1, 2, 3, 4, 5, 6, 7, 8, 15]
theorem cC_inj : ∀ i ∈ LW, ∀ k ∈ LW, i ≠ k → cC i ≠ cC k ∨ cJ i ≠ cJ k := by decide
theorem cC_lt : ∀ i ∈ LW, (128 ≤ cC i ∧ cC i ≤ 130) ∧ (cC i = 130 → 11 ≤ cJ i ∧ cJ i ≤ 15) := by decide
def CQ (L : List Int) (σ : zt_S) (r : Int → Int) : Prop := (∀ i ∈ L, i ∈ LW) ∧ ∀ i ∈ L, σ.1 (cC i) (cJ i) = r i
/-- what reading the header leaves alone -/
def FH (σ σ' : zt_S) : Prop := (∀ c j, c ≠ 2 → c ≠ 128 → c ≠ 129 → (c ≠ 130 ∨ j < 11 ∨ 15 < j) → σ'.1 c j = σ.1 c j) ∧ σ'.2 = σ.2
theorem FH.rf : FH σ σ := ⟨fun _ _ _ _ _ _ => rfl, rfl⟩
theorem FH.tr {a b c : zt_S} (h : FH a b) (g : FH b c) : FH a c := ⟨fun x j h1 h2 h3 h4 => by rw [g.1 x j h1 h2 h3 h4, h.1 x j h1 h2 h3 h4], g.2.trans h.2⟩
theorem FT2.h {σ' : zt_S} (h : FT2 σ σ') : FH σ σ' := ⟨fun c j h1 _ _ _ => h.1 c j (Or.inl h1), h.2⟩
theorem CQ.ft {L : List Int} {σ' : zt_S} (h : CQ L σ r) (f : FT2 σ σ') : CQ L σ' r := ⟨h.1, fun i hi => by
  have := (cC_lt i (h.1 i hi)).1
  rw [f.1 _ _ (by omega)]
  exact h.2 i hi⟩
theorem CQ.up {L : List Int} {j v : Int} (h : CQ L σ r) (hj : j ∈ LW) : CQ (j :: L) (zt_up σ (cC j) (cJ j) v) (ru r j v) := by
  refine ⟨fun i hi => ?_, fun i hi => ?_⟩
  · rcases List.mem_cons.mp hi with e | e
    · rw [e]; exact hj
    · exact h.1 i e
  · by_cases e : i = j
    · rw [e, up_s, ru_s]
    · rcases List.mem_cons.mp hi with e2 | e2
      · exact absurd e2 e
      · rw [up_o (cC_inj i (h.1 i e2) j hj e), ru_o e]
        exact h.2 i e2
theorem CQ.sub {L M : List Int} (h : CQ L σ r) (m : ∀ i ∈ M, i ∈ L) : CQ M σ r := ⟨fun i hi => h.1 i (m i hi), fun i hi => h.2 i (m i hi)⟩
theorem FH.up {j v : Int} (hj : j ∈ LW) : FH σ (zt_up σ (cC j) (cJ j) v) := by
  have c := cC_lt j hj
  refine ⟨fun x i h1 h2 h3 h4 => up_o ?_, rfl⟩
  omega
theorem CP.up {j v : Int} (h : CP B N σ s) (hj : j ∈ LW) : CP B N (zt_up σ (cC j) (cJ j) v) s := by
  have c := cC_lt j hj
  exact h.l (fun i => up_o (by omega)) (fun i _ _ => up_o (by omega))
theorem ec_wn {β : Type} {k : Nat} {j : Int} {c : Nat} {d : Int} {L : List Int} (hc : c = cC j) (hd : d = cJ j) (hj : j ∈ LW) (hjL : j ∈ L) (hk : k < 10) (hl : 0 ≤ lo ∧ lo < 1000000) (hh : -1 ≤ hi ∧ hi < 1000000) (h : CP B N σ z.2) (hq : CQ L σ z.1) (K : zt_S → Option β) : ∃ σ', (zt_bd (F_Tk_takeWord (q_big + 1 + k) σ) fun a s2 => zt_ck (zt_in a) <| if a = (0 : Int) then K s2 else zt_bd (F_Tk_takeNumber lo hi s2) fun v s3 => zt_let (zt_up s3 c d v) fun s4 => K s4) = K σ' ∧ CP B N σ' (wn B N k lo hi j z).2 ∧ CQ L σ' (wn B N k lo hi j z).1 ∧ FH σ σ' := by
  subst hc hd
  obtain ⟨σ1, g1, g2, g3⟩ := e_takeWord hk h
  unfold pWd at g2
  unfold wn
  rw [g1, zt_bdS]
  by_cases hw : pWb B N (q_big + 1 + k) z.2 = true
  · rw [if_pos hw] at g2
    obtain ⟨σ2, k1, k2, k3⟩ := e_take (lo := lo) (hi := hi) g2 hl hh
    rw [if_pos hw, zt_ckI (by decide), if_neg (by decide), if_pos hw, k1, zt_bdS, zt_letS]
    exact ⟨_, rfl, k2.up hj, (((hq.ft g3).ft k3).up hj).sub (fun i hi => List.mem_cons_of_mem _ hi), (g3.h.tr k3.h).tr (FH.up hj)⟩
  · rw [if_neg hw] at g2
    rw [if_neg hw, zt_ckI (by decide), if_pos rfl, if_neg hw]
    exact ⟨σ1, rfl, g2, hq.ft g3, g3.h⟩
theorem ec_sizes (h : CP B N σ s) (hq : CQ [3, 4, 6, 7, 8] σ (rBg u (szA B N s) (szB B N s) (szC B N s))) : ∃ σ', F_TR_readSizes σ = some ((), σ') ∧ CP B N σ' (zh1 B N u s).2 ∧ CQ [0, 1, 2, 3, 4, 6, 7, 8] σ' (zh1 B N u s).1 ∧ FH σ σ' := by
  have si := sz_in (B := B) (N := N) (s := s)
  have mh := mH_in si.1 si.2.1
  obtain ⟨v0, v1, v2, v3⟩ := rBg_v (u := u) (a := szA B N s) (b := szB B N s) (c := szC B N s)
  obtain ⟨σ1, a1, a2, a3⟩ := e_needWord (k := 0) (by decide) h
  obtain ⟨σ2, b1, b2, b3⟩ := e_take (lo := 4) (hi := 13) a2 (by decide) (by decide)
  have b4 := b2.up (v := szA B N s) (show (0 : Int) ∈ LW by decide)
  obtain ⟨σ3, c1, c2, c3⟩ := e_take (lo := 2) (hi := 4) b4 (by decide) (by decide)
  have c4 := c2.up (v := szB B N s) (show (1 : Int) ∈ LW by decide)
  obtain ⟨σ4, d1, d2, d3⟩ := e_take (lo := 1) (hi := mH (szA B N s) (szB B N s)) c4 (by decide) (by omega)
  have d4 := d2.up (v := szC B N s) (show (2 : Int) ∈ LW by decide)
  have q2 := ((hq.ft a3).ft b3).up (v := szA B N s) (show (0 : Int) ∈ LW by decide)
  have q3 := (q2.ft c3).up (v := szB B N s) (show (1 : Int) ∈ LW by decide)
  have q4 := (q3.ft d3).up (v := szC B N s) (show (2 : Int) ∈ LW by decide)
  have er : ru (ru (ru (rBg u (szA B N s) (szB B N s) (szC B N s)) 0 (szA B N s)) 1 (szB B N s)) 2 (szC B N s) = rBg u (szA B N s) (szB B N s) (szC B N s) := by
    funext i
    unfold ru
    by_cases i2 : i = 2
    · rw [if_pos i2, i2, v2]
    · rw [if_neg i2]
      by_cases i1 : i = 1
      · rw [if_pos i1, i1, v1]
      · rw [if_neg i1]
        by_cases i0 : i = 0
        · rw [if_pos i0, i0, v0]
        · rw [if_neg i0]
  rw [er] at q4
  have m : F_Su_mostHeld 129 (zt_up σ3 129 1 (szB B N s)) = some (mH (szA B N s) (szB B N s), zt_up σ3 129 1 (szB B N s)) := by
    have x0 : σ3.1 129 0 = szA B N s := by
      rw [c3.1 _ _ (by omega)]
      exact up_s _ _ _ _
    have y1 : (zt_up σ3 129 1 (szB B N s)).1 129 1 = szB B N s := up_s _ _ _ _
    have y0 : (zt_up σ3 129 1 (szB B N s)).1 129 0 = szA B N s := by rw [up_o (by omega)]; exact x0
    have q0 := Int.ediv_le_self (a := 4 * szA B N s) (szB B N s) (by omega)
    have q1 := Int.ediv_nonneg (a := 4 * szA B N s) (b := szB B N s) (by omega) (by omega)
    unfold F_Su_mostHeld
    rw [y1, zt_ckI (by unfold zt_in; omega), if_pos (by omega), e_cardCount, zt_bdS, y0, y1, zt_ckI (by omega), zt_ckI (by unfold zt_in; omega)]
    rfl
  obtain ⟨σ5, e1, e2, e3, e4⟩ := ec_wn (k := 1) (lo := 0) (hi := 3) (j := 3) (c := 130) (d := 11) (L := [2, 1, 0, 3, 4, 6, 7, 8]) (z := (rBg u (szA B N s) (szB B N s) (szC B N s), sz4 B N s)) (by decide) (by decide) (by decide) (by decide) (by decide) (by decide) (by decide) d4 q4 F_TR_readSizes_92
  refine ⟨σ5, ?_, e2, e3.sub (by decide), ?_⟩
  · unfold F_TR_readSizes
    rw [a1, zt_bdS, b1, zt_bdS, zt_letS]
    show (zt_bd (F_Tk_takeNumber 2 4 (zt_up σ2 129 0 (szA B N s))) _) = _
    rw [show F_Tk_takeNumber 2 4 (zt_up σ2 129 0 (szA B N s)) = _ from c1, zt_bdS, zt_letS]
    show (zt_bd (F_Su_mostHeld 129 (zt_up σ3 129 1 (szB B N s))) _) = _
    rw [m, zt_bdS, show F_Tk_takeNumber 1 (mH (szA B N s) (szB B N s)) (zt_up σ3 129 1 (szB B N s)) = _ from d1, zt_bdS, zt_letS]
    exact e1
  · exact (((((a3.h.tr b3.h).tr (FH.up (by decide))).tr c3.h).tr (FH.up (by decide))).tr d3.h).tr ((FH.up (by decide)).tr e4)
theorem ec_trump {L : List Int} (h : CP B N σ z.2) (hq : CQ [0, 1, 2, 3, 4, 6, 7, 8] σ z.1) (h5 : z.1 5 = 10) (h7 : z.1 7 = 0) : ∃ σ', F_TR_readTrump σ = some ((), σ') ∧ CP B N σ' (trZ B N z).2 ∧ CQ [0, 1, 2, 3, 4, 5, 6, 7, 8] σ' (trZ B N z).1 ∧ FH σ σ' := by
  have q0 := hq.up (v := 10) (show (5 : Int) ∈ LW by decide)
  have er : ru z.1 5 10 = z.1 := funext fun i => by
    unfold ru
    by_cases i5 : i = 5
    · rw [if_pos i5, i5, h5]
    · rw [if_neg i5]
  rw [er] at q0
  have h0 := h.up (v := 10) (show (5 : Int) ∈ LW by decide)
  have f0 := FH.up (σ := σ) (v := 10) (show (5 : Int) ∈ LW by decide)
  obtain ⟨σ1, a1, a2, a3⟩ := e_takeWord (k := 2) (by decide) h0
  have a1' : F_Tk_takeWord (q_big + 1 + 2) (zt_up σ 129 3 10) = _ := a1
  unfold F_TR_readTrump
  rw [zt_letS, a1', zt_bdS]
  unfold pWd at a2
  unfold trZ
  by_cases hw : pWb B N (q_big + 1 + 2) z.2 = true
  · rw [if_pos hw] at a2
    obtain ⟨σ2, b1, b2, b3⟩ := e_take (lo := 0) (hi := 3) a2 (by decide) (by decide)
    have b4 := b2.up (v := pPv B N 0 3 (pX B N z.2)) (show (4 : Int) ∈ LW by decide)
    have q1 := ((q0.ft a3).ft b3).up (v := pPv B N 0 3 (pX B N z.2)) (show (4 : Int) ∈ LW by decide)
    generalize hz1 : ((ru z.1 4 (pPv B N 0 3 (pX B N z.2)), pNu B N 0 3 (pX B N z.2)) : ZS) = z1
    have b5 : CP B N (zt_up σ2 130 14 (pPv B N 0 3 (pX B N z.2))) z1.2 := by rw [← hz1]; exact b4
    have q2 : CQ [4, 5, 0, 1, 2, 3, 4, 6, 7, 8] (zt_up σ2 130 14 (pPv B N 0 3 (pX B N z.2))) z1.1 := by rw [← hz1]; exact q1
    have z17 : z1.1 7 = 0 := by rw [← hz1]; dsimp only; rw [ru_o (by omega)]; exact h7
    obtain ⟨σ3, c1, c2, c3, c4⟩ := ec_wn (k := 3) (lo := 0) (hi := 30) (j := 5) (c := 129) (d := 3) (by decide) (by decide) (by decide) (by decide) (by decide) (by decide) (by decide) b5 q2 F_TR_readTrump_67
    obtain ⟨σ4, d1, d2, d3, d4⟩ := ec_wn (k := 4) (lo := 0) (hi := 9) (j := 6) (c := 130) (d := 12) (by decide) (by decide) (by decide) (by decide) (by decide) (by decide) (by decide) c2 c3 F_TR_readTrump_96
    obtain ⟨σ5, e1, e2, e3⟩ := e_takeWord (k := 5) (by decide) d2
    rw [if_pos hw, zt_ckI (by decide), if_neg (by decide), b1, zt_bdS, zt_letS, if_pos hw]
    have f5 := ((((f0.tr a3.h).tr b3.h).tr (FH.up (σ := σ2) (v := pPv B N 0 3 (pX B N z.2)) (show (4 : Int) ∈ LW by decide))).tr (c4.tr d4)).tr e3.h
    have z37 : (wn B N 4 0 9 6 (wn B N 3 0 30 5 z1)).1 7 = 0 := by rw [wn_o (by omega), wn_o (by omega)]; exact z17
    have d1' : F_TR_readTrump_67 σ3 = F_TR_readTrump_96 σ4 := d1
    refine ⟨zt_up σ5 130 13 (if pWb B N (q_big + 1 + 5) (wn B N 4 0 9 6 (wn B N 3 0 30 5 z1)).2 = true then 1 else 0), ?_, ?_, ?_, f5.tr (FH.up (j := 7) (by decide))⟩
    · refine c1.trans ?_
      rw [d1']
      unfold F_TR_readTrump_96
      rw [e1, zt_bdS, zt_ckI (by split <;> decide)]
      rfl
    · have := e2.up (v := (if pWb B N (q_big + 1 + 5) (wn B N 4 0 9 6 (wn B N 3 0 30 5 z1)).2 = true then 1 else 0)) (show (7 : Int) ∈ LW by decide)
      unfold pWd at this
      unfold wf
      split at this
      · rename_i hx; rw [if_pos hx, if_pos hx]; exact this
      · rename_i hx; rw [if_neg hx, if_neg hx]; exact this
    · have := ((d3.ft e3).up (v := (if pWb B N (q_big + 1 + 5) (wn B N 4 0 9 6 (wn B N 3 0 30 5 z1)).2 = true then 1 else 0)) (show (7 : Int) ∈ LW by decide)).sub (M := [0, 1, 2, 3, 4, 5, 6, 7, 8]) (by decide)
      unfold wf
      by_cases hx : pWb B N (q_big + 1 + 5) (wn B N 4 0 9 6 (wn B N 3 0 30 5 z1)).2 = true
      · rw [if_pos hx]; rw [if_pos hx] at this ⊢; exact this
      · rw [if_neg hx]; rw [if_neg hx] at this ⊢
        have er2 : ru (wn B N 4 0 9 6 (wn B N 3 0 30 5 z1)).1 7 0 = (wn B N 4 0 9 6 (wn B N 3 0 30 5 z1)).1 := funext fun i => by
          by_cases i7 : i = 7
          · rw [i7, ru_s, z37]
          · rw [ru_o i7]
        rw [er2] at this
        exact this
  · rw [if_neg hw] at a2
    rw [if_neg hw, zt_ckI (by decide), if_pos rfl, if_neg hw]
    exact ⟨σ1, rfl, a2, (q0.ft a3).sub (by decide), f0.tr a3.h⟩
theorem ec_start (h : CP B N σ z.2) (hq : CQ [0, 1, 2, 3, 4, 5, 6, 7, 8] σ z.1) (h15 : z.1 15 = 0) (h1 : 2 ≤ z.1 1 ∧ z.1 1 ≤ 4) : ∃ σ', F_TR_readStart σ = some ((), σ') ∧ CP B N σ' (pNS B N 59 (wn B N 7 0 99999 15 (wn B N 6 0 (z.1 1 - 1) 8 z)).2) ∧ CQ LW σ' (wn B N 7 0 99999 15 (wn B N 6 0 (z.1 1 - 1) 8 z)).1 ∧ FH σ σ' := by
  have q0 := hq.up (v := 0) (show (15 : Int) ∈ LW by decide)
  have er : ru z.1 15 0 = z.1 := funext fun i => by
    by_cases i5 : i = 15
    · rw [i5, ru_s, h15]
    · rw [ru_o i5]
  rw [er] at q0
  have h0 := h.up (v := 0) (show (15 : Int) ∈ LW by decide)
  have f0 := FH.up (σ := σ) (v := 0) (show (15 : Int) ∈ LW by decide)
  have x1 : ∀ σ1, FT2 (zt_up σ 128 4 0) σ1 → σ1.1 129 1 = z.1 1 := fun σ1 f => by
    rw [f.1 _ _ (by omega)]
    exact q0.2 1 (by decide)
  -- the first word: its bound is read from the state
  obtain ⟨σ1, a1, a2, a3, a4⟩ := ec_wn (k := 6) (lo := 0) (hi := z.1 1 - 1) (j := 8) (c := 130) (d := 15) (by decide) (by decide) (by decide) (by decide) (by decide) (by decide) (by omega) h0 q0 F_TR_readStart_41
  obtain ⟨σ2, b1, b2, b3, b4⟩ := ec_wn (k := 7) (lo := 0) (hi := 99999) (j := 15) (c := 128) (d := 4) (by decide) (by decide) (by decide) (by decide) (by decide) (by decide) (by decide) a2 a3 F_TR_readStart_67
  obtain ⟨σ3, c1, c2, c3⟩ := e_needSign (b := 59) b2 (by decide)
  refine ⟨σ3, ?_, c2, (b3.ft c3).sub (by decide), ((f0.tr a4).tr b4).tr c3.h⟩
  have b1' : F_TR_readStart_41 σ1 = F_TR_readStart_67 σ2 := b1
  have last : F_TR_readStart_67 σ2 = some ((), σ3) := by
    unfold F_TR_readStart_67
    rw [c1, zt_bdS]
  rw [← last, ← b1', ← a1]
  unfold F_TR_readStart
  rw [zt_letS]
  obtain ⟨σ4, d1, d2, d3⟩ := e_takeWord (k := 6) (by decide) h0
  have d1' : F_Tk_takeWord (q_big + 1 + 6) (zt_up σ 128 4 0) = _ := d1
  have d1'' : F_Tk_takeWord (q_big + 1 + 6) (zt_up σ (cC 15) (cJ 15) 0) = _ := d1
  rw [d1', d1'', zt_bdS, zt_bdS, x1 σ4 d3]
end HB
