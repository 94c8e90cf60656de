/-! A QUERY READ: the steps, the latest first -/
abbrev ST : Type := Int × Int × Int
abbrev QY : Type := List ST × PS
section QS
variable (B : Int → Int) (N : Int)
def pp (s : PS) : Int :=
  if isW B N s.2.2 (q_big + 1 + 13) = true then -1 else if isW B N s.2.2 (q_big + 1 + 14) = true then -2 else if isW B N s.2.2 (q_big + 1 + 15) = true then -3 else if isW B N s.2.2 (q_big + 1 + 16) = true then -4 else if isW B N s.2.2 (q_big + 1 + 17) = true then -5 else if isW B N s.2.2 (q_big + 1 + 18) = true then -6 else if isW B N s.2.2 (q_big + 1 + 19) = true then -7 else if isW B N s.2.2 (q_big + 1 + 20) = true then -8 else 0
def vlV (s : PS) : Int := if tK B N s.2.2 = 3 then pPv B N 0 9999 s else pp B N s
def vlS (s : PS) : PS := if tK B N s.2.2 = 3 then pNu B N 0 9999 s else if pp B N s = 0 then pF B N 1 s else if s.1 = 0 then pX B N s else s
def sgV (s : PS) : Int := if pSb B N 60 s = true then 60 else if pSb B N 62 s = true then 62 else 61
def sgS (s : PS) : PS := if pSb B N 60 s = true then pX B N s else if pSb B N 62 s = true then pX B N s else if pSb B N 61 s = true then pX B N s else pF B N 1 s
def cmE (s : PS) : ST := (sgV B N (vlS B N s), vlV B N s, vlV B N (sgS B N (vlS B N s)))
def cmS (s : PS) : PS := vlS B N (sgS B N (vlS B N s))
def aOr (b : Bool) (E : List ST) : List ST := if b = true then (3, 0, 0) :: E else E
def lpQ (w : Int → QY → QY) (o : Int) : Nat → Bool → QY → QY
  | 0, b, y => (aOr b y.1, y.2)
  | m + 1, b, y =>
    if ¬ y.2.1 = 0 then (aOr b y.1, y.2)
    else if pWb B N (q_big + 1 + 21) y.2 = true then lpQ w o m b ((2, 0, 0) :: (w o (y.1, pX B N y.2)).1, (w o (y.1, pX B N y.2)).2)
    else if pWb B N (q_big + 1 + 22) y.2 = true then lpQ w o m true (w o (aOr b y.1, pX B N y.2))
    else (aOr b y.1, y.2)
def tsQ (w : Int → QY → QY) (o : Int) (y : QY) : QY := lpQ B N w o 200 false (w o y)
def faQ : Nat → Int → QY → QY
  | 0, _, y => (y.1, pF B N 1 y.2)
  | n + 1, o, y =>
    if 6 ≤ o ∧ (isW B N y.2.2.2 (q_big + 1 + 12) = true ∨ (tK B N y.2.2.2 = 4 ∧ B (tS B N y.2.2.2) = 40)) then (y.1, pF B N 3 y.2)
    else if pWb B N (q_big + 1 + 12) y.2 = true then ((1, 0, 0) :: (faQ n (o + 1) (y.1, pX B N y.2)).1, (faQ n (o + 1) (y.1, pX B N y.2)).2)
    else if pSb B N 40 y.2 = true then ((tsQ B N (faQ n) (o + 1) (y.1, pX B N y.2)).1, pNS B N 41 (tsQ B N (faQ n) (o + 1) (y.1, pX B N y.2)).2)
    else (cmE B N y.2 :: y.1, cmS B N y.2)
end QS
/-- the steps as the class keeps them -/
def SC (σ : zt_S) : List ST → Prop
  | [] => True
  | x :: T => ((T.length : Int) < 200 → σ.1 141 (T.length : Int) = x.1 ∧ σ.1 142 (T.length : Int) = x.2.1 ∧ σ.1 143 (T.length : Int) = x.2.2) ∧ SC σ T
def QC (B : Int → Int) (N : Int) (σ : zt_S) (y : QY) : Prop := CP B N σ y.2 ∧ σ.1 140 4 = (y.1.length : Int) ∧ SC σ y.1
/-- what reading a query leaves alone -/
def FQ (σ σ' : zt_S) : Prop := (∀ c j, c ≠ 2 → c ≠ 141 → c ≠ 142 → c ≠ 143 → (c ≠ 140 ∨ j ≠ 4) → σ'.1 c j = σ.1 c j) ∧ σ'.2 = σ.2
section QB
variable {B : Int → Int} {N : Int} {σ τ : zt_S} {s : PS} {y : QY}
theorem FQ.rf : FQ σ σ := ⟨fun _ _ _ _ _ _ _ => rfl, rfl⟩
theorem FQ.tr {a b c : zt_S} (h : FQ a b) (g : FQ b c) : FQ a c := ⟨fun x j h1 h2 h3 h4 h5 => by rw [g.1 x j h1 h2 h3 h4 h5, h.1 x j h1 h2 h3 h4 h5], g.2.trans h.2⟩
theorem FT2.q {σ' : zt_S} (h : FT2 σ σ') : FQ σ σ' := ⟨fun c j h1 _ _ _ _ => h.1 c j (Or.inl h1), h.2⟩
theorem SC.ag {σ' : zt_S} (e : ∀ c j, 141 ≤ c → c ≤ 143 → j < 200 → σ'.1 c j = σ.1 c j) : ∀ (L : List ST), SC σ L → SC σ' L
  | [], _ => trivial
  | x :: T, h => ⟨fun z => by rw [e _ _ (by decide) (by decide) z, e _ _ (by decide) (by decide) z, e _ _ (by decide) (by decide) z]; exact h.1 z, SC.ag e T h.2⟩
theorem QC.ft {σ' : zt_S} {s' : PS} (h : QC B N σ y) (f : FT2 σ σ') (g : CP B N σ' s') : QC B N σ' (y.1, s') :=
  ⟨g, by rw [f.1 _ _ (Or.inl (by decide))]; exact h.2.1, SC.ag (fun c j a b _ => f.1 c j (Or.inl (by omega))) _ h.2.2⟩
/-- a step is put behind -/
theorem e_setq {c : Nat} {j v : Int} (hj : 0 ≤ j ∧ j < 100000) : F_Rw_set c 200 j v σ = some ((), if j < 200 then zt_up σ c j v else σ) := by
  unfold F_Rw_set F_Rw_set_14
  rw [zt_ckI (by unfold zt_in; omega), if_neg (by omega), zt_ckI ⟨by unfold zt_in; omega, by unfold zt_in; omega⟩]
  by_cases h : j < 200
  · rw [if_pos (by omega), zt_ckI (by omega), zt_letS, if_pos h]
  · rw [if_neg (by omega), if_neg h]
theorem SC.put {v : Int → Int → Int} : ∀ (L : List ST) (n : Int), (L.length : Int) ≤ n → (∀ c j, 141 ≤ c → c ≤ 143 → j < n → τ.1 c j = σ.1 c j) → SC σ L → SC τ L
  | [], _, _, _, _ => trivial
  | x :: T, n, h0, e, h => by
    have l : ((x :: T).length : Int) = (T.length : Int) + 1 := by simp
    refine ⟨fun z => ?_, SC.put (v := v) T n (by omega) e h.2⟩
    rw [e _ _ (by decide) (by decide) (by omega), e _ _ (by decide) (by decide) (by omega), e _ _ (by decide) (by decide) (by omega)]
    exact h.1 z
theorem e_add {x : ST} (h : QC B N σ y) (hl : (y.1.length : Int) < 50000) : ∃ σ', F_QR_add x.1 x.2.1 x.2.2 σ = some ((), σ') ∧ QC B N σ' (x :: y.1, y.2) ∧ FQ σ σ' := by
  obtain ⟨h1, h2, h3⟩ := h
  obtain ⟨n, hn⟩ : ∃ n : Int, n = (y.1.length : Int) := ⟨_, rfl⟩
  rw [← hn] at h2 hl
  have n0 : 0 ≤ n := by omega
  have l : ((x :: y.1).length : Int) = n + 1 := by simp [hn]
  by_cases hs : n < 200
  · refine ⟨zt_up (zt_up (zt_up (zt_up σ 141 n x.1) 142 n x.2.1) 143 n x.2.2) 140 4 (n + 1), ?_, ⟨?_, ?_, ?_, ?_⟩, ?_, rfl⟩
    · unfold F_QR_add
      rw [h2, e_setq ⟨n0, by omega⟩, if_pos hs, zt_bdS, up_o (Or.inl (by decide)), h2, e_setq ⟨n0, by omega⟩, if_pos hs, zt_bdS, up_o (Or.inl (by decide)), up_o (Or.inl (by decide)), h2, e_setq ⟨n0, by omega⟩, if_pos hs, zt_bdS, up_o (Or.inl (by decide)), up_o (Or.inl (by decide)), up_o (Or.inl (by decide)), h2, zt_letS]
    · exact h1.l (fun j => by simp (disch := omega) only [up_o]) (fun j _ _ => by simp (disch := omega) only [up_o])
    · rw [up_s, l]
    · intro z
      rw [← hn]
      refine ⟨?_, ?_, ?_⟩ <;> simp (disch := omega) only [up_o, up_s]
    · exact SC.put (v := fun _ _ => 0) y.1 n (by omega) (fun c j _ _ hj => by simp (disch := omega) only [up_o]) h3
    · intro c j c1 c2 c3 c4 c5
      rw [up_o (by omega), up_o (by omega), up_o (by omega), up_o (by omega)]
  · refine ⟨zt_up σ 140 4 (n + 1), ?_, ⟨?_, ?_, ?_, ?_⟩, ?_, rfl⟩
    · unfold F_QR_add
      rw [h2, e_setq ⟨n0, by omega⟩, if_neg hs, zt_bdS, h2, e_setq ⟨n0, by omega⟩, if_neg hs, zt_bdS, h2, e_setq ⟨n0, by omega⟩, if_neg hs, zt_bdS, h2, zt_letS]
    · exact h1.l (fun j => by simp (disch := omega) only [up_o]) (fun j _ _ => by simp (disch := omega) only [up_o])
    · rw [up_s, l]
    · intro z
      rw [← hn] at z
      omega
    · exact SC.put (v := fun _ _ => 0) y.1 n (by omega) (fun c j _ _ hj => by simp (disch := omega) only [up_o]) h3
    · intro c j c1 c2 c3 c4 c5
      rw [up_o (by omega)]
theorem e_isW {k : Nat} (hk : k < 23) (h : CP B N σ s) : F_Tk_isWord (q_big + 1 + k) σ = some (if isW B N s.2.2 (q_big + 1 + k) = true then 1 else 0, σ) := by
  have so := (sl_ok k hk).1
  exact e_isWord h.1 h.2.1 h.2.2.1 rfl (by omega)
theorem e_prop (h : CP B N σ s) : F_QR_propertyHere σ = some (pp B N s, σ) := by
  have w := fun k hk => e_isW (B := B) (N := N) (σ := σ) (s := s) (k := k) hk h
  unfold F_QR_propertyHere pp
  rw [w 13 (by decide), zt_bdS]
  by_cases h1 : isW B N s.2.2 (q_big + 1 + 13) = true
  · rw [if_pos h1, zt_ckI (by decide), if_neg (by decide), if_pos h1]
  · rw [if_neg h1, zt_ckI (by decide), if_pos rfl, if_neg h1, w 14 (by decide), zt_bdS]
    by_cases h2 : isW B N s.2.2 (q_big + 1 + 14) = true
    · rw [if_pos h2, zt_ckI (by decide), if_neg (by decide), if_pos h2]
    · rw [if_neg h2, zt_ckI (by decide), if_pos rfl, if_neg h2, w 15 (by decide), zt_bdS]
      by_cases h3 : isW B N s.2.2 (q_big + 1 + 15) = true
      · rw [if_pos h3, zt_ckI (by decide), if_neg (by decide), if_pos h3]
      · rw [if_neg h3, zt_ckI (by decide), if_pos rfl, if_neg h3, w 16 (by decide), zt_bdS]
        by_cases h4 : isW B N s.2.2 (q_big + 1 + 16) = true
        · rw [if_pos h4, zt_ckI (by decide), if_neg (by decide), if_pos h4]
        · rw [if_neg h4, zt_ckI (by decide), if_pos rfl, if_neg h4, w 17 (by decide), zt_bdS]
          by_cases h5 : isW B N s.2.2 (q_big + 1 + 17) = true
          · rw [if_pos h5, zt_ckI (by decide), if_neg (by decide), if_pos h5]
          · rw [if_neg h5, zt_ckI (by decide), if_pos rfl, if_neg h5, w 18 (by decide), zt_bdS]
            by_cases h6 : isW B N s.2.2 (q_big + 1 + 18) = true
            · rw [if_pos h6, zt_ckI (by decide), if_neg (by decide), if_pos h6]
            · rw [if_neg h6, zt_ckI (by decide), if_pos rfl, if_neg h6, w 19 (by decide), zt_bdS]
              by_cases h7 : isW B N s.2.2 (q_big + 1 + 19) = true
              · rw [if_pos h7, zt_ckI (by decide), if_neg (by decide), if_pos h7]
              · rw [if_neg h7, zt_ckI (by decide), if_pos rfl, if_neg h7, w 20 (by decide), zt_bdS]
                by_cases h8 : isW B N s.2.2 (q_big + 1 + 20) = true
                · rw [if_pos h8, zt_ckI (by decide), if_neg (by decide), if_pos h8]
                  rfl
                · rw [if_neg h8, zt_ckI (by decide), if_pos rfl, if_neg h8]
                  rfl
theorem pp_lt : -8 ≤ pp B N s ∧ pp B N s ≤ 0 := by
  unfold pp
  repeat' split
  all_goals omega
theorem e_value (h : CP B N σ s) : ∃ σ', F_QR_readValue σ = some (vlV B N s, σ') ∧ CP B N σ' (vlS B N s) ∧ FT2 σ σ' := by
  have pl := pp_lt (B := B) (N := N) (s := s)
  unfold F_QR_readValue vlV vlS F_QR_readValue_59
  rw [e_isNumber h, zt_bdS]
  by_cases h3 : tK B N s.2.2 = 3
  · obtain ⟨σ1, g1, g2, g3⟩ := e_take (lo := 0) (hi := 9999) h (by decide) (by decide)
    rw [if_pos h3, zt_ckI (by decide), if_neg (by decide), g1, zt_bdS, if_pos h3, if_pos h3]
    exact ⟨σ1, rfl, g2, g3⟩
  · rw [if_neg h3, zt_ckI (by decide), if_pos rfl, e_prop h, zt_bdS, if_neg h3, if_neg h3, zt_ckI (by unfold zt_in; omega)]
    by_cases p0 : pp B N s = 0
    · obtain ⟨σ1, g1, g2, g3⟩ := e_fail (k := 1) h (by decide)
      rw [if_pos p0, g1, zt_bdS, if_pos p0]
      exact ⟨σ1, rfl, g2, g3⟩
    · rw [if_neg p0, e_hasFailed h, zt_bdS, if_neg p0]
      by_cases h0 : s.1 = 0
      · obtain ⟨σ1, g1, g2, g3⟩ := e_nx h
        rw [if_pos h0, zt_ckI (by decide), if_pos rfl, g1, zt_bdS, if_pos h0]
        exact ⟨σ1, rfl, g2, g3⟩
      · rw [if_neg h0, zt_ckI (by decide), if_neg (by decide), if_neg h0]
        exact ⟨σ, rfl, h, FT2.rf⟩
theorem e_sign (h : CP B N σ s) : ∃ σ', F_QR_readComparisonSign σ = some (sgV B N s, σ') ∧ CP B N σ' (sgS B N s) ∧ FT2 σ σ' := by
  unfold F_QR_readComparisonSign sgV sgS F_QR_readComparisonSign_50
  obtain ⟨σ1, g1, g2, g3⟩ := e_takeSign (b := 60) h (by decide)
  unfold pSn at g2
  rw [g1, zt_bdS]
  by_cases h1 : pSb B N 60 s = true
  · rw [if_pos h1] at g2
    rw [if_pos h1, zt_ckI (by decide), if_neg (by decide), if_pos h1, if_pos h1]
    exact ⟨σ1, rfl, g2, g3⟩
  · rw [if_neg h1] at g2
    obtain ⟨σ2, k1, k2, k3⟩ := e_takeSign (b := 62) g2 (by decide)
    unfold pSn at k2
    rw [if_neg h1, zt_ckI (by decide), if_pos rfl, if_neg h1, if_neg h1, k1, zt_bdS]
    by_cases h2 : pSb B N 62 s = true
    · rw [if_pos h2] at k2
      rw [if_pos h2, zt_ckI (by decide), if_neg (by decide), if_pos h2, if_pos h2]
      exact ⟨σ2, rfl, k2, g3.tr k3⟩
    · rw [if_neg h2] at k2
      obtain ⟨σ3, m1, m2, m3⟩ := e_takeSign (b := 61) k2 (by decide)
      unfold pSn at m2
      rw [if_neg h2, zt_ckI (by decide), if_pos rfl, if_neg h2, if_neg h2, m1, zt_bdS]
      by_cases h3 : pSb B N 61 s = true
      · rw [if_pos h3] at m2
        rw [if_pos h3, zt_ckI (by decide), if_neg (by decide), if_pos h3]
        exact ⟨σ3, rfl, m2, (g3.tr k3).tr m3⟩
      · rw [if_neg h3] at m2
        obtain ⟨σ4, n1, n2, n3⟩ := e_fail (k := 1) m2 (by decide)
        rw [if_neg h3, zt_ckI (by decide), if_pos rfl, if_neg h3, n1, zt_bdS]
        exact ⟨σ4, rfl, n2, ((g3.tr k3).tr m3).tr n3⟩
/-! how far it goes -/
theorem up_v : UP N s (vlS B N s) := by
  unfold vlS
  split
  · exact up_Nu
  · split
    · exact up_F
    · split
      · exact up_X
      · exact UP.rf
theorem up_g : UP N s (sgS B N s) := by
  unfold sgS
  split
  · exact up_X
  · split
    · exact up_X
    · split
      · exact up_X
      · exact up_F
theorem pSb_k {b : Int} (h : pSb B N b s = true) : s.1 = 0 ∧ tK B N s.2.2 = 4 ∧ B (tS B N s.2.2) = b := by
  unfold pSb at h
  simp only [Bool.and_eq_true, decide_eq_true_eq] at h
  exact h
theorem vl_g (h0 : 0 ≤ s.2.2) (h1 : s.2.2 ≤ N) (g : (vlS B N s).1 = 0) : s.1 = 0 ∧ s.2.2 < (vlS B N s).2.2 := by
  unfold vlS at g ⊢
  by_cases h3 : tK B N s.2.2 = 3
  · rw [if_pos h3] at g ⊢
    unfold pNu at g ⊢
    by_cases h4 : (pPs B N 0 9999 s).1 = 0
    · have q := pPs_0 h4
      rw [if_pos h4, q.1]
      exact ⟨by rw [q.1] at h4; exact h4, up_X1 h0 h1 (by omega)⟩
    · rw [if_neg h4] at g
      exact absurd g h4
  · rw [if_neg h3] at g ⊢
    by_cases p0 : pp B N s = 0
    · rw [if_pos p0] at g
      exact absurd g (pF_ne (by decide))
    · rw [if_neg p0] at g ⊢
      by_cases s0 : s.1 = 0
      · rw [if_pos s0]
        refine ⟨s0, up_X1 h0 h1 (fun hk => p0 ?_)⟩
        have nw : ∀ w, ¬ isW B N s.2.2 w = true := fun w hw => by
          unfold isW at hw
          simp only [Bool.and_eq_true, decide_eq_true_eq] at hw
          omega
        unfold pp
        rw [if_neg (nw _), if_neg (nw _), if_neg (nw _), if_neg (nw _), if_neg (nw _), if_neg (nw _), if_neg (nw _), if_neg (nw _)]
      · rw [if_neg s0] at g
        exact absurd g s0
theorem sg_g (h0 : 0 ≤ s.2.2) (h1 : s.2.2 ≤ N) (g : (sgS B N s).1 = 0) : s.1 = 0 ∧ s.2.2 < (sgS B N s).2.2 := by
  unfold sgS at g ⊢
  by_cases a : pSb B N 60 s = true
  · have q := pSb_k a
    rw [if_pos a]
    exact ⟨q.1, up_X1 h0 h1 (by omega)⟩
  · rw [if_neg a] at g ⊢
    by_cases b : pSb B N 62 s = true
    · have q := pSb_k b
      rw [if_pos b]
      exact ⟨q.1, up_X1 h0 h1 (by omega)⟩
    · rw [if_neg b] at g ⊢
      by_cases c : pSb B N 61 s = true
      · have q := pSb_k c
        rw [if_pos c]
        exact ⟨q.1, up_X1 h0 h1 (by omega)⟩
      · rw [if_neg c] at g
        exact absurd g (pF_ne (by decide))
theorem up_c : UP N s (cmS B N s) := (up_v.tr up_g).tr up_v
theorem cm_g (h0 : 0 ≤ s.2.2) (h1 : s.2.2 ≤ N) (g : (cmS B N s).1 = 0) : s.1 = 0 ∧ (vlS B N s).1 = 0 ∧ (sgS B N (vlS B N s)).1 = 0 ∧ s.2.2 + 3 ≤ (cmS B N s).2.2 := by
  have u1 := up_v (B := B) h0 h1
  have u2 := up_g (B := B) (s := vlS B N s) (by omega) u1.2
  have a3 := vl_g (B := B) (s := sgS B N (vlS B N s)) (by omega) u2.2 g
  have a2 := sg_g (B := B) (s := vlS B N s) (by omega) u1.2 a3.1
  have a1 := vl_g (B := B) h0 h1 a2.1
  refine ⟨a1.1, a2.1, a3.1, ?_⟩
  unfold cmS
  omega
/-- how long the steps become -/
def LG (N : Int) (w : Int → QY → QY) : Prop := ∀ (o : Int) (y : QY), 0 ≤ y.2.2.2 → y.2.2.2 ≤ N → (y.2.2.2 ≤ (w o y).2.2.2 ∧ (w o y).2.2.2 ≤ N) ∧ ((w o y).1.length : Int) - (w o y).2.2.2 ≤ (y.1.length : Int) - y.2.2.2 + 1 ∧ ((w o y).2.1 = 0 → y.2.1 = 0 ∧ ((w o y).1.length : Int) - (w o y).2.2.2 + 2 ≤ (y.1.length : Int) - y.2.2.2)
def bI (b : Bool) : Int := if b = true then 1 else 0
theorem bI_v (b : Bool) : 0 ≤ bI b ∧ bI b ≤ 1 := by
  unfold bI
  split <;> omega
theorem aOr_l (b : Bool) (E : List ST) : ((aOr b E).length : Int) = (E.length : Int) + bI b := by
  unfold aOr bI
  by_cases h : b = true
  · rw [if_pos h, if_pos h]; simp
  · rw [if_neg h, if_neg h]; simp
theorem lp_LG {w : Int → QY → QY} (hw : LG N w) (o : Int) : ∀ (m : Nat) (b : Bool) (y : QY), 0 ≤ y.2.2.2 → y.2.2.2 ≤ N → (y.2.2.2 ≤ (lpQ B N w o m b y).2.2.2 ∧ (lpQ B N w o m b y).2.2.2 ≤ N) ∧ ((lpQ B N w o m b y).1.length : Int) - (lpQ B N w o m b y).2.2.2 ≤ (y.1.length : Int) + bI b - y.2.2.2 + (if y.2.1 = 0 then 1 else 0) ∧ ((lpQ B N w o m b y).2.1 = 0 → y.2.1 = 0 ∧ ((lpQ B N w o m b y).1.length : Int) - (lpQ B N w o m b y).2.2.2 ≤ (y.1.length : Int) + bI b - y.2.2.2) := by
  intro m
  induction m with
  | zero =>
    intro b y h0 h1
    rw [lpQ]
    dsimp only
    rw [aOr_l]
    refine ⟨⟨Int.le_refl _, h1⟩, ?_, fun g => ⟨g, Int.le_refl _⟩⟩
    split <;> omega
  | succ m ih =>
    intro b y h0 h1
    have bv := bI_v b
    rw [lpQ]
    by_cases s0 : y.2.1 = 0
    · rw [if_neg (fun q => q s0), if_pos s0]
      have ux := up_X (B := B) (s := y.2) h0 h1
      by_cases a : pWb B N (q_big + 1 + 21) y.2 = true
      · have x1 := up_X1 (B := B) (s := y.2) h0 h1 (by have := pWb_k a; omega)
        rw [if_pos a]
        have e := hw o (y.1, pX B N y.2) (by dsimp only; omega) ux.2
        generalize w o (y.1, pX B N y.2) = y1 at e ⊢
        have i := ih b ((2, 0, 0) :: y1.1, y1.2) (by dsimp only at e ⊢; omega) e.1.2
        have l : (((2, 0, 0) :: y1.1 : List ST).length : Int) = (y1.1.length : Int) + 1 := by simp
        dsimp only at e i ⊢
        rw [l] at i
        generalize lpQ B N w o m b ((2, 0, 0) :: y1.1, y1.2) = y2 at i ⊢
        by_cases g1 : y1.2.1 = 0
        · rw [if_pos g1] at i
          have e2 := e.2.2 g1
          exact ⟨by omega, by omega, fun g => ⟨s0, by have := i.2.2 g; omega⟩⟩
        · rw [if_neg g1] at i
          exact ⟨by omega, by omega, fun g => absurd (i.2.2 g).1 g1⟩
      · rw [if_neg a]
        by_cases a2 : pWb B N (q_big + 1 + 22) y.2 = true
        · have x1 := up_X1 (B := B) (s := y.2) h0 h1 (by have := pWb_k a2; omega)
          rw [if_pos a2]
          have e := hw o (aOr b y.1, pX B N y.2) (by dsimp only; omega) ux.2
          generalize w o (aOr b y.1, pX B N y.2) = y1 at e ⊢
          have i := ih true y1 (by dsimp only at e ⊢; omega) e.1.2
          have b1 : bI true = 1 := rfl
          dsimp only at e i ⊢
          rw [aOr_l] at e
          rw [b1] at i
          generalize lpQ B N w o m true y1 = y2 at i ⊢
          by_cases g1 : y1.2.1 = 0
          · rw [if_pos g1] at i
            have e2 := e.2.2 g1
            exact ⟨by omega, by omega, fun g => ⟨s0, by have := i.2.2 g; omega⟩⟩
          · rw [if_neg g1] at i
            exact ⟨by omega, by omega, fun g => absurd (i.2.2 g).1 g1⟩
        · rw [if_neg a2]
          dsimp only
          rw [aOr_l]
          exact ⟨⟨Int.le_refl _, h1⟩, by omega, fun g => ⟨s0, Int.le_refl _⟩⟩
    · rw [if_pos s0, if_neg s0]
      dsimp only
      rw [aOr_l]
      exact ⟨⟨Int.le_refl _, h1⟩, by omega, fun g => absurd g s0⟩
theorem ts_LG {w : Int → QY → QY} (hw : LG N w) : LG N (tsQ B N w) := by
  intro o y h0 h1
  have e := hw o y h0 h1
  have i := lp_LG (B := B) hw o 200 false (w o y) (by omega) e.1.2
  have b0 : bI false = 0 := rfl
  rw [b0] at i
  unfold tsQ
  generalize lpQ B N w o 200 false (w o y) = y2 at i ⊢
  by_cases g1 : (w o y).2.1 = 0
  · rw [if_pos g1] at i
    have e2 := e.2.2 g1
    exact ⟨by omega, by omega, fun g => ⟨e2.1, by have := i.2.2 g; omega⟩⟩
  · rw [if_neg g1] at i
    exact ⟨by omega, by omega, fun g => absurd (i.2.2 g).1 g1⟩
theorem fa_LG : ∀ (n : Nat), LG N (faQ B N n)
  | 0 => by
    intro o y h0 h1
    have u := up_F (B := B) (k := 1) (s := y.2) h0 h1
    rw [faQ]
    exact ⟨u, by dsimp only; omega, fun g => absurd g (pF_ne (by decide))⟩
  | n + 1 => by
    intro o y h0 h1
    have ih := fa_LG n
    have it := ts_LG (B := B) ih
    have ux := up_X (B := B) (s := y.2) h0 h1
    rw [faQ]
    by_cases a : 6 ≤ o ∧ (isW B N y.2.2.2 (q_big + 1 + 12) = true ∨ (tK B N y.2.2.2 = 4 ∧ B (tS B N y.2.2.2) = 40))
    · have u := up_F (B := B) (k := 3) (s := y.2) h0 h1
      rw [if_pos a]
      exact ⟨u, by dsimp only; omega, fun g => absurd g (pF_ne (by decide))⟩
    · rw [if_neg a]
      by_cases b : pWb B N (q_big + 1 + 12) y.2 = true
      · have x1 := up_X1 (B := B) (s := y.2) h0 h1 (by have := pWb_k b; omega)
        rw [if_pos b]
        have e := ih (o + 1) (y.1, pX B N y.2) (by dsimp only; omega) ux.2
        generalize faQ B N n (o + 1) (y.1, pX B N y.2) = y1 at e ⊢
        have l : (((1, 0, 0) :: y1.1 : List ST).length : Int) = (y1.1.length : Int) + 1 := by simp
        dsimp only at e ⊢
        rw [l]
        exact ⟨by omega, by omega, fun g => ⟨(pWb_k b).1, by have := e.2.2 g; omega⟩⟩
      · rw [if_neg b]
        by_cases c : pSb B N 40 y.2 = true
        · have x1 := up_X1 (B := B) (s := y.2) h0 h1 (by have := pSb_k c; omega)
          rw [if_pos c]
          have e := it (o + 1) (y.1, pX B N y.2) (by dsimp only; omega) ux.2
          generalize tsQ B N (faQ B N n) (o + 1) (y.1, pX B N y.2) = y1 at e ⊢
          have u := up_NS (B := B) (b := 41) (s := y1.2) (by dsimp only at e; omega) e.1.2
          dsimp only at e ⊢
          exact ⟨by omega, by omega, fun g => ⟨(pSb_k c).1, by have := e.2.2 (pNS_g g); omega⟩⟩
        · rw [if_neg c]
          have u := up_c (B := B) (s := y.2) h0 h1
          have l : ((cmE B N y.2 :: y.1 : List ST).length : Int) = (y.1.length : Int) + 1 := by simp
          dsimp only
          rw [l]
          exact ⟨u, by omega, fun g => by have := cm_g (B := B) h0 h1 g; exact ⟨this.1, by omega⟩⟩
/-! the class reads a query as this says -/
/-- w does as the steps say -/
def WQ (c : Int) (B : Int → Int) (N : Int) (o : Int) (f : zt_S → Option (Unit × zt_S)) (w : QY → QY) : Prop := ∀ (σ : zt_S) (y : QY), QC B N σ y → (y.1.length : Int) ≤ y.2.2.2 + c → ∃ σ', f σ = some ((), σ') ∧ QC B N σ' (w y) ∧ FQ σ σ'
theorem e_or {b : Bool} (h : QC B N σ y) (hl : (y.1.length : Int) < 50000) : ∃ σ', F_QR_addOr (bI b) σ = some ((), σ') ∧ QC B N σ' (aOr b y.1, y.2) ∧ FQ σ σ' := by
  unfold F_QR_addOr F_QR_addOr_11 bI aOr
  by_cases hb : b = true
  · obtain ⟨σ1, g1, g2, g3⟩ := e_add (x := (3, 0, 0)) h hl
    rw [if_pos hb, zt_ckI (by decide), if_neg (by decide), g1, zt_bdS, if_pos hb]
    exact ⟨σ1, rfl, g2, g3⟩
  · rw [if_neg hb, zt_ckI (by decide), if_pos rfl, if_neg hb]
    exact ⟨σ, rfl, h, FQ.rf⟩
theorem e_loop {f : Int → zt_S → Option (Unit × zt_S)} {w : Int → QY → QY} {o c : Int} (hN : N ≤ 500) (hc : c ≤ 40000) (hw : LG N w) (hf : WQ c B N o (f o) (w o)) : ∀ (m g : Nat) (k : Int) (b : Bool) (σ : zt_S) (y : QY), k + m = 200 → m < g → 0 ≤ k → QC B N σ y → (y.1.length : Int) + bI b + 5 * (m : Int) ≤ y.2.2.2 + c → ∃ σ', F_QR_readTest_9 f g o (bI b) k σ = some ((), σ') ∧ QC B N σ' (lpQ B N w o m b y) ∧ FQ σ σ'
  | m, 0, _, _, _, _, _, h1, _, _, _ => absurd h1 (Nat.not_lt_zero m)
  | 0, g + 1, k, b, σ, y, h0, h1, h2, h, hl => by
    have bv := bI_v b
    have p := h.1.2.1
    obtain ⟨σ1, g1, g2, g3⟩ := e_or (b := b) h (by omega)
    rw [F_QR_readTest_9, zt_ckI (by unfold zt_in; omega), if_neg (by omega), lpQ]
    unfold F_QR_readTest_83
    rw [g1, zt_bdS]
    exact ⟨σ1, rfl, g2, g3⟩
  | m + 1, g + 1, k, b, σ, y, h0, h1, h2, h, hl => by
    have bv := bI_v b
    have p := h.1.2.1
    rw [F_QR_readTest_9, zt_ckI (by unfold zt_in; omega), if_pos (by omega), e_hasFailed h.1, zt_bdS, lpQ]
    have stop : ∀ σ2, QC B N σ2 y → FQ σ σ2 → ∃ σ', F_QR_readTest_83 f (bI b) σ2 = some ((), σ') ∧ QC B N σ' (aOr b y.1, y.2) ∧ FQ σ σ' := by
      intro σ2 q1 q2
      obtain ⟨σ3, g1, g2, g3⟩ := e_or (b := b) q1 (by omega)
      unfold F_QR_readTest_83
      rw [g1, zt_bdS]
      exact ⟨σ3, rfl, g2, q2.tr g3⟩
    by_cases s0 : y.2.1 = 0
    · rw [if_pos s0, zt_ckI (by decide), if_pos rfl, if_neg (fun q => q s0)]
      have ux := up_X (B := B) (s := y.2) p.1 p.2
      obtain ⟨σ1, g1, g2, g3⟩ := e_takeWord (k := 21) (by decide) h.1
      have h1' := h.ft g3 g2
      unfold pWd at h1'
      rw [g1, zt_bdS]
      by_cases a : pWb B N (q_big + 1 + 21) y.2 = true
      · rw [if_pos a] at h1'
        have x1 := up_X1 (B := B) (s := y.2) p.1 p.2 (by have := pWb_k a; omega)
        rw [if_pos a, zt_ckI (by decide), if_neg (by decide), if_pos a]
        obtain ⟨σ2, k1, k2, k3⟩ := hf σ1 _ h1' (by dsimp only; omega)
        have e := hw o (y.1, pX B N y.2) (by dsimp only; omega) ux.2
        dsimp only at e
        obtain ⟨σ3, m1, m2, m3⟩ := e_add (x := (2, 0, 0)) k2 (by omega)
        rw [k1, zt_bdS, m1, zt_bdS]
        unfold F_QR_readTest_77
        have l : (((2, 0, 0) :: (w o (y.1, pX B N y.2)).1 : List ST).length : Int) = ((w o (y.1, pX B N y.2)).1.length : Int) + 1 := by simp
        obtain ⟨σ4, n1, n2, n3⟩ := e_loop hN hc hw hf m g (k + 1) b σ3 _ (by omega) (by omega) (by omega) m2 (by dsimp only; rw [l]; omega)
        exact ⟨σ4, n1, n2, ((g3.q.tr k3).tr m3).tr n3⟩
      · rw [if_neg a] at h1'
        rw [if_neg a, zt_ckI (by decide), if_pos rfl, if_neg a]
        obtain ⟨σ2, k1, k2, k3⟩ := e_takeWord (k := 22) (by decide) h1'.1
        have h2' := h1'.ft k3 k2
        unfold pWd at h2'
        rw [k1, zt_bdS]
        dsimp only at h2' ⊢
        by_cases a2 : pWb B N (q_big + 1 + 22) y.2 = true
        · rw [if_pos a2] at h2'
          have x1 := up_X1 (B := B) (s := y.2) p.1 p.2 (by have := pWb_k a2; omega)
          rw [if_pos a2, zt_ckI (by decide), if_neg (by decide), if_pos a2]
          obtain ⟨σ3, m1, m2, m3⟩ := e_or (b := b) h2' (by dsimp only; omega)
          have al := aOr_l b y.1
          obtain ⟨σ4, n1, n2, n3⟩ := hf σ3 _ m2 (by dsimp only; omega)
          have e := hw o (aOr b y.1, pX B N y.2) (by dsimp only; omega) ux.2
          dsimp only at e
          have b1 : bI true = 1 := rfl
          rw [m1, zt_bdS, n1, zt_bdS]
          unfold F_QR_readTest_77
          obtain ⟨σ5, q1, q2, q3⟩ := e_loop hN hc hw hf m g (k + 1) true σ4 _ (by omega) (by omega) (by omega) n2 (by rw [b1]; dsimp only; omega)
          exact ⟨σ5, q1, q2, ((g3.q.tr k3.q).tr (m3.tr n3)).tr q3⟩
        · rw [if_neg a2] at h2'
          rw [if_neg a2, zt_ckI (by decide), if_pos rfl, if_neg a2]
          exact stop σ2 h2' (g3.q.tr k3.q)
    · rw [if_neg s0, zt_ckI (by decide), if_neg (by decide), if_pos s0]
      exact stop σ h FQ.rf
theorem e_test {f : Int → zt_S → Option (Unit × zt_S)} {w : Int → QY → QY} {o c : Int} (hN : N ≤ 500) (hc : c ≤ 40000) (hw : LG N w) (hf : WQ c B N o (f o) (w o)) (h : QC B N σ y) (hl : (y.1.length : Int) ≤ y.2.2.2 + c - 2000) : ∃ σ', F_QR_readTest f o σ = some ((), σ') ∧ QC B N σ' (tsQ B N w o y) ∧ FQ σ σ' := by
  have p := h.1.2.1
  obtain ⟨σ1, g1, g2, g3⟩ := hf σ y h (by omega)
  have e := hw o y p.1 p.2
  have b0 : bI false = 0 := rfl
  obtain ⟨σ2, k1, k2, k3⟩ := e_loop hN hc hw hf 200 zt_N 0 false σ1 _ (by omega) (zN (by omega)) (by omega) g2 (by rw [b0]; omega)
  unfold F_QR_readTest tsQ
  rw [g1, zt_bdS]
  exact ⟨σ2, k1, k2, g3.tr k3⟩
theorem e_factor (hN : N ≤ 500) : ∀ (n : Nat) (o : Int), 0 ≤ o → o ≤ 6 → n ≤ 10 → 7 ≤ (n : Int) + o → WQ (40000 - 2000 * (n : Int)) B N o (F_QR_readFactor n o) (faQ B N n o)
  | 0, o, h0, h1, _, h2 => by omega
  | n + 1, o, h0, h1, hn, h2 => by
    intro σ y h hl
    have p := h.1.2.1
    have ux := up_X (B := B) (s := y.2) p.1 p.2
    have depth : ∃ σ', F_QR_readFactor_30 (F_QR_readFactor n) σ = some ((), σ') ∧ QC B N σ' (y.1, pF B N 3 y.2) ∧ FQ σ σ' := by
      obtain ⟨σ1, g1, g2, g3⟩ := e_fail (k := 3) h.1 (by decide)
      unfold F_QR_readFactor_30 F_QR_readFactor_121
      rw [g1, zt_bdS]
      exact ⟨σ1, rfl, h.ft g3 g2, g3.q⟩
    have main : (6 ≤ o → ¬ isW B N y.2.2.2 (q_big + 1 + 12) = true ∧ ¬ (tK B N y.2.2.2 = 4 ∧ B (tS B N y.2.2.2) = 40)) → ∃ σ', F_QR_readFactor_41 (F_QR_readFactor n) o σ = some ((), σ') ∧ QC B N σ' (faQ B N (n + 1) o y) ∧ FQ σ σ' := by
      intro ho
      rw [faQ, if_neg (fun q => by
        have := ho q.1
        rcases q.2 with z | z
        · exact this.1 z
        · exact this.2 z)]
      obtain ⟨σ1, g1, g2, g3⟩ := e_takeWord (k := 12) (by decide) h.1
      have h1' := h.ft g3 g2
      unfold pWd at h1'
      unfold F_QR_readFactor_41 F_QR_readFactor_121
      rw [g1, zt_bdS]
      by_cases a : pWb B N (q_big + 1 + 12) y.2 = true
      · rw [if_pos a] at h1'
        have o6 : o < 6 := by
          rcases Int.lt_or_le o 6 with z | z
          · exact z
          · have b := (ho z).1
            unfold pWb at a
            simp only [Bool.and_eq_true, decide_eq_true_eq] at a
            exact absurd a.2 b
        rw [if_pos a, zt_ckI (by decide), if_neg (by decide), if_pos a]
        have ih := e_factor hN n (o + 1) (by omega) (by omega) (by omega) (by omega)
        obtain ⟨σ2, k1, k2, k3⟩ := ih σ1 _ h1' (by dsimp only; omega)
        have e := fa_LG (B := B) n (o + 1) (y.1, pX B N y.2) (by dsimp only; omega) ux.2
        dsimp only at e
        obtain ⟨σ3, m1, m2, m3⟩ := e_add (x := (1, 0, 0)) k2 (by omega)
        rw [k1, zt_bdS, m1, zt_bdS]
        exact ⟨σ3, rfl, m2, (g3.q.tr k3).tr m3⟩
      · rw [if_neg a] at h1'
        rw [if_neg a, zt_ckI (by decide), if_pos rfl, if_neg a]
        obtain ⟨σ2, k1, k2, k3⟩ := e_takeSign (b := 40) h1'.1 (by decide)
        have h2' := h1'.ft k3 k2
        unfold pSn at h2'
        rw [k1, zt_bdS]
        dsimp only at h2' ⊢
        by_cases b : pSb B N 40 y.2 = true
        · rw [if_pos b] at h2'
          have o6 : o < 6 := by
            rcases Int.lt_or_le o 6 with z | z
            · exact z
            · exact absurd (pSb_k b).2 (ho z).2
          rw [if_pos b, zt_ckI (by decide), if_neg (by decide), if_pos b]
          have ih := e_factor hN n (o + 1) (by omega) (by omega) (by omega) (by omega)
          obtain ⟨σ3, m1, m2, m3⟩ := e_test (f := F_QR_readFactor n) (w := faQ B N n) hN (by omega) (fa_LG n) ih h2' (by dsimp only; omega)
          obtain ⟨σ4, n1, n2, n3⟩ := e_needSign (b := 41) m2.1 (by decide)
          rw [m1, zt_bdS, n1, zt_bdS]
          exact ⟨σ4, rfl, m2.ft n3 n2, ((g3.q.tr k3.q).tr m3).tr n3.q⟩
        · rw [if_neg b] at h2'
          rw [if_neg b, zt_ckI (by decide), if_pos rfl, if_neg b]
          obtain ⟨σ3, m1, m2, m3⟩ := e_value h2'.1
          obtain ⟨σ4, n1, n2, n3⟩ := e_sign m2
          obtain ⟨σ5, q1, q2, q3⟩ := e_value n2
          have f5 := (m3.tr n3).tr q3
          obtain ⟨σ6, r1, r2, r3⟩ := e_add (x := cmE B N y.2) (h2'.ft f5 q2) (by dsimp only; omega)
          rw [m1, zt_bdS, n1, zt_bdS, q1, zt_bdS]
          have r1' : F_QR_add (sgV B N (vlS B N y.2)) (vlV B N y.2) (vlV B N (sgS B N (vlS B N y.2))) σ5 = some ((), σ6) := r1
          rw [r1', zt_bdS]
          exact ⟨σ6, rfl, r2, ((g3.q.tr k3.q).tr f5.q).tr r3⟩
    rw [F_QR_readFactor, zt_ckI (by unfold zt_in; omega)]
    by_cases o6 : o < 6
    · rw [if_pos o6]
      exact main (fun z => by omega)
    · rw [if_neg o6, e_isW (by decide) h.1, zt_bdS]
      by_cases a : isW B N y.2.2.2 (q_big + 1 + 12) = true
      · rw [if_pos a, zt_ckI (by decide), if_neg (by decide), faQ, if_pos ⟨by omega, Or.inl a⟩]
        exact depth
      · rw [if_neg a, zt_ckI (by decide), if_pos rfl, e_isSign h.1 (by decide), zt_bdS]
        by_cases b : tK B N y.2.2.2 = 4 ∧ B (tS B N y.2.2.2) = 40
        · rw [if_pos b, zt_ckI (by decide), if_neg (by decide), faQ, if_pos ⟨by omega, Or.inr b⟩]
          exact depth
        · rw [if_neg b, zt_ckI (by decide), if_pos rfl]
          exact main (fun _ => ⟨a, b⟩)
end QB
