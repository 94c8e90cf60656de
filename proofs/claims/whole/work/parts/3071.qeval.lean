/-! A QUERY ANSWERED: the class' bits, the reference's stack -/
def stp (cv : ST → Bool) (x : ST) : List Bool → List Bool
  | st => if x.1 = 1 then (match st with | a :: r => (!a) :: r | [] => []) else if x.1 = 2 then (match st with | a :: b :: r => (b && a) :: r | r => r) else if x.1 = 3 then (match st with | a :: b :: r => (b || a) :: r | r => r) else cv x :: st
def ev (cv : ST → Bool) : List ST → List Bool
  | [] => []
  | x :: T => stp cv x (ev cv T)
def bv (a : Bool) : Int := if a = true then 1 else 0
def vl : List Bool → Int
  | [] => 0
  | a :: r => 2 * vl r + bv a
/-- how many answers wait -/
def dE : List ST → Int
  | [] => 0
  | x :: T => if x.1 = 1 then dE T else if x.1 = 2 ∨ x.1 = 3 then dE T - 1 else dE T + 1
def okE : List ST → Prop
  | [] => True
  | x :: T => okE T ∧ (x.1 = 1 → 1 ≤ dE T) ∧ ((x.1 = 2 ∨ x.1 = 3) → 2 ≤ dE T) ∧ (¬ x.1 = 1 ∧ ¬ x.1 = 2 ∧ ¬ x.1 = 3 → dE T + 1 ≤ 15 ∧ (x.1 = 60 ∨ x.1 = 61 ∨ x.1 = 62) ∧ (-8 ≤ x.2.1 ∧ x.2.1 ≤ 9999) ∧ (-8 ≤ x.2.2 ∧ x.2.2 ≤ 9999))
section QE
variable {B : Int → Int} {N : Int} {σ τ : zt_S} {s : PS} {S C : List Int} {E : List ST} {cv : ST → Bool}
theorem ok_len : ∀ (T : List ST), okE T → 0 ≤ dE T ∧ dE T ≤ 15 ∧ ((ev cv T).length : Int) = dE T
  | [], _ => ⟨Int.le_refl _, by decide, rfl⟩
  | x :: T, h => by
    obtain ⟨h1, h2, h3, h4⟩ := h
    obtain ⟨i1, i2, i3⟩ := ok_len T h1
    rw [dE, ev]
    unfold stp
    by_cases a : x.1 = 1
    · have d := h2 a
      rw [if_pos a, if_pos a]
      refine ⟨i1, i2, ?_⟩
      match he : ev cv T with
      | [] => rw [he] at i3; simp at i3; omega
      | b :: r => rw [he] at i3; simp at i3 ⊢; omega
    · rw [if_neg a, if_neg a]
      by_cases b : x.1 = 2 ∨ x.1 = 3
      · have d := h3 b
        rw [if_pos b]
        refine ⟨by omega, by omega, ?_⟩
        match he : ev cv T with
        | [] => rw [he] at i3; simp at i3; omega
        | [c] => rw [he] at i3; simp at i3; omega
        | c :: e :: r =>
          rw [he] at i3
          by_cases b2 : x.1 = 2
          · rw [if_pos b2]; simp at i3 ⊢; omega
          · rw [if_neg b2, if_pos (by omega)]; simp at i3 ⊢; omega
      · have d := h4 ⟨a, by omega, by omega⟩
        rw [if_neg b, if_neg (by omega), if_neg (by omega)]
        refine ⟨by omega, by omega, ?_⟩
        simp
        omega
theorem bv_lt (a : Bool) : 0 ≤ bv a ∧ bv a ≤ 1 := by
  unfold bv
  split <;> omega
theorem vl_lt : ∀ (st : List Bool) (k : Nat), st.length ≤ k → 0 ≤ vl st ∧ vl st < 2 ^ k
  | [], k, _ => ⟨Int.le_refl _, by rw [vl]; exact Int.pow_pos (by decide)⟩
  | a :: r, 0, h => by simp at h
  | a :: r, k + 1, h => by
    have i := vl_lt r k (by simp at h; omega)
    have b := bv_lt a
    rw [vl, Int.pow_succ]
    omega
theorem vl_15 {st : List Bool} (h : (st.length : Int) ≤ 15) : 0 ≤ vl st ∧ vl st < 32768 := vl_lt st 15 (by omega)
theorem vl_14 {st : List Bool} (h : (st.length : Int) ≤ 14) : 0 ≤ vl st ∧ vl st < 16384 := vl_lt st 14 (by omega)
/-! what is read is well made -/
theorem vl_rg (g : (vlS B N s).1 = 0) : -8 ≤ vlV B N s ∧ vlV B N s ≤ 9999 := by
  have p := pp_lt (B := B) (N := N) (s := s)
  have q := pPv_in (B := B) (N := N) (s := s) (show (0 : Int) ≤ 9999 by decide)
  unfold vlV
  split <;> omega
theorem cm_ok (h0 : 0 ≤ s.2.2) (h1 : s.2.2 ≤ N) (g : (cmS B N s).1 = 0) (h : okE E) (hd : dE E + 1 ≤ 15) : okE (cmE B N s :: E) ∧ dE (cmE B N s :: E) = dE E + 1 := by
  have c := cm_g (B := B) h0 h1 g
  have l := vl_rg (B := B) c.2.1
  have r := vl_rg (B := B) (s := sgS B N (vlS B N s)) g
  have sg : (cmE B N s).1 = 60 ∨ (cmE B N s).1 = 61 ∨ (cmE B N s).1 = 62 := by
    show sgV B N (vlS B N s) = 60 ∨ sgV B N (vlS B N s) = 61 ∨ sgV B N (vlS B N s) = 62
    unfold sgV
    repeat' split
    all_goals omega
  refine ⟨⟨h, fun z => by omega, fun z => by omega, fun _ => ⟨hd, sg, l, r⟩⟩, ?_⟩
  rw [dE, if_neg (by omega), if_neg (by omega)]
theorem or_ok {b : Bool} {d : Int} (hd : 0 ≤ d) (h : okE E) (e : dE E = d + 1 + bI b) : okE (aOr b E) ∧ dE (aOr b E) = d + 1 := by
  unfold aOr bI at *
  by_cases hb : b = true
  · rw [if_pos hb] at e ⊢
    refine ⟨⟨h, fun z => absurd z (by decide), fun _ => by omega, fun z => absurd rfl z.2.2⟩, ?_⟩
    rw [dE, if_neg (by decide), if_pos (Or.inr rfl)]
    omega
  · rw [if_neg hb] at e ⊢
    exact ⟨h, by omega⟩
/-- w leaves one answer more -/
def WO (B : Int → Int) (N : Int) (o : Int) (w : QY → QY) : Prop := ∀ (y : QY), 0 ≤ y.2.2.2 → y.2.2.2 ≤ N → okE y.1 → 0 ≤ dE y.1 → dE y.1 + 2 * (6 - o) + 1 ≤ 15 → (w y).2.1 = 0 → okE (w y).1 ∧ dE (w y).1 = dE y.1 + 1
theorem lp_ok {w : Int → QY → QY} {o : Int} (hw : LG N w) (ho : WO B N o (w o)) {d : Int} (hd0 : 0 ≤ d) (hd : d + 2 * (6 - o) + 3 ≤ 15) : ∀ (m : Nat) (b : Bool) (y : QY), 0 ≤ y.2.2.2 → y.2.2.2 ≤ N → okE y.1 → dE y.1 = d + 1 + bI b → (lpQ B N w o m b y).2.1 = 0 → okE (lpQ B N w o m b y).1 ∧ dE (lpQ B N w o m b y).1 = d + 1 := by
  intro m
  induction m with
  | zero =>
    intro b y h0 h1 h2 h3 g
    rw [lpQ]
    exact or_ok hd0 h2 h3
  | succ m ih =>
    intro b y h0 h1 h2 h3 g
    have bb := bI_v b
    have ux := up_X (B := B) (s := y.2) h0 h1
    rw [lpQ] at g ⊢
    by_cases s0 : y.2.1 = 0
    · rw [if_neg (fun q => q s0)] at g ⊢
      by_cases a : pWb B N (q_big + 1 + 21) y.2 = true
      · rw [if_pos a] at g ⊢
        have e := hw o (y.1, pX B N y.2) (by dsimp only; omega) ux.2
        have lg := lp_LG (B := B) hw o m b ((2, 0, 0) :: (w o (y.1, pX B N y.2)).1, (w o (y.1, pX B N y.2)).2) (by dsimp only at e ⊢; omega) e.1.2
        have k := ho (y.1, pX B N y.2) (by dsimp only; omega) ux.2 h2 (by dsimp only; omega) (by dsimp only; omega) (lg.2.2 g).1
        dsimp only at k e
        refine ih b _ (by dsimp only; omega) e.1.2 ⟨k.1, fun z => absurd z (by decide), fun _ => by omega, fun z => absurd rfl z.2.1⟩ ?_ g
        rw [dE, if_neg (by decide), if_pos (Or.inl rfl)]
        omega
      · rw [if_neg a] at g ⊢
        by_cases a2 : pWb B N (q_big + 1 + 22) y.2 = true
        · rw [if_pos a2] at g ⊢
          have oo := or_ok hd0 h2 h3
          have e := hw o (aOr b y.1, pX B N y.2) (by dsimp only; omega) ux.2
          have lg := lp_LG (B := B) hw o m true (w o (aOr b y.1, pX B N y.2)) (by dsimp only at e ⊢; omega) e.1.2
          have k := ho (aOr b y.1, pX B N y.2) (by dsimp only; omega) ux.2 oo.1 (by dsimp only; omega) (by dsimp only; omega) (lg.2.2 g).1
          dsimp only at k e
          have b1 : bI true = 1 := rfl
          exact ih true _ (by omega) e.1.2 k.1 (by rw [b1]; omega) g
        · rw [if_neg a2] at g ⊢
          exact or_ok hd0 h2 h3
    · rw [if_pos s0] at g
      exact absurd g s0
theorem ts_ok {w : Int → QY → QY} {o : Int} (hw : LG N w) (ho : WO B N o (w o)) {y : QY} (h0 : 0 ≤ y.2.2.2) (h1 : y.2.2.2 ≤ N) (h2 : okE y.1) (h3 : 0 ≤ dE y.1) (hd : dE y.1 + 2 * (6 - o) + 3 ≤ 15) (g : (tsQ B N w o y).2.1 = 0) : okE (tsQ B N w o y).1 ∧ dE (tsQ B N w o y).1 = dE y.1 + 1 := by
  unfold tsQ at g ⊢
  have e := hw o y h0 h1
  have lg := lp_LG (B := B) hw o 200 false (w o y) (by omega) e.1.2
  have k := ho y h0 h1 h2 h3 (by omega) (lg.2.2 g).1
  have b0 : bI false = 0 := rfl
  exact lp_ok hw ho h3 hd 200 false (w o y) (by omega) e.1.2 k.1 (by rw [b0]; omega) g
theorem fa_ok : ∀ (n : Nat) (o : Int), 0 ≤ o → o ≤ 6 → WO B N o (faQ B N n o)
  | 0, o, _, _ => by
    intro y h0 h1 h2 h3 h4 g
    rw [faQ] at g
    exact absurd g (pF_ne (by decide))
  | n + 1, o, o0, o6 => by
    intro y h0 h1 h2 h3 h4 g
    have ux := up_X (B := B) (s := y.2) h0 h1
    rw [faQ] at g ⊢
    by_cases a : 6 ≤ o ∧ (isW B N y.2.2.2 (q_big + 1 + 12) = true ∨ (tK B N y.2.2.2 = 4 ∧ B (tS B N y.2.2.2) = 40))
    · rw [if_pos a] at g
      exact absurd g (pF_ne (by decide))
    · rw [if_neg a] at g ⊢
      by_cases b : pWb B N (q_big + 1 + 12) y.2 = true
      · have o5 : o < 6 := by
          rcases Int.lt_or_le o 6 with z | z
          · exact z
          · refine absurd ⟨z, Or.inl ?_⟩ a
            unfold pWb at b
            simp only [Bool.and_eq_true] at b
            exact b.2
        rw [if_pos b] at g ⊢
        have k := fa_ok n (o + 1) (by omega) (by omega) (y.1, pX B N y.2) (by dsimp only; omega) ux.2 h2 h3 (by dsimp only; omega) g
        dsimp only at k
        refine ⟨⟨k.1, fun _ => by omega, fun z => by omega, fun z => absurd rfl z.1⟩, ?_⟩
        rw [dE, if_pos rfl]
        exact k.2
      · rw [if_neg b] at g ⊢
        by_cases c : pSb B N 40 y.2 = true
        · have o5 : o < 6 := by
            rcases Int.lt_or_le o 6 with z | z
            · exact z
            · exact absurd ⟨z, Or.inr (pSb_k c).2⟩ a
          rw [if_pos c] at g ⊢
          exact ts_ok (fa_LG n) (fa_ok n (o + 1) (by omega) (by omega)) (y := (y.1, pX B N y.2)) (by dsimp only; omega) ux.2 h2 h3 (by dsimp only; omega) (pNS_g g)
        · rw [if_neg c] at g ⊢
          exact cm_ok h0 h1 g h2 (by omega)
/-! a value of a card -/
def vv (w : Int → Int) (c v : Int) : Int := if v = -8 then (if wS w c = w 10 then 1 else 0) else if v = -7 then (if wLg w c = true then 1 else 0) else if v = -6 then wPn w c else if v = -5 then (if wPy w c = true then 1 else 0) else if v = -4 then (if wHd w c = -1 then 9 else wHd w c) else if v = -3 then wR w c else if v = -2 then wS w c else if v = -1 then c else v
def cw (w : Int → Int) (c : Int) (x : ST) : Bool := if x.1 = 60 then decide (vv w c x.2.1 < vv w c x.2.2) else if x.1 = 62 then decide (vv w c x.2.2 < vv w c x.2.1) else decide (vv w c x.2.1 = vv w c x.2.2)
theorem vv_in {w : Int → Int} {c v : Int} (h : RI w) (hc : 0 ≤ c ∧ c < 4 * w 0) (hv : -8 ≤ v ∧ v ≤ 9999) : 0 ≤ vv w c v ∧ vv w c v ≤ 9999 := by
  have a := h.n
  have s := wS_lt h hc.1 hc.2
  have r := wR_lt h (c := c)
  have p := wPn_lt h (c := c)
  have d := h.hd hc.1 (by omega)
  unfold vv
  repeat' split
  all_goals omega
theorem e_vv {c v : Int} {L : Int64} (hc : CO σ) (h0 : 0 ≤ c ∧ c < 4 * σ.1 164 0) (hv : -8 ≤ v ∧ v ≤ 9999) (hL : ∀ c, 0 ≤ c → c < 64 → hb L c = (decide (c < 4 * σ.1 164 0) && wLg (σ.1 164) c)) : F_QR_valueOf 6 c L v σ = some (vv (σ.1 164) c v, σ) := by
  have a := hc.1.n
  have s := wS_lt hc.1 h0.1 h0.2
  have d := hc.1.hd h0.1 (by omega)
  have e10 : σ.1 (6 + 1) 7 = σ.1 164 10 := hc.2.1.1.2.2.1
  unfold F_QR_valueOf F_QR_valueOf_155 F_QR_valueOf_131 F_QR_valueOf_104 F_QR_valueOf_87 vv
  rw [zt_ckI (by unfold zt_in; omega)]
  by_cases h8 : v = -8
  · rw [if_pos h8, if_pos h8, ed_suitOf hc.hu hc.1 ⟨h0.1, by omega⟩, e10, zt_ckI ⟨by unfold zt_in; omega, by unfold zt_in; omega⟩]
    split <;> rfl
  · rw [if_neg h8, if_neg h8]
    by_cases h7 : v = -7
    · rw [if_pos h7, if_pos h7]
      have hl := hL c h0.1 (by omega)
      by_cases x : wLg (σ.1 164) c = true
      · rw [be_has_t ⟨h0.1, by omega⟩ (by rw [hl, x, decide_eq_true h0.2]; rfl), zt_ckI (by decide), if_neg (by decide), if_pos x]
      · rw [be_has_f ⟨h0.1, by omega⟩ (by rw [hl]; simp [x]), zt_ckI (by decide), if_pos rfl, if_neg x]
    · rw [if_neg h7, if_neg h7]
      by_cases h6 : v = -6
      · rw [if_pos h6, if_pos h6, ed_powerOf hc.2.1.1 hc.hu hc.1 h0]
      · rw [if_neg h6, if_neg h6]
        by_cases h5 : v = -5
        · rw [if_pos h5, if_pos h5]
          have hg := hc.2.1.2.2.2.2.2.1 c h0.1 (by omega)
          by_cases x : wPy (σ.1 164) c = true
          · rw [be_has_t ⟨h0.1, by omega⟩ (by rw [hg]; exact x), zt_ckI (by decide), if_neg (by decide), if_pos x]
          · rw [be_has_f ⟨h0.1, by omega⟩ (by rw [hg]; exact x), zt_ckI (by decide), if_pos rfl, if_neg x]
        · rw [if_neg h5, if_neg h5]
          by_cases h4 : v = -4
          · rw [if_pos h4, if_pos h4, ed_holderOf hc.hu hc.1 hc.2.1 h0, zt_ckI (by unfold zt_in; omega)]
            by_cases x : wHd (σ.1 164) c = -1
            · rw [if_pos x, if_pos x]
            · rw [if_neg x, if_neg x, ed_holderOf hc.hu hc.1 hc.2.1 h0]
          · rw [if_neg h4, if_neg h4]
            by_cases h3 : v = -3
            · rw [if_pos h3, if_pos h3, ed_rankOf hc.hu hc.1 ⟨h0.1, by omega⟩]
            · rw [if_neg h3, if_neg h3]
              by_cases h2 : v = -2
              · rw [if_pos h2, if_pos h2, ed_suitOf hc.hu hc.1 ⟨h0.1, by omega⟩]
              · rw [if_neg h2, if_neg h2]
                by_cases h1 : v = -1
                · rw [if_pos h1, if_pos h1]
                · rw [if_neg h1, if_neg h1]
theorem em_vv {c v : Int} (h : RI (σ.1 164)) (h0 : 0 ≤ c ∧ c < 4 * σ.1 164 0) (hv : -8 ≤ v ∧ v < 0) : F_M_propertyOf (-1 - v) c σ = some (vv (σ.1 164) c v, σ) := by
  have a := h.n
  have s := wS_lt h h0.1 h0.2
  have d := h.hd h0.1 (by omega)
  unfold F_M_propertyOf F_M_propertyOf_77 F_M_propertyOf_91 F_M_propertyOf_111 F_M_propertyOf_132 vv
  rw [zt_ckI (by unfold zt_in; omega)]
  have q : v = -1 ∨ v = -2 ∨ v = -3 ∨ v = -4 ∨ v = -5 ∨ v = -6 ∨ v = -7 ∨ v = -8 := by omega
  rcases q with e | e | e | e | e | e | e | e <;> subst e <;> simp only [Int.reduceNeg, Int.reduceSub, Int.reduceEq, if_true, if_false, ↓reduceIte]
  · rw [eb_suitOf h ⟨h0.1, by omega⟩]
  · rw [eb_rankOf h ⟨h0.1, by omega⟩]
  · rw [eb_holderOf ⟨h0.1, by omega⟩, zt_ckI (by unfold zt_in; omega)]
    by_cases x : wHd (σ.1 164) c = -1
    · rw [if_pos x, if_pos x]
    · rw [if_neg x, if_neg x, eb_holderOf ⟨h0.1, by omega⟩]
  · rw [em_wasPlayed h (by unfold zt_in; omega), zt_bdS]
    by_cases x : wPy (σ.1 164) c = true
    · rw [if_pos x, zt_ckI (by decide), if_neg (by decide)]
    · rw [if_neg x, zt_ckI (by decide), if_pos rfl]
  · rw [eb_powerNow h h0]
  · rw [em_isLegalNow h h0, zt_bdS]
    by_cases x : wLg (σ.1 164) c = true
    · rw [if_pos x, zt_ckI (by decide), if_neg (by decide)]
    · rw [if_neg x, zt_ckI (by decide), if_pos rfl]
  · rw [eb_suitOf h ⟨h0.1, by omega⟩, zt_ckI ⟨by unfold zt_in; omega, by unfold zt_in; omega⟩]
    split <;> rfl
end QE
