/-! ROWS in the midst of a card: what the reference's methods need of them -/
def QI (w : Int → Int) : Prop := ((4 ≤ w 0 ∧ w 0 ≤ 13) ∧ (2 ≤ w 1 ∧ w 1 ≤ 4) ∧ (1 ≤ w 2 ∧ w 2 ≤ 13) ∧ (w 1 * w 2 ≤ 4 * w 0) ∧ (0 ≤ w 3 ∧ w 3 ≤ 3) ∧ (-1 ≤ w 4 ∧ w 4 ≤ 3) ∧ (0 ≤ w 5 ∧ w 5 ≤ 30) ∧ (0 ≤ w 6 ∧ w 6 ≤ 9) ∧ (0 ≤ w 7 ∧ w 7 ≤ 1) ∧ (0 ≤ w 8 ∧ w 8 < w 1) ∧ (0 ≤ w 9 ∧ w 9 < w 1) ∧ (-1 ≤ w 10 ∧ w 10 ≤ 3) ∧ (0 ≤ w 11 ∧ w 11 ≤ 30)) ∧ (0 ≤ w 13 * w 1 ∧ w 13 * w 1 ≤ 52) ∧ (0 ≤ wPl w ∧ wPl w ≤ w 1) ∧ (∀ k, 0 ≤ k → k < wPl w → 0 ≤ wCd w k ∧ wCd w k < 4 * w 0)
theorem QI.n {w : Int → Int} (h : QI w) : ((4 ≤ w 0 ∧ w 0 ≤ 13) ∧ (2 ≤ w 1 ∧ w 1 ≤ 4) ∧ (1 ≤ w 2 ∧ w 2 ≤ 13) ∧ (w 1 * w 2 ≤ 4 * w 0) ∧ (0 ≤ w 3 ∧ w 3 ≤ 3) ∧ (-1 ≤ w 4 ∧ w 4 ≤ 3) ∧ (0 ≤ w 5 ∧ w 5 ≤ 30) ∧ (0 ≤ w 6 ∧ w 6 ≤ 9) ∧ (0 ≤ w 7 ∧ w 7 ≤ 1) ∧ (0 ≤ w 8 ∧ w 8 < w 1) ∧ (0 ≤ w 9 ∧ w 9 < w 1) ∧ (-1 ≤ w 10 ∧ w 10 ≤ 3) ∧ (0 ≤ w 11 ∧ w 11 ≤ 30)) := h.1
theorem QI.m13 {w : Int → Int} (h : QI w) : 0 ≤ w 13 * w 1 ∧ w 13 * w 1 ≤ 52 := h.2.1
theorem QI.wpl {w : Int → Int} (h : QI w) : 0 ≤ wPl w ∧ wPl w ≤ w 1 := h.2.2.1
theorem QI.cd {w : Int → Int} (h : QI w) {k : Int} (h0 : 0 ≤ k) (h1 : k < wPl w) : 0 ≤ wCd w k ∧ wCd w k < 4 * w 0 ∧ True := ⟨(h.2.2.2 k h0 h1).1, (h.2.2.2 k h0 h1).2, trivial⟩
section QF
variable {w : Int → Int}
theorem wS_ltq (h : QI w) {c : Int} (h0 : 0 ≤ c) (h1 : c < 4 * w 0) : 0 ≤ wS w c ∧ wS w c < 4 := by
  have a := h.n
  unfold wS
  exact ⟨Int.ediv_nonneg h0 (by omega), (Int.ediv_lt_iff_lt_mul (by omega)).mpr h1⟩
theorem wR_ltq (h : QI w) {c : Int} : 1 ≤ wR w c ∧ wR w c ≤ w 0 := by
  have a := h.n
  unfold wR
  have := Int.emod_nonneg c (show w 0 ≠ 0 by omega)
  have := Int.emod_lt_of_pos c (show 0 < w 0 by omega)
  omega
theorem wPw_ltq (h : QI w) {c u : Int} : 0 ≤ wPw w c u ∧ wPw w c u ≤ 43 := by
  have a := h.n
  have b := wR_ltq h (c := c)
  unfold wPw
  split
  · omega
  · split <;> omega
theorem wPn_ltq (h : QI w) {c : Int} : 0 ≤ wPn w c ∧ wPn w c ≤ 43 := wPw_ltq h
theorem wBp_ltq (h : QI w) : -1 ≤ wBp w ∧ wBp w < wPl w + (if wPl w = 0 then 1 else 0) ∧ (0 < wPl w → 0 ≤ wBp w ∧ wBp w < wPl w) ∧ (wPl w = 0 → wBp w = -1) := by
  have a := h.wpl
  have b := wBs_lt (w := w) (wPl w).toNat (-1) 0 (by omega) (by omega) (by omega)
  unfold wBp
  refine ⟨b.1, by split <;> omega, fun z => ⟨b.2.2 (by omega), by omega⟩, fun z => ?_⟩
  rw [z]
  rfl
end QF
section QM
variable {σ : zt_S}
theorem qm_suitOf {c : Int} (h : QI (σ.1 164)) (hc : 0 ≤ c ∧ c < 100000) : F_M_suitOf c σ = some (wS (σ.1 164) c, σ) := by
  have a := h.n
  unfold F_M_suitOf wS
  simp (disch := omega) only [if_true, if_false, true_or, or_true, zt_ck, zt_in, if_pos]
theorem qm_rankOf {c : Int} (h : QI (σ.1 164)) (hc : 0 ≤ c ∧ c < 100000) : F_M_rankOf c σ = some (wR (σ.1 164) c, σ) := by
  have a := h.n
  unfold F_M_rankOf wR
  simp (disch := omega) only [if_true, if_false, true_or, or_true, zt_ck, zt_in, if_pos]
theorem qm_cardInTrick {k : Int} (h : QI (σ.1 164)) (hk : 0 ≤ k ∧ k < 4) : F_M_cardInTrick k σ = some (wCd (σ.1 164) k, σ) := by
  have a := h.m13
  unfold F_M_cardInTrick wCd
  simp (disch := omega) only [if_true, if_false, true_or, or_true, zt_ck, if_pos]
theorem qm_ledSuit (h : QI (σ.1 164)) : F_M_ledSuit σ = some (wLd (σ.1 164), σ) := by
  have a := h.n
  have b := h.wpl
  unfold F_M_ledSuit F_M_ledSuit_20 wLd
  rw [em_inTrick, zt_bdS]
  by_cases h1 : wPl (σ.1 164) = 0
  · simp (disch := omega) only [if_true, if_false, true_or, or_true, zt_ck, zt_in, if_pos, h1]
  · have c := h.cd (k := 0) (by omega) (by omega)
    simp (disch := omega) only [if_true, if_false, true_or, or_true, zt_ck, zt_in, if_pos, if_neg, qm_cardInTrick h, zt_bdS, qm_suitOf h]
theorem wLd_ltq {w : Int → Int} (h : QI w) : -1 ≤ wLd w ∧ wLd w < 4 ∧ (0 < wPl w → 0 ≤ wLd w) := by
  have b := h.wpl
  unfold wLd
  split
  · omega
  · have c := h.cd (k := 0) (by omega) (by omega)
    have d := wS_ltq h c.1 c.2.1
    omega
theorem qm_powerWith {c u : Int} (h : QI (σ.1 164)) (hc : 0 ≤ c ∧ c < 4 * σ.1 164 0) (hu : -10 ≤ u ∧ u < 1000) : F_M_powerWith c u σ = some (wPw (σ.1 164) c u, σ) := by
  have a := h.n
  have b := wS_ltq h hc.1 hc.2
  unfold F_M_powerWith F_M_powerWith_47 wPw
  simp (disch := omega) only [if_true, if_false, true_or, or_true, qm_suitOf h, qm_rankOf h, zt_bdS, zt_ck, zt_in, if_pos]
  split
  · rfl
  · split <;> rfl
theorem qm_powerNow {c : Int} (h : QI (σ.1 164)) (hc : 0 ≤ c ∧ c < 4 * σ.1 164 0) : F_M_powerNow c σ = some (wPn (σ.1 164) c, σ) := by
  have a := h.n
  have b := h.wpl
  have d := wS_ltq h hc.1 hc.2
  have e := wLd_ltq h
  unfold F_M_powerNow F_M_powerNow_21 wPn
  rw [em_inTrick, zt_bdS]
  by_cases h1 : wPl (σ.1 164) = 0
  · simp (disch := omega) only [if_true, if_false, true_or, or_true, zt_ck, zt_in, if_pos, h1, qm_suitOf h, zt_bdS, qm_powerWith h]
  · simp (disch := omega) only [if_true, if_false, true_or, or_true, zt_ck, zt_in, if_pos, if_neg, qm_ledSuit h, zt_bdS, qm_powerWith h]
theorem qm_bestPlace_4 (h : QI (σ.1 164)) : ∀ (m n : Nat) (b k : Int), k + m = wPl (σ.1 164) → m < n → -1 ≤ b → b < k → 0 ≤ k → F_M_bestPlace_4 n b k σ = some (wBs (σ.1 164) b k m, σ)
  | m, 0, _, _, _, h1, _, _, _ => absurd h1 (Nat.not_lt_zero m)
  | 0, n + 1, b, k, h0, h1, h2, h3, h4 => by
    have a := h.n
    have e := h.wpl
    rw [F_M_bestPlace_4, em_inTrick, zt_bdS]
    simp (disch := omega) only [if_true, if_false, true_or, or_true, zt_ck, zt_in, if_pos, if_neg]
    rfl
  | m + 1, n + 1, b, k, h0, h1, h2, h3, h4 => by
    have a := h.n
    have e := h.wpl
    have ih := qm_bestPlace_4 h m n
    have ck := h.cd (k := k) h4 (by omega)
    have pk := wPn_ltq h (c := wCd (σ.1 164) k)
    rw [F_M_bestPlace_4, em_inTrick, zt_bdS, wBs]
    by_cases hb : b = -1
    · simp (disch := omega) only [if_true, if_false, true_or, or_true, zt_ck, zt_in, if_pos, hb, F_M_bestPlace_38, F_M_bestPlace_40]
      exact ih k (k + 1) (by omega) (by omega) (by omega) (by omega) (by omega)
    · have cb := h.cd (k := b) (by omega) (by omega)
      have pb := wPn_ltq h (c := wCd (σ.1 164) b)
      simp (disch := omega) only [if_true, if_false, true_or, or_true, zt_ck, zt_in, if_pos, hb, false_or, if_false, F_M_bestPlace_38, F_M_bestPlace_40, qm_cardInTrick h, zt_bdS, qm_powerNow h]
      split
      · exact ih k (k + 1) (by omega) (by omega) (by omega) (by omega) (by omega)
      · exact ih b (k + 1) (by omega) (by omega) (by omega) (by omega) (by omega)
theorem qm_bestPlace (h : QI (σ.1 164)) : F_M_bestPlace σ = some (wBp (σ.1 164), σ) := by
  have a := h.n
  have e := h.wpl
  unfold F_M_bestPlace wBp
  exact qm_bestPlace_4 h _ _ _ _ (by omega) (zN (by omega)) (by omega) (by omega) (by omega)
theorem qb_suitOf {β : Type} {c : Int} (h : QI (σ.1 164)) (hc : 0 ≤ c ∧ c < 100000) {K : _ → zt_S → Option β} : zt_bd (F_M_suitOf c σ) K = K (wS (σ.1 164) c) σ := by rw [qm_suitOf h hc]; rfl
theorem qb_rankOf {β : Type} {c : Int} (h : QI (σ.1 164)) (hc : 0 ≤ c ∧ c < 100000) {K : _ → zt_S → Option β} : zt_bd (F_M_rankOf c σ) K = K (wR (σ.1 164) c) σ := by rw [qm_rankOf h hc]; rfl
theorem qb_cardInTrick {β : Type} {k : Int} (h : QI (σ.1 164)) (hk : 0 ≤ k ∧ k < 4) {K : _ → zt_S → Option β} : zt_bd (F_M_cardInTrick k σ) K = K (wCd (σ.1 164) k) σ := by rw [qm_cardInTrick h hk]; rfl
theorem qb_ledSuit {β : Type} (h : QI (σ.1 164)) {K : _ → zt_S → Option β} : zt_bd (F_M_ledSuit σ) K = K (wLd (σ.1 164)) σ := by rw [qm_ledSuit h]; rfl
theorem qb_powerWith {β : Type} {c u : Int} (h : QI (σ.1 164)) (hc : 0 ≤ c ∧ c < 4 * σ.1 164 0) (hu : -10 ≤ u ∧ u < 1000) {K : _ → zt_S → Option β} : zt_bd (F_M_powerWith c u σ) K = K (wPw (σ.1 164) c u) σ := by rw [qm_powerWith h hc hu]; rfl
theorem qb_powerNow {β : Type} {c : Int} (h : QI (σ.1 164)) (hc : 0 ≤ c ∧ c < 4 * σ.1 164 0) {K : _ → zt_S → Option β} : zt_bd (F_M_powerNow c σ) K = K (wPn (σ.1 164) c) σ := by rw [qm_powerNow h hc]; rfl
theorem qb_bestPlace {β : Type} (h : QI (σ.1 164)) {K : _ → zt_S → Option β} : zt_bd (F_M_bestPlace σ) K = K (wBp (σ.1 164)) σ := by rw [qm_bestPlace h]; rfl
end QM
/-! the row's changes -/
def ru (w : Int → Int) (j v : Int) : Int → Int := fun i => if i = j then v else w i
theorem ru_s (w : Int → Int) (j v : Int) : ru w j v j = v := if_pos rfl
theorem ru_o {w : Int → Int} {j v i : Int} (h : i ≠ j) : ru w j v i = w i := if_neg h
/-- the state with the reference's row changed -/
def rs (σ : zt_S) (r : Int → Int) : zt_S := (fun c j => if c = 164 then r j else σ.1 c j, σ.2)
theorem rs_r (σ : zt_S) (r : Int → Int) : (rs σ r).1 164 = r := funext fun j => by show (if (164 : Nat) = 164 then r j else σ.1 164 j) = r j; rw [if_pos rfl]
theorem rs_o {σ : zt_S} {r : Int → Int} {c : Nat} (h : c ≠ 164) : (rs σ r).1 c = σ.1 c := funext fun j => if_neg h
theorem rs_2 (σ : zt_S) (r : Int → Int) : (rs σ r).2 = σ.2 := rfl
theorem rs_id (σ : zt_S) : rs σ (σ.1 164) = σ := by
  unfold rs
  have : (fun (c : Nat) (j : Int) => if c = 164 then σ.1 164 j else σ.1 c j) = σ.1 := by
    funext c j
    split
    · rename_i h; rw [h]
    · rfl
  rw [this]
theorem rs_rs (σ : zt_S) (r r' : Int → Int) : rs (rs σ r) r' = rs σ r' := by
  unfold rs
  congr 1
  funext c j
  by_cases h : c = 164
  · rw [if_pos h, if_pos h]
  · rw [if_neg h, if_neg h]; exact if_neg h
theorem rs_up (σ : zt_S) (r : Int → Int) (j v : Int) : zt_up (rs σ r) 164 j v = rs σ (ru r j v) := by
  unfold zt_up rs ru
  congr 1
  funext c i
  by_cases h : c = 164
  · simp [h]
  · simp [h]
theorem up_rs (σ : zt_S) (j v : Int) : zt_up σ 164 j v = rs σ (ru (σ.1 164) j v) := by
  have := rs_up σ (σ.1 164) j v
  rwa [rs_id] at this
def rFade (w : Int → Int) (s : Int) : Int → Int :=
  if w 11 = 0 ∨ 0 < w 11 - w 6 then ru w 11 (if 0 < w 11 - w 6 then w 11 - w 6 else 0)
  else ru (ru (ru w 11 0) 10 (if w 7 = 1 then s else -1)) 11 (if w 7 = 1 then w 5 else 0)
theorem em_fades {σ : zt_S} {s : Int} (h : QI (σ.1 164)) (hs : -1 ≤ s ∧ s < 4) : F_M_fades s σ = some ((), rs σ (rFade (σ.1 164) s)) := by
  have a := h.n
  unfold F_M_fades F_M_greater F_M_greater_10 rFade F_M_fades_42 F_M_fades_65 F_M_fades_93
  have e : ∀ (v : Int), zt_up (rs σ (ru (σ.1 164) 11 v)) 164 = fun j x => rs σ (ru (ru (σ.1 164) 11 v) j x) := fun v => funext fun j => funext fun x => rs_up _ _ _ _
  by_cases h1 : 0 < σ.1 164 11 - σ.1 164 6
  · rw [if_pos (Or.inr h1), if_pos h1, ← up_rs]
    by_cases h2 : σ.1 164 11 - σ.1 164 6 < 0
    · omega
    · simp (disch := first | omega | (unfold zt_in; omega)) only [↓zt_ckI, ↓if_pos, ↓if_neg, if_true, if_false, zt_letS, zt_ckI, if_pos, if_neg, up_s, up_o, up_2, zt_bdS]
  · by_cases h3 : σ.1 164 11 = 0
    · rw [if_pos (Or.inl h3), if_neg h1, ← up_rs]
      by_cases h2 : σ.1 164 11 - σ.1 164 6 < 0
      · simp (disch := first | omega | (unfold zt_in; omega)) only [↓zt_ckI, ↓if_pos, ↓if_neg, if_true, if_false, zt_letS, zt_ckI, if_pos, if_neg, up_s, up_o, up_2, zt_bdS]
      · have h4 : σ.1 164 11 - σ.1 164 6 = 0 := by omega
        simp (disch := first | omega | (unfold zt_in; omega)) only [↓zt_ckI, ↓if_pos, ↓if_neg, if_true, if_false, zt_letS, zt_ckI, if_pos, if_neg, up_s, up_o, up_2, zt_bdS, h4]
    · rw [if_neg (show ¬ (σ.1 164 11 = 0 ∨ 0 < σ.1 164 11 - σ.1 164 6) by omega), ← rs_up, ← rs_up, ← up_rs]
      by_cases h2 : σ.1 164 11 - σ.1 164 6 < 0
      · by_cases h5 : σ.1 164 7 = 1
        · simp (disch := first | omega | (unfold zt_in; omega)) only [↓zt_ckI, ↓if_pos, ↓if_neg, if_true, if_false, zt_letS, zt_ckI, if_pos, if_neg, up_s, up_o, up_2, zt_bdS, h5]
        · simp (disch := first | omega | (unfold zt_in; omega)) only [↓zt_ckI, ↓if_pos, ↓if_neg, if_true, if_false, zt_letS, zt_ckI, if_pos, if_neg, up_s, up_o, up_2, zt_bdS, h5]
      · have h4 : σ.1 164 11 - σ.1 164 6 = 0 := by omega
        by_cases h5 : σ.1 164 7 = 1
        · simp (disch := first | omega | (unfold zt_in; omega)) only [↓zt_ckI, ↓if_pos, ↓if_neg, if_true, if_false, zt_letS, zt_ckI, if_pos, if_neg, up_s, up_o, up_2, zt_bdS, h4, h5]
        · simp (disch := first | omega | (unfold zt_in; omega)) only [↓zt_ckI, ↓if_pos, ↓if_neg, if_true, if_false, zt_letS, zt_ckI, if_pos, if_neg, up_s, up_o, up_2, zt_bdS, h4, h5]
def rTrick (w : Int → Int) : Int → Int :=
  ru (ru (ru (ru (ru (ru (ru (ru w (196 + 6 * w 13) (w 9)) (196 + 6 * w 13 + 1) ((w 9 + wBp w) % w 1)) (196 + 6 * w 13 + 2) (wCd w (wBp w))) (196 + 6 * w 13 + 3) (wLd w)) (196 + 6 * w 13 + 4) (w 10)) (196 + 6 * w 13 + 5) (w 11)) 13 (w 13 + 1)) 9 ((w 9 + wBp w) % w 1)
def rEnd (w : Int → Int) : Int → Int := rFade (rTrick w) (wS w (wCd w (wBp w)))
