/-! ASKING: both sides check what a question names; what stays when both have answered -/
theorem zl_i {a : Int} (h : zt_in a) : (zt_l a).toInt = a := by
  unfold zt_l
  rw [Int32.toInt_toInt64, zt_ti h]
theorem lc_gt {a b : Int} (ha : zt_in a) (hb : zt_in b) : 0 < zt_lc (zt_l a) (zt_l b) ↔ b < a := by
  have e : zt_l a > zt_l b ↔ b < a := by rw [gt_iff_lt, Int64.lt_iff_toInt_lt, zl_i ha, zl_i hb]
  unfold zt_lc lg_cmp
  rw [← e]
  constructor
  · intro h
    split at h
    · assumption
    · split at h
      · exact absurd h (by decide)
      · exact absurd h (by decide)
  · intro h
    rw [if_pos h]
    decide
theorem lc_lt {a b : Int} (ha : zt_in a) (hb : zt_in b) : zt_lc (zt_l a) (zt_l b) < 0 ↔ a < b := by
  have e : zt_l a > zt_l b ↔ b < a := by rw [gt_iff_lt, Int64.lt_iff_toInt_lt, zl_i ha, zl_i hb]
  have e2 : zt_l a = zt_l b ↔ a = b := ⟨fun h => by rw [← zl_i ha, ← zl_i hb, h], fun h => by rw [h]⟩
  unfold zt_lc lg_cmp
  constructor
  · intro h
    split at h
    · exact absurd h (by decide)
    · split at h
      · exact absurd h (by decide)
      · rename_i h1 h2
        rw [e] at h1
        rw [e2] at h2
        omega
  · intro h
    rw [if_neg (by rw [e]; omega), if_neg (by rw [e2]; omega)]
    decide
theorem zl_0 : (0 : Int64) = zt_l 0 := by decide
theorem zl_1 : (1 : Int64) = zt_l 1 := by decide
theorem zl_3 : (3 : Int64) = zt_l 3 := by decide
theorem zl_13 : (13 : Int64) = zt_l 13 := by decide
section AS
variable {σ : zt_S}
theorem em_in {a b c : Int} (ha : zt_in a) (hb : zt_in b) (hc : zt_in c) : F_M_in (zt_l a) (zt_l b) (zt_l c) σ = some (if b ≤ a ∧ a ≤ c then 1 else 0, σ) := by
  unfold F_M_in F_M_in_17 F_M_in_18
  by_cases h1 : a < b
  · rw [if_pos ((lc_lt ha hb).mpr h1), if_neg (show ¬ (b ≤ a ∧ a ≤ c) by omega)]
    rfl
  · rw [if_neg (fun z => h1 ((lc_lt ha hb).mp z))]
    by_cases h2 : c < a
    · rw [if_pos ((lc_gt ha hc).mpr h2), if_neg (show ¬ (b ≤ a ∧ a ≤ c) by omega)]
      rfl
    · rw [if_neg (fun z => h2 ((lc_gt ha hc).mp z)), if_pos (show b ≤ a ∧ a ≤ c by omega)]
      rfl
theorem em_cards : F_M_cards σ = some (4 * σ.1 164 0, σ) := rfl
theorem em_isCard {c : Int} (h : RI (σ.1 164)) (hc : zt_in c) : F_M_isCard c σ = some (if 0 ≤ c ∧ c < 4 * σ.1 164 0 then 1 else 0, σ) := by
  have a := h.n
  unfold F_M_isCard
  rw [em_cards, zt_bdS, zl_0, em_in hc (by decide) ⟨by omega, by omega⟩, zt_bdS]
  by_cases h1 : 0 ≤ c ∧ c < 4 * σ.1 164 0
  · rw [if_pos h1, if_pos (show 0 ≤ c ∧ c ≤ 4 * σ.1 164 0 - 1 by omega)]
    rfl
  · rw [if_neg h1, if_neg (show ¬ (0 ≤ c ∧ c ≤ 4 * σ.1 164 0 - 1) by omega)]
    rfl
theorem em_isPlayer {p : Int} (h : RI (σ.1 164)) (hp : zt_in p) : F_M_isPlayer p σ = some (if 0 ≤ p ∧ p < σ.1 164 1 then 1 else 0, σ) := by
  have a := h.n
  unfold F_M_isPlayer
  rw [zl_0, em_in hp (by decide) ⟨by omega, by omega⟩, zt_bdS]
  by_cases h1 : 0 ≤ p ∧ p < σ.1 164 1
  · rw [if_pos h1, if_pos (show 0 ≤ p ∧ p ≤ σ.1 164 1 - 1 by omega)]
    rfl
  · rw [if_neg h1, if_neg (show ¬ (0 ≤ p ∧ p ≤ σ.1 164 1 - 1) by omega)]
    rfl
theorem em_isSuit {s : Int} (hs : zt_in s) : F_M_isSuit s σ = some (if 0 ≤ s ∧ s ≤ 3 then 1 else 0, σ) := by
  unfold F_M_isSuit
  rw [zl_3, zl_0, em_in hs (by decide) (by decide), zt_bdS]
  by_cases h1 : 0 ≤ s ∧ s ≤ 3
  · rw [if_pos h1]
    rfl
  · rw [if_neg h1]
    rfl
/-- it passes: nothing changes -/
theorem em_fails1 {v E : Int} (hv : zt_in v) (h1 : v ≠ 0) (h : σ.1 163 0 = 0) : F_M_fails v E σ = some (0, σ) := by
  unfold F_M_fails F_M_fails_16 F_M_fails_28
  simp (disch := first | omega | (unfold zt_in; omega)) only [↓zt_ckI, ↓if_pos, ↓if_neg, if_true, if_false, zt_letS, zt_ckI, if_pos, if_neg, up_s, up_o, up_2, h]
theorem up_up {c : Nat} {b v : Int} {u : Int} : zt_up (zt_up σ c b u) c b v = zt_up σ c b v := by
  refine Prod.ext (funext fun c' => funext fun j => ?_) rfl
  show (if c' = c ∧ j = b then v else (if c' = c ∧ j = b then u else σ.1 c' j)) = if c' = c ∧ j = b then v else σ.1 c' j
  split <;> rfl
/-- it fails: E is noted -/
theorem em_fails0 {E : Int} (hE : E = 1 ∨ E = 2) (h : σ.1 163 0 = 0) : F_M_fails 0 E σ = some (1, zt_up σ 163 0 E) := by
  unfold F_M_fails F_M_fails_16 F_M_fails_28
  have h2 : ¬ E = 0 := by omega
  simp (disch := first | omega | (unfold zt_in; omega)) only [↓zt_ckI, ↓if_pos, ↓if_neg, if_true, if_false, zt_letS, zt_ckI, if_pos, if_neg, up_s, up_o, up_2, h, h2, zt_in0]
theorem eb_in {β : Type} {a b c : Int} (ha : zt_in a) (hb : zt_in b) (hc : zt_in c) {K : Int → zt_S → Option β} : zt_bd (F_M_in (zt_l a) (zt_l b) (zt_l c) σ) K = K (if b ≤ a ∧ a ≤ c then 1 else 0) σ := by rw [em_in ha hb hc]; rfl
/-- the numbers that both sides stand for -/
def CO (σ : zt_S) : Prop := RI (σ.1 164) ∧ TB σ 6 (σ.1 164) ∧ SUw σ 3 (σ.1 164)
/-- a question changes no more than the answers' cells and the count of exceptions -/
def FR (σ τ : zt_S) : Prop := (∀ c j, (c ≠ 163 ∨ j ≠ 0) → τ.1 c j = σ.1 c j) ∧ (∀ c j, c ≠ 184 → τ.2.1 c j = σ.2.1 c j) ∧ τ.2.2.1 = σ.2.2.1 ∧ σ.2.2.2 ≤ τ.2.2.2 ∧ τ.2.2.2 ≤ σ.2.2.2 + 1
/-- both answer alike -/
def AK (fl fm : zt_S → Option (Int × zt_S)) (σ : zt_S) : Prop := ∃ e v σ1 σ2, fl σ = some (e, σ1) ∧ fm σ1 = some (v, σ2) ∧ σ2.1 163 0 = e ∧ (e = 0 ∨ e = 1) ∧ (e = 0 → σ2.2.1 184 0 = zt_l v) ∧ FR σ σ2
/-- the answer of the class -/
theorem fr_1 (v : Int64) (E : Int) : FR σ (zt_up (zt_uL σ 184 0 v) 163 0 E) := by
  refine ⟨fun c j h => ?_, fun c j h => ?_, rfl, Nat.le_refl _, Nat.le_succ _⟩
  · rw [up_o h]; rfl
  · show (zt_uL σ 184 0 v).2.1 c j = _
    rw [uL_o (Or.inl h)]
theorem fr_2 (E : Int) : FR σ (zt_up (zt_nx σ) 163 0 E) := by
  refine ⟨fun c j h => ?_, fun c j h => rfl, rfl, Nat.le_succ _, Nat.le_refl _⟩
  rw [up_o h]; rfl
theorem ak_ok {fl fm : zt_S → Option (Int × zt_S)} {v : Int} (h1 : fl σ = some (0, zt_uL σ 184 0 (zt_l v))) (h2 : fm (zt_uL σ 184 0 (zt_l v)) = some (v, zt_up (zt_uL σ 184 0 (zt_l v)) 163 0 0)) : AK fl fm σ :=
  ⟨0, v, _, _, h1, h2, up_s _ _ _ _, Or.inl rfl, fun _ => uL_s _ _ _ _, fr_1 _ _⟩
theorem ak_no {fl fm : zt_S → Option (Int × zt_S)} {v : Int} (h1 : fl σ = some (1, zt_nx σ)) (h2 : fm (zt_nx σ) = some (v, zt_up (zt_nx σ) 163 0 1)) : AK fl fm σ :=
  ⟨1, v, _, _, h1, h2, up_s _ _ _ _, Or.inr rfl, fun z => absurd z (by decide), fr_2 _⟩
theorem ec_needCard {c : Int} (h : CO σ) (hc : zt_in c) : F_C_needCard c σ = if 0 ≤ c ∧ c < 4 * σ.1 164 0 then some (.inl (), σ) else some (.inr 0, zt_nx σ) := by
  have a := h.1.n
  unfold F_C_needCard F_C_needCard_15
  by_cases h1 : c < 0
  · rw [if_neg (show ¬ (0 ≤ c ∧ c < 4 * σ.1 164 0) by omega)]
    simp (disch := first | omega | (unfold zt_in; omega)) only [↓zt_ckI, ↓if_pos, ↓if_neg, if_true, if_false, zt_letS, zt_ckI, if_pos, if_neg, up_s, up_o, up_2, h1]
  · by_cases h2 : c < 4 * σ.1 164 0
    · rw [if_pos (show (0 ≤ c ∧ c < 4 * σ.1 164 0) by omega)]
      simp (disch := first | omega | (unfold zt_in; omega)) only [↓zt_ckI, ↓if_pos, ↓if_neg, if_true, if_false, zt_letS, zt_ckI, if_pos, if_neg, up_s, up_o, up_2, ↓ed_cardCount h.2.2]
    · rw [if_neg (show ¬ (0 ≤ c ∧ c < 4 * σ.1 164 0) by omega)]
      simp (disch := first | omega | (unfold zt_in; omega)) only [↓zt_ckI, ↓if_pos, ↓if_neg, if_true, if_false, zt_letS, zt_ckI, if_pos, if_neg, up_s, up_o, up_2, ↓ed_cardCount h.2.2]
theorem ec_needPlayer {p : Int} (h : CO σ) (hp : zt_in p) : F_C_needPlayer p σ = if 0 ≤ p ∧ p < σ.1 164 1 then some (.inl (), σ) else some (.inr 0, zt_nx σ) := by
  have a := h.1.n
  have b := h.2.2.2.1
  unfold F_C_needPlayer F_C_needPlayer_15
  by_cases h1 : p < 0
  · rw [if_neg (show ¬ (0 ≤ p ∧ p < σ.1 164 1) by omega)]
    simp (disch := first | omega | (unfold zt_in; omega)) only [↓zt_ckI, ↓if_pos, ↓if_neg, if_true, if_false, zt_letS, zt_ckI, if_pos, if_neg, up_s, up_o, up_2, h1]
  · by_cases h2 : p < σ.1 164 1
    · rw [if_pos (show (0 ≤ p ∧ p < σ.1 164 1) by omega)]
      simp (disch := first | omega | (unfold zt_in; omega)) only [↓zt_ckI, ↓if_pos, ↓if_neg, if_true, if_false, zt_letS, zt_ckI, if_pos, if_neg, up_s, up_o, up_2, b]
    · rw [if_neg (show ¬ (0 ≤ p ∧ p < σ.1 164 1) by omega)]
      simp (disch := first | omega | (unfold zt_in; omega)) only [↓zt_ckI, ↓if_pos, ↓if_neg, if_true, if_false, zt_letS, zt_ckI, if_pos, if_neg, up_s, up_o, up_2, b]
/-- what the reference asks of a card, behind the answer's reset -/
theorem eb_card {β : Type} {c : Int} (h : RI (σ.1 164)) (hc : 0 ≤ c ∧ c < 4 * σ.1 164 0) {K : Int → zt_S → Option β} : zt_bd (F_M_isCard c σ) K = K 1 σ := by
  have a := h.n
  rw [em_isCard h ⟨by omega, by omega⟩, if_pos hc]; rfl
theorem eb_nocard {β : Type} {c : Int} (h : RI (σ.1 164)) (hi : zt_in c) (hc : ¬ (0 ≤ c ∧ c < 4 * σ.1 164 0)) {K : Int → zt_S → Option β} : zt_bd (F_M_isCard c σ) K = K 0 σ := by
  rw [em_isCard h hi, if_neg hc]; rfl
theorem eb_player {β : Type} {p : Int} (h : RI (σ.1 164)) (hp : 0 ≤ p ∧ p < σ.1 164 1) {K : Int → zt_S → Option β} : zt_bd (F_M_isPlayer p σ) K = K 1 σ := by
  have a := h.n
  rw [em_isPlayer h ⟨by omega, by omega⟩, if_pos hp]; rfl
theorem eb_noplayer {β : Type} {p : Int} (h : RI (σ.1 164)) (hi : zt_in p) (hp : ¬ (0 ≤ p ∧ p < σ.1 164 1)) {K : Int → zt_S → Option β} : zt_bd (F_M_isPlayer p σ) K = K 0 σ := by
  rw [em_isPlayer h hi, if_neg hp]; rfl
theorem eb_fails1 {β : Type} {E : Int} (h : σ.1 163 0 = 0) {K : Int → zt_S → Option β} : zt_bd (F_M_fails 1 E σ) K = K 0 σ := by
  rw [em_fails1 (by decide) (by decide) h]; rfl
theorem eb_fails0 {β : Type} {E : Int} (hE : E = 1 ∨ E = 2) (h : σ.1 163 0 = 0) {K : Int → zt_S → Option β} : zt_bd (F_M_fails 0 E σ) K = K 1 (zt_up σ 163 0 E) := by
  rw [em_fails0 hE h]; rfl
end AS
