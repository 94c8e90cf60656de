/-! format: the text of a hand -/
def ltr (s : Int) : Int := if s = 0 then 115 else if s = 1 then 101 else if s = 2 then 105 else 97
def txL (w : Int → Int) (c : Int) (L : List Int) : List Int := (if 9 < wR w c then ((if L = [] then L else L ++ [32]) ++ [ltr (wS w c)]) ++ [49] else ((if L = [] then L else L ++ [32]) ++ [ltr (wS w c)])) ++ [48 + wR w c % 10]
def fmL (w : Int → Int) (p : Int) : Int → Nat → List Int → List Int
  | _, 0, L => L
  | k, m + 1, L => fmL w p (k + 1) m (if wHd w k = p then txL w k L else L)
def TX (c d : Nat) (a : Int) (σ : zt_S) (L : List Int) : Prop := σ.1 c a = (L.length : Int) ∧ (∀ j : Nat, j < L.length → σ.1 d (j : Int) = L.getD j 0) ∧ ∀ x ∈ L, 0 ≤ x ∧ x < 128
theorem TX.add {c d : Nat} {a x : Int} {σ : zt_S} {L : List Int} (h : TX c d a σ L) (hcd : c ≠ d) (hx : 0 ≤ x ∧ x < 128) : TX c d a (zt_up (zt_up σ d (σ.1 c a) x) c a (σ.1 c a + 1)) (L ++ [x]) := by
  obtain ⟨h1, h2, h3⟩ := h
  refine ⟨?_, fun j hj => ?_, fun y hy => ?_⟩
  · rw [up_s, h1, List.length_append]
    simp
  · rw [up_o (Or.inl (Ne.symm hcd)), h1]
    rw [List.length_append] at hj
    simp only [List.length_cons, List.length_nil] at hj
    by_cases hl : j = L.length
    · subst hl
      rw [up_s, List.getD_eq_getElem?_getD, List.getElem?_append_right (Nat.le_refl _), Nat.sub_self]
      rfl
    · rw [up_o (Or.inr (by omega)), h2 j (by omega), List.getD_eq_getElem?_getD, List.getD_eq_getElem?_getD, List.getElem?_append_left (by omega)]
  · rcases List.mem_append.mp hy with hy | hy
    · exact h3 y hy
    · rw [List.mem_singleton.mp hy]; exact hx
theorem TX.f {c d : Nat} {a : Int} {σ τ : zt_S} {L : List Int} (h : TX c d a σ L) (e1 : τ.1 c a = σ.1 c a) (e2 : ∀ j, τ.1 d j = σ.1 d j) : TX c d a τ L := by
  refine ⟨by rw [e1]; exact h.1, fun j hj => by rw [e2]; exact h.2.1 j hj, h.2.2⟩
section FM
variable {σ τ : zt_S} {w : Int → Int} {n : Int}
/-- only the text has changed -/
def TF (c d : Nat) (a : Int) (σ τ : zt_S) : Prop := (∀ x j, x ≠ d → (x ≠ c ∨ j ≠ a) → τ.1 x j = σ.1 x j) ∧ τ.2 = σ.2
theorem TF.rf {c d : Nat} {a : Int} : TF c d a σ σ := ⟨fun _ _ _ _ => rfl, rfl⟩
theorem TF.tr {c d : Nat} {a : Int} {ρ : zt_S} (h : TF c d a σ τ) (g : TF c d a τ ρ) : TF c d a σ ρ := ⟨fun x j h1 h2 => by rw [g.1 x j h1 h2, h.1 x j h1 h2], g.2.trans h.2⟩
theorem ec_app {x : Int} {L : List Int} (h : TX 161 162 1 σ L) (hl : L.length < 51) (hx : 0 ≤ x ∧ x < 128) : ∃ τ, F_HT_append x σ = some ((), τ) ∧ TX 161 162 1 τ (L ++ [x]) ∧ TF 161 162 1 σ τ := by
  have h1 := h.1
  refine ⟨_, ?_, h.add (by decide) hx, fun y j h1 h2 => by rw [up_o (by omega), up_o (by omega)], rfl⟩
  unfold F_HT_append F_HT_append_40
  rw [zt_ckI (by unfold zt_in; omega), if_neg (by omega), zt_ckI (by unfold zt_in; omega), if_pos (by omega), zt_ckI (by omega), zt_letS, zt_b_in (x := x) hx, zt_b_in hx, zt_letS, up_o (Or.inl (by decide))]
theorem em_app {x : Int} {L : List Int} (h : TX 163 180 31 σ L) (hl : L.length < 60) (hx : 0 ≤ x ∧ x < 128) : ∃ τ, F_M_writes x σ = some ((), τ) ∧ TX 163 180 31 τ (L ++ [x]) ∧ TF 163 180 31 σ τ := by
  have h1 := h.1
  refine ⟨_, ?_, h.add (by decide) hx, fun y j h1 h2 => by rw [up_o (by omega), up_o (by omega)], rfl⟩
  unfold F_M_writes
  rw [zt_ckI (by omega), zt_letS, zt_letS, up_o (Or.inl (by decide))]
theorem ltr_lt (s : Int) : 0 ≤ ltr s ∧ ltr s < 128 := by
  unfold ltr
  split
  · decide
  · split
    · decide
    · split <;> decide
theorem e_letter {s : Int} (h : 0 ≤ s ∧ s < 4) : F_HT_letterOf s σ = some (ltr s, σ) := by
  unfold F_HT_letterOf ltr
  rw [zt_ckI (by unfold zt_in; omega)]
  split
  · rfl
  · split
    · rfl
    · split <;> rfl
/-- room for r cards more -/
def TB4 (L : List Int) (r : Int) : Prop := 4 * r + (L.length : Int) ≤ (if L = [] then 52 else 51)
theorem TX.mt {c d : Nat} {a : Int} {L : List Int} (h : TX c d a σ L) : (L = [] ↔ σ.1 c a = 0) ∧ (¬ L = [] ↔ 0 < σ.1 c a) := by
  rw [h.1]
  cases L with
  | nil => simp
  | cons x L => simp; omega
theorem SUw.tf {τ : zt_S} (hs : SUw σ 3 w) (f : TF 161 162 1 σ τ) : SUw τ 3 w := by
  unfold SUw at hs ⊢
  rw [f.1 3 0 (by decide) (by decide), f.1 3 1 (by decide) (by decide), f.1 3 2 (by decide) (by decide), f.1 3 3 (by decide) (by decide)]
  exact hs
theorem ec_w39 {L : List Int} {V : Int64} {k : Int} {r8 : Int64 → Int → zt_S → Option (Int × zt_S)} (hs : SUw σ 3 w) (hw : RI w) (hk : 0 ≤ k ∧ k < 4 * w 0) (h : TX 161 162 1 σ L) (hl : L.length ≤ 48) : ∃ τ, F_HT_write_39 3 r8 V k σ = r8 V (k + 1) τ ∧ TX 161 162 1 τ ((if 9 < wR w k then (L ++ [ltr (wS w k)]) ++ [49] else (L ++ [ltr (wS w k)])) ++ [48 + wR w k % 10]) ∧ TF 161 162 1 σ τ := by
  have a := hw.n
  have sl := wS_lt hw hk.1 hk.2
  have rl := wR_lt hw (c := k)
  obtain ⟨s1, p1, p2, p3⟩ := ec_app (x := ltr (wS w k)) h (by omega) (ltr_lt _)
  have l1 : (L ++ [ltr (wS w k)]).length = L.length + 1 := by simp
  unfold F_HT_write_39 F_HT_write_62
  rw [ed_suitOf hs hw ⟨hk.1, by omega⟩, e_letter sl, zt_bdS, p1, zt_bdS, ed_rankOf (hs.tf p3) hw ⟨hk.1, by omega⟩]
  unfold F_HT_appendNumber F_HT_appendNumber_17
  by_cases h9 : 9 < wR w k
  · obtain ⟨s2, q1, q2, q3⟩ := ec_app (x := 49) p2 (by omega) (by decide)
    obtain ⟨s3, t1, t2, t3⟩ := ec_app (x := 48 + wR w k % 10) q2 (by rw [List.length_append, l1]; simp; omega) ⟨by omega, by omega⟩
    rw [zt_ckI (by unfold zt_in; omega), if_neg (by omega), zt_ckI (by omega), show 48 + wR w k / 10 = 49 by omega, q1, zt_bdS, zt_ckI (by omega), t1, zt_bdS, zt_bdS, if_pos h9]
    exact ⟨s3, rfl, t2, (p3.tr q3).tr t3⟩
  · obtain ⟨s3, t1, t2, t3⟩ := ec_app (x := 48 + wR w k % 10) p2 (by omega) ⟨by omega, by omega⟩
    rw [zt_ckI (by unfold zt_in; omega), if_pos (by omega), zt_ckI (by omega), t1, zt_bdS, zt_bdS, if_neg h9]
    exact ⟨s3, rfl, t2, p3.tr t3⟩
theorem txL_len (w : Int → Int) (c : Int) (L : List Int) : (txL w c L).length ≤ L.length + (if L = [] then 3 else 4) ∧ txL w c L ≠ [] := by
  unfold txL
  constructor
  · by_cases hL : L = []
    · rw [if_pos hL, if_pos hL]
      split <;> simp
    · rw [if_neg hL, if_neg hL]
      split <;> simp
  · simp
theorem fmL_len {p : Int} : ∀ (m : Nat) (k : Int) (L : List Int), ((fmL w p k m L).length : Int) ≤ (L.length : Int) + 4 * m
  | 0, k, L => by rw [fmL]; simp
  | m + 1, k, L => by
    rw [fmL]
    by_cases hh : wHd w k = p
    · rw [if_pos hh]
      have i1 := fmL_len (p := p) m (k + 1) (txL w k L)
      have t1 := (txL_len w k L).1
      split at t1 <;> omega
    · rw [if_neg hh]
      have i1 := fmL_len (p := p) m (k + 1) L
      omega
theorem ec_write_8 {V : Int64} {p : Int} (hw : RI w) (hV : ∀ c, 0 ≤ c → c < 64 → hb V c = decide (c < 4 * w 0 ∧ wHd w c = p)) : ∀ (m f : Nat) (k : Int) (L : List Int) (σ : zt_S), k + m = 4 * w 0 → m < f → 0 ≤ k → SUw σ 3 w → TX 161 162 1 σ L → TB4 L (cn (fun c => decide (wHd w c = p)) k m) → ∃ τ, F_HT_write_8 3 f V k σ = F_HT_write_68 3 τ ∧ TX 161 162 1 τ (fmL w p k m L) ∧ TF 161 162 1 σ τ
  | m, 0, _, _, _, _, h1, _, _, _, _ => absurd h1 (Nat.not_lt_zero m)
  | 0, f + 1, k, L, σ, h0, h1, h2, hs, ht, hb => by
    have a := hw.n
    refine ⟨σ, ?_, ht, TF.rf⟩
    rw [F_HT_write_8, ed_cardCount hs, zt_ckI ⟨by unfold zt_in; omega, by unfold zt_in; omega⟩, if_neg (by omega)]
  | m + 1, f + 1, k, L, σ, h0, h1, h2, hs, ht, hb => by
    have a := hw.n
    have hk := hV k h2 (by omega)
    have cl := cn_le (fun c => decide (wHd w c = p)) m (k + 1)
    have mt := ht.mt
    unfold TB4 at hb
    rw [cn] at hb
    rw [F_HT_write_8, ed_cardCount hs, zt_ckI ⟨by unfold zt_in; omega, by unfold zt_in; omega⟩, if_pos (by omega), fmL]
    by_cases hh : wHd w k = p
    · rw [if_pos (decide_eq_true hh)] at hb
      rw [be_has_t ⟨h2, by omega⟩ (by rw [hk]; exact decide_eq_true ⟨by omega, hh⟩), zt_ckI (by decide), if_neg (by decide), if_pos hh, zt_ckI (by rw [ht.1]; unfold zt_in; split at hb <;> omega)]
      have tl := txL_len w k L
      have hb' : TB4 (txL w k L) (cn (fun c => decide (wHd w c = p)) (k + 1) m) := by
        unfold TB4
        rw [if_neg tl.2]
        have := tl.1
        split at hb <;> rename_i hL
        · rw [if_pos hL] at this; omega
        · rw [if_neg hL] at this; omega
      by_cases hL : L = []
      · rw [if_neg (fun z => (mt.2.mpr z) hL)]
        obtain ⟨s1, p1, p2, p3⟩ := ec_w39 (r8 := F_HT_write_8 3 f) (V := V) hs hw ⟨h2, by omega⟩ ht (by rw [hL]; simp)
        have e : (if 9 < wR w k then (L ++ [ltr (wS w k)]) ++ [49] else (L ++ [ltr (wS w k)])) ++ [48 + wR w k % 10] = txL w k L := by
          unfold txL
          rw [if_pos hL]
        rw [e] at p2
        obtain ⟨τ, q1, q2, q3⟩ := ec_write_8 hw hV m f (k + 1) (txL w k L) s1 (by omega) (by omega) (by omega) (hs.tf p3) p2 hb'
        exact ⟨τ, by rw [p1, q1], q2, p3.tr q3⟩
      · rw [if_pos (mt.2.mp hL)]
        rw [if_neg hL] at hb
        obtain ⟨s0, o1, o2, o3⟩ := ec_app (x := 32) ht (by omega) (by decide)
        obtain ⟨s1, p1, p2, p3⟩ := ec_w39 (r8 := F_HT_write_8 3 f) (V := V) (hs.tf o3) hw ⟨h2, by omega⟩ o2 (by simp; omega)
        have e : (if 9 < wR w k then (L ++ [32] ++ [ltr (wS w k)]) ++ [49] else (L ++ [32] ++ [ltr (wS w k)])) ++ [48 + wR w k % 10] = txL w k L := by
          unfold txL
          rw [if_neg hL]
        rw [e] at p2
        obtain ⟨τ, q1, q2, q3⟩ := ec_write_8 hw hV m f (k + 1) (txL w k L) s1 (by omega) (by omega) (by omega) ((hs.tf o3).tf p3) p2 hb'
        exact ⟨τ, by rw [o1, zt_bdS, p1, q1], q2, (o3.tr p3).tr q3⟩
    · rw [if_neg (fun z => hh (of_decide_eq_true z)), Int.zero_add] at hb
      rw [be_has_f ⟨h2, by omega⟩ (by rw [hk]; exact fun z => hh (of_decide_eq_true z).2), zt_ckI (by decide), if_pos rfl, if_neg hh]
      exact ec_write_8 hw hV m f (k + 1) L σ (by omega) (by omega) (by omega) hs ht hb
def fmE (L : List Int) : List Int := if L = [] then [45] else L
theorem ec_write {V : Int64} {p : Int} (hs : SUw σ 3 w) (hw : RI w) (hp : 0 ≤ p ∧ p < w 1) (hV : ∀ c, 0 ≤ c → c < 64 → hb V c = decide (c < 4 * w 0 ∧ wHd w c = p)) : ∃ τ, F_HT_write 3 V σ = some (((fmE (fmL w p 0 (4 * w 0).toNat [])).length : Int), τ) ∧ TX 161 162 1 τ (fmE (fmL w p 0 (4 * w 0).toNat [])) ∧ TF 161 162 1 σ τ := by
  have a := hw.n
  have hc := wHc_cut hw hp.1
  have hr := hw.2.2.2.2.2.2.2.2.2.2 p hp.1 hp.2
  have p13 := hw.pl
  have t0 : TX 161 162 1 (zt_up σ 161 1 0) [] := ⟨by rw [up_s]; rfl, fun j hj => absurd hj (Nat.not_lt_zero _), fun x hx => absurd hx List.not_mem_nil⟩
  have f0 : TF 161 162 1 σ (zt_up σ 161 1 0) := ⟨fun x j h1 h2 => up_o (by omega), rfl⟩
  obtain ⟨s, g1, g2, g3⟩ := ec_write_8 hw hV (4 * w 0).toNat zt_N 0 [] (zt_up σ 161 1 0) (by omega) (zN (by omega)) (by omega) (hs.tf f0) t0 (by
    unfold TB4
    rw [hc, hr, if_pos rfl]
    simp
    split <;> omega)
  unfold F_HT_write
  rw [zt_letS, g1]
  unfold F_HT_write_68 F_HT_write_81 fmE
  have mt := g2.mt
  by_cases hL : fmL w p 0 (4 * w 0).toNat [] = []
  · obtain ⟨s2, q1, q2, q3⟩ := ec_app (x := 45) g2 (by rw [hL]; simp) (by decide)
    rw [zt_ckI (by rw [mt.1.mp hL]; decide), if_pos (mt.1.mp hL), q1, zt_bdS, if_pos hL]
    rw [hL] at q2
    exact ⟨s2, by rw [q2.1]; rfl, q2, (f0.tr g3).tr q3⟩
  · have l0 := mt.2.mp hL
    rw [if_neg hL]
    refine ⟨s, ?_, g2, f0.tr g3⟩
    by_cases hi : zt_in (s.1 161 1)
    · rw [zt_ckI hi, if_neg (by omega), g2.1]
    · exfalso
      apply hi
      rw [g2.1]
      have := fmL_len (w := w) (p := p) (4 * w 0).toNat 0 []
      simp only [List.length_nil] at this
      unfold zt_in
      omega
/-! the reference -/
theorem em_w60 {L : List Int} {p k : Int} {r : Int → Int → zt_S → Option (Int × zt_S)} (hs : σ.1 164 = w) (hw : RI w) (hk : 0 ≤ k ∧ k < 4 * w 0) (h : TX 163 180 31 σ L) (hl : L.length ≤ 48) : ∃ τ, F_M_format_60 r p k σ = r p (k + 1) τ ∧ TX 163 180 31 τ ((if 9 < wR w k then (L ++ [ltr (wS w k)]) ++ [49] else (L ++ [ltr (wS w k)])) ++ [48 + wR w k % 10]) ∧ TF 163 180 31 σ τ := by
  have a := hw.n
  have sl := wS_lt hw hk.1 hk.2
  have rl := wR_lt hw (c := k)
  obtain ⟨s1, p1, p2, p3⟩ := em_app (x := ltr (wS w k)) h (by omega) (ltr_lt _)
  have l1 : (L ++ [ltr (wS w k)]).length = L.length + 1 := by simp
  have w1 : s1.1 164 = w := by rw [← hs]; exact funext fun j => p3.1 164 j (by decide) (by omega)
  have h98 : ∃ τ, F_M_format_98 r p k (ltr (wS w k)) σ = r p (k + 1) τ ∧ TX 163 180 31 τ ((if 9 < wR w k then (L ++ [ltr (wS w k)]) ++ [49] else (L ++ [ltr (wS w k)])) ++ [48 + wR w k % 10]) ∧ TF 163 180 31 σ τ := by
    unfold F_M_format_98 F_M_format_117 F_M_format_132
    rw [p1, zt_bdS, eb_rankOf (by rw [w1]; exact hw) ⟨hk.1, by omega⟩, w1, zt_ckI (by unfold zt_in; omega)]
    by_cases h9 : 9 < wR w k
    · obtain ⟨s2, q1, q2, q3⟩ := em_app (x := 49) p2 (by omega) (by decide)
      have w2 : s2.1 164 = w := by rw [← w1]; exact funext fun j => q3.1 164 j (by decide) (by omega)
      obtain ⟨s3, t1, t2, t3⟩ := em_app (x := 48 + wR w k % 10) q2 (by rw [List.length_append, l1]; simp; omega) ⟨by omega, by omega⟩
      rw [if_pos h9, if_pos h9, q1, zt_bdS, eb_rankOf (by rw [w2]; exact hw) ⟨hk.1, by omega⟩, w2, zt_ckI (by omega), t1, zt_bdS]
      exact ⟨s3, rfl, t2, (p3.tr q3).tr t3⟩
    · obtain ⟨s3, t1, t2, t3⟩ := em_app (x := 48 + wR w k % 10) p2 (by omega) ⟨by omega, by omega⟩
      rw [if_neg h9, if_neg h9, eb_rankOf (by rw [w1]; exact hw) ⟨hk.1, by omega⟩, w1, zt_ckI (by omega), t1, zt_bdS]
      exact ⟨s3, rfl, t2, p3.tr t3⟩
  unfold F_M_format_60
  rw [eb_suitOf (by rw [hs]; exact hw) ⟨hk.1, by omega⟩, hs, zt_ckI (by unfold zt_in; omega)]
  generalize wS w k = s at sl h98 ⊢
  unfold ltr at h98 ⊢
  by_cases h0 : s = 0
  · simp only [if_pos h0] at h98 ⊢
    exact h98
  · simp only [if_neg h0] at h98 ⊢
    rw [zt_ckI (by unfold zt_in; omega)]
    by_cases h1 : s = 1
    · simp only [if_pos h1] at h98 ⊢
      exact h98
    · simp only [if_neg h1] at h98 ⊢
      rw [zt_ckI (by unfold zt_in; omega)]
      by_cases h2 : s = 2
      · simp only [if_pos h2] at h98 ⊢
        exact h98
      · simp only [if_neg h2] at h98 ⊢
        exact h98
theorem em_format_27 {p : Int} (hw : RI w) (hp : 0 ≤ p ∧ p < 4) : ∀ (m f : Nat) (k : Int) (L : List Int) (σ : zt_S), k + m = 4 * w 0 → m < f → 0 ≤ k → σ.1 164 = w → TX 163 180 31 σ L → TB4 L (cn (fun c => decide (wHd w c = p)) k m) → ∃ τ, F_M_format_27 f p k σ = F_M_format_138 τ ∧ TX 163 180 31 τ (fmL w p k m L) ∧ TF 163 180 31 σ τ
  | m, 0, _, _, _, _, h1, _, _, _, _ => absurd h1 (Nat.not_lt_zero m)
  | 0, f + 1, k, L, σ, h0, h1, h2, hs, ht, hb => by
    have a := hw.n
    refine ⟨σ, ?_, ht, TF.rf⟩
    rw [F_M_format_27, em_cards, zt_bdS, hs, zt_ckI ⟨by unfold zt_in; omega, by unfold zt_in; omega⟩, if_neg (by omega)]
  | m + 1, f + 1, k, L, σ, h0, h1, h2, hs, ht, hb => by
    have a := hw.n
    have hd := hw.hd h2 (c := k) (by omega)
    have cl := cn_le (fun c => decide (wHd w c = p)) m (k + 1)
    have mt := ht.mt
    unfold TB4 at hb
    rw [cn] at hb
    rw [F_M_format_27, em_cards, zt_bdS, hs, zt_ckI ⟨by unfold zt_in; omega, by unfold zt_in; omega⟩, if_pos (by omega), em_holderOf ⟨h2, by omega⟩, zt_bdS, hs, zt_ckI ⟨by unfold zt_in; omega, by unfold zt_in; omega⟩, fmL]
    by_cases hh : wHd w k = p
    · rw [if_pos (decide_eq_true hh)] at hb
      rw [if_pos hh, if_pos hh, zt_ckI (by rw [ht.1]; unfold zt_in; split at hb <;> omega)]
      have tl := txL_len w k L
      have hb' : TB4 (txL w k L) (cn (fun c => decide (wHd w c = p)) (k + 1) m) := by
        unfold TB4
        rw [if_neg tl.2]
        have := tl.1
        split at hb <;> rename_i hL
        · rw [if_pos hL] at this; omega
        · rw [if_neg hL] at this; omega
      by_cases hL : L = []
      · rw [if_neg (fun z => (mt.2.mpr z) hL)]
        obtain ⟨s1, p1, p2, p3⟩ := em_w60 (r := F_M_format_27 f) (p := p) hs hw ⟨h2, by omega⟩ ht (by rw [hL]; simp)
        have e : (if 9 < wR w k then (L ++ [ltr (wS w k)]) ++ [49] else (L ++ [ltr (wS w k)])) ++ [48 + wR w k % 10] = txL w k L := by
          unfold txL
          rw [if_pos hL]
        rw [e] at p2
        have w1 : s1.1 164 = w := by rw [← hs]; exact funext fun j => p3.1 164 j (by decide) (by omega)
        obtain ⟨τ, q1, q2, q3⟩ := em_format_27 hw hp m f (k + 1) (txL w k L) s1 (by omega) (by omega) (by omega) w1 p2 hb'
        exact ⟨τ, by rw [p1, q1], q2, p3.tr q3⟩
      · rw [if_pos (mt.2.mp hL)]
        rw [if_neg hL] at hb
        obtain ⟨s0, o1, o2, o3⟩ := em_app (x := 32) ht (by omega) (by decide)
        have w0 : s0.1 164 = w := by rw [← hs]; exact funext fun j => o3.1 164 j (by decide) (by omega)
        obtain ⟨s1, p1, p2, p3⟩ := em_w60 (r := F_M_format_27 f) (p := p) w0 hw ⟨h2, by omega⟩ o2 (by simp; omega)
        have e : (if 9 < wR w k then (L ++ [32] ++ [ltr (wS w k)]) ++ [49] else (L ++ [32] ++ [ltr (wS w k)])) ++ [48 + wR w k % 10] = txL w k L := by
          unfold txL
          rw [if_neg hL]
        rw [e] at p2
        have w1 : s1.1 164 = w := by rw [← w0]; exact funext fun j => p3.1 164 j (by decide) (by omega)
        obtain ⟨τ, q1, q2, q3⟩ := em_format_27 hw hp m f (k + 1) (txL w k L) s1 (by omega) (by omega) (by omega) w1 p2 hb'
        exact ⟨τ, by rw [o1, zt_bdS, p1, q1], q2, (o3.tr p3).tr q3⟩
    · rw [if_neg (fun z => hh (of_decide_eq_true z)), Int.zero_add] at hb
      rw [if_neg hh, if_neg hh]
      exact em_format_27 hw hp m f (k + 1) L σ (by omega) (by omega) (by omega) hs ht hb
theorem em_format_run {p : Int} (hs : σ.1 164 = w) (hw : RI w) (hp : 0 ≤ p ∧ p < w 1) : ∃ τ, F_M_format_27 zt_N p 0 (zt_up σ 163 31 0) = some (((fmE (fmL w p 0 (4 * w 0).toNat [])).length : Int), τ) ∧ TX 163 180 31 τ (fmE (fmL w p 0 (4 * w 0).toNat [])) ∧ TF 163 180 31 σ τ := by
  have a := hw.n
  have hc := wHc_cut hw hp.1
  have hr := hw.2.2.2.2.2.2.2.2.2.2 p hp.1 hp.2
  have p13 := hw.pl
  have t0 : TX 163 180 31 (zt_up σ 163 31 0) [] := ⟨by rw [up_s]; rfl, fun j hj => absurd hj (Nat.not_lt_zero _), fun x hx => absurd hx List.not_mem_nil⟩
  have f0 : TF 163 180 31 σ (zt_up σ 163 31 0) := ⟨fun x j h1 h2 => up_o (by omega), rfl⟩
  obtain ⟨s, g1, g2, g3⟩ := em_format_27 (p := p) hw ⟨hp.1, by omega⟩ (4 * w 0).toNat zt_N 0 [] (zt_up σ 163 31 0) (by omega) (zN (by omega)) (by omega) (by rw [up_f (by decide)]; exact hs) t0 (by
    unfold TB4
    rw [hc, hr, if_pos rfl]
    simp
    split <;> omega)
  rw [g1]
  unfold F_M_format_138 F_M_format_151 fmE
  have mt := g2.mt
  by_cases hL : fmL w p 0 (4 * w 0).toNat [] = []
  · obtain ⟨s2, q1, q2, q3⟩ := em_app (x := 45) g2 (by rw [hL]; simp) (by decide)
    rw [zt_ckI (by rw [mt.1.mp hL]; decide), if_pos (mt.1.mp hL), q1, zt_bdS, if_pos hL]
    rw [hL] at q2
    exact ⟨s2, by rw [q2.1]; rfl, q2, (f0.tr g3).tr q3⟩
  · have l0 := mt.2.mp hL
    rw [if_neg hL]
    refine ⟨s, ?_, g2, f0.tr g3⟩
    by_cases hi : zt_in (s.1 163 31)
    · rw [zt_ckI hi, if_neg (by omega), g2.1]
    · exfalso
      apply hi
      rw [g2.1]
      have := fmL_len (w := w) (p := p) (4 * w 0).toNat 0 []
      simp only [List.length_nil] at this
      unfold zt_in
      omega
end FM
