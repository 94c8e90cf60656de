/-! THE LAW WRITES its text -/
/-- the text so far -/
def TW (T : zt_T) (l : List Int) : Prop := (2 ≤ T.1 ∧ T.1 < 100000) ∧ T.2.1 1 = 600 ∧ AT (T.2.2 1) (T.2.2 0 1) 0 l
/-- one more -/
def wc (T : zt_T) (c : Int) : zt_T := zt_tu (zt_tu T 1 (T.2.2 0 1) c) 0 1 (T.2.2 0 1 + 1)
/-- the law's rows stay as they are, but for the text -/
def TF (T T' : zt_T) : Prop := T'.1 = T.1 ∧ T'.2.1 = T.2.1
theorem TF.rf {T : zt_T} : TF T T := ⟨rfl, rfl⟩
theorem TF.tr {a b c : zt_T} (h : TF a b) (g : TF b c) : TF a c := ⟨g.1.trans h.1, g.2.trans h.2⟩
section TZ
variable {T : zt_T} {l : List Int} {σ : zt_S} {c v : Int}
theorem tu_s {k : Nat} {j v : Int} : (zt_tu T k j v).2.2 k j = v := if_pos ⟨rfl, rfl⟩
theorem tu_1 {k : Nat} {j v : Int} : (zt_tu T k j v).1 = T.1 := rfl
theorem tu_o {k i : Nat} {j j' v : Int} (h : i ≠ k ∨ j' ≠ j) : (zt_tu T k j v).2.2 i j' = T.2.2 i j' := if_neg (fun z => h.elim (fun x => x z.1) (fun x => x z.2))
theorem AT_snoc {B B' : Int → Int} {N : Int} : ∀ (l : List Int) (i : Int), AT B N i l → 0 ≤ i → (∀ j, 0 ≤ j → j < N → B' j = B j) → B' N = c → AT B' (N + 1) i (l ++ [c])
  | [], i, h, h0, hb, hc => by
    have h : i = N := h
    refine ⟨by rw [h]; exact hc, ?_⟩
    show i + 1 = N + 1
    rw [h]
  | d :: l, i, h, h0, hb, hc => by
    have n := AT.len _ _ h
    rw [List.length_cons] at n
    exact ⟨by rw [hb i h0 (by omega)]; exact h.1, AT_snoc l (i + 1) h.2 (by omega) hb hc⟩
theorem TW.sz (h : TW T l) : T.2.2 0 1 = l.length := by
  have := AT.len _ _ h.2.2
  omega
theorem TW.sn (h : TW T l) : TW (wc T c) (l ++ [c]) ∧ TF T (wc T c) := by
  refine ⟨⟨h.1, h.2.1, ?_⟩, rfl, rfl⟩
  have e : (wc T c).2.2 0 1 = T.2.2 0 1 + 1 := tu_s
  rw [e]
  refine AT_snoc l 0 h.2.2 (Int.le_refl 0) (fun j h0 h1 => ?_) ?_
  · show (zt_tu (zt_tu T 1 (T.2.2 0 1) c) 0 1 (T.2.2 0 1 + 1)).2.2 1 j = _
    rw [tu_o (Or.inl (by decide)), tu_o (Or.inr (by omega))]
  · show (zt_tu (zt_tu T 1 (T.2.2 0 1) c) 0 1 (T.2.2 0 1 + 1)).2.2 1 (T.2.2 0 1) = _
    rw [tu_o (Or.inl (by decide)), tu_s]
theorem wc_e {T : zt_T} {c : Int} {β : Type} {K : zt_T → Option β} (h : TW T l) (hl : l.length < 600) : (zt_ck (0 < T.1) <| zt_ck (0 < T.1) <| zt_ck (zt_tk T 1 (T.2.2 0 1)) <| zt_let (zt_tu T 1 (T.2.2 0 1) c) fun t1 => zt_ck (0 < t1.1) <| zt_ck (0 < t1.1) <| zt_let (zt_tu t1 0 1 ((t1.2.2 0 1) + (1 : Int))) fun t2 => K t2) = K (wc T c) := by
  have s := h.sz
  have a := h.1
  have b := h.2.1
  rw [zt_ckI (by omega), zt_ckI (by omega), zt_ckI ⟨⟨by omega, by omega, by omega⟩, by omega, by omega, by omega⟩, zt_letS, tu_1, zt_ckI (by omega), zt_ckI (by omega), zt_letS, tu_o (Or.inl (by decide))]
  rfl
theorem p_writes_2 {w : Nat} (hw : zt_sl w ≤ 10) : ∀ (cs : List Int) (n : Nat) (v2 : Int) (T : zt_T) (l : List Int), TW T l → l.length + cs.length ≤ 600 → 0 ≤ v2 → v2 + cs.length = zt_sl w → mtL w v2 cs = true → cs.length < n → ∃ T', F_P_writes_2 w n v2 σ T = some ((), σ, T') ∧ TW T' (l ++ cs) ∧ TF T T'
  | cs, 0, _, _, _, _, _, _, _, _, h => absurd h (Nat.not_lt_zero _)
  | [], n + 1, v2, T, l, h, hl, h0, h1, hm, hn => by
    rw [List.length_nil] at h1
    rw [F_P_writes_2, zt_ckI ⟨by unfold zt_in; omega, by unfold zt_in; omega⟩, if_neg (by omega), List.append_nil]
    exact ⟨T, rfl, h, TF.rf⟩
  | c :: cs, n + 1, v2, T, l, h, hl, h0, h1, hm, hn => by
    rw [List.length_cons] at h1 hn hl
    rw [mtL, Bool.and_eq_true] at hm
    have e := of_decide_eq_true hm.1
    obtain ⟨g1, g2⟩ := h.sn (c := c)
    obtain ⟨T', q1, q2, q3⟩ := p_writes_2 hw cs n (v2 + 1) (wc T c) (l ++ [c]) g1 (by rw [List.length_append, List.length_singleton]; omega) (by omega) (by omega) hm.2 (by omega)
    have s := h.sz
    have a := h.1
    have b := h.2.1
    refine ⟨T', ?_, by rw [List.append_assoc] at q2; exact q2, g2.tr q3⟩
    rw [F_P_writes_2, zt_ckI ⟨by unfold zt_in; omega, by unfold zt_in; omega⟩, if_pos (by omega), zt_ckI (by omega), zt_ckI (by omega), zt_ckI ⟨h0, by omega⟩, zt_ckI ⟨⟨by omega, by omega, by omega⟩, by omega, by omega, by omega⟩, ← e, zt_letS, tu_1, zt_ckI (by omega), zt_ckI (by omega), zt_letS, tu_o (Or.inl (by decide))]
    exact q1
theorem p_writes {k : Nat} {cs : List Int} (hw : zt_sl k ≤ 10) (h : TW T l) (hs : wsL k cs = true) (hl : l.length + cs.length ≤ 600) (hc : cs.length ≤ 10) : ∃ T', F_P_writes k σ T = some ((), σ, T') ∧ TW T' (l ++ cs) ∧ TF T T' := by
  unfold wsL at hs
  rw [Bool.and_eq_true] at hs
  have e := of_decide_eq_true hs.1
  unfold F_P_writes
  exact p_writes_2 hw cs zt_N 0 T l h hl (Int.le_refl 0) (by omega) hs.2 (zN (by omega))
theorem p_24 {one : Int} {n : Nat} (h : TW T l) (hl : l.length < 600) (hv : 0 ≤ v ∧ v < 100000) (ho : 0 < one ∧ one ≤ 10000) : F_P_spaced_24 (n + 1) v one σ T = F_P_spaced_24 n v (one / 10) σ (wc T (48 + v / one % 10)) := by
  have d0 : 0 ≤ v / one := Int.ediv_nonneg hv.1 (by omega)
  have d1 : v / one ≤ v := Int.ediv_le_self _ hv.1
  have s := h.sz
  have a := h.1
  have b := h.2.1
  rw [F_P_spaced_24, zt_ckI (by unfold zt_in; omega), if_pos ho.1, zt_ckI (by omega), zt_ckI (by omega), zt_ckI ⟨⟨by omega, by omega⟩, by omega, by omega⟩, zt_ckI ⟨by omega, by omega⟩, zt_ckI ⟨⟨by omega, by omega, by omega⟩, by omega, by omega, by omega⟩, zt_letS, tu_1, zt_ckI (by omega), zt_ckI (by omega), zt_letS, tu_o (Or.inl (by decide)), zt_ckI ⟨by omega, by omega⟩]
  rfl
theorem p_24e {n : Nat} : F_P_spaced_24 (n + 1) v 0 σ T = some ((), σ, T) := by
  rw [F_P_spaced_24, zt_ckI (by decide), if_neg (by decide)]
theorem p_8 {one : Int} {n : Nat} (hv : 0 ≤ v ∧ v < 100000) (ho : 0 < one ∧ one ≤ 10000) : F_P_spaced_8 (n + 1) v one σ T = if 9 < v / one then F_P_spaced_8 n v (one * 10) σ T else F_P_spaced_24 zt_N v one σ T := by
  have d0 : 0 ≤ v / one := Int.ediv_nonneg hv.1 (by omega)
  have d1 : v / one ≤ v := Int.ediv_le_self _ hv.1
  rw [F_P_spaced_8, zt_ckI ⟨⟨by omega, by omega⟩, by omega, by omega⟩, zt_ckI (by unfold zt_in; omega)]
theorem zN7 : ∃ n, zt_N = n + 1 + 1 + 1 + 1 + 1 + 1 + 1 := ⟨zt_N - 7, by have := zN (m := 7) (by omega); omega⟩
set_option maxRecDepth 20000 in
theorem ws_11 : wsL (q_big + 1 + 11) [32] = true := by decide +kernel
theorem sl_11 : zt_sl (q_big + 1 + 11) ≤ 10 := by decide +kernel
/-- digits one behind the other -/
def wcs (T : zt_T) : List Int → zt_T
  | [] => T
  | c :: cs => wcs (wc T c) cs
theorem TW.cs : ∀ (cs : List Int) (T : zt_T) (l : List Int), TW T l → TW (wcs T cs) (l ++ cs) ∧ TF T (wcs T cs)
  | [], T, l, h => by rw [List.append_nil]; exact ⟨h, TF.rf⟩
  | c :: cs, T, l, h => by
    obtain ⟨g1, g2⟩ := h.sn (c := c)
    obtain ⟨q1, q2⟩ := TW.cs cs (wc T c) (l ++ [c]) g1
    rw [List.append_assoc] at q1
    exact ⟨q1, g2.tr q2⟩
theorem p_dg {n : Nat} (hn : zt_N = n + 1 + 1 + 1 + 1 + 1 + 1 + 1) (h : TW T l) (hl : l.length + 5 ≤ 600) (hv : 0 ≤ v ∧ v < 100000) : F_P_spaced_8 zt_N v 1 σ T = some ((), σ, wcs T (dgt v)) := by
  have st : ∀ {one : Int} {m : Nat} {T : zt_T} {l' : List Int}, TW T l' → l'.length < 600 → 0 < one ∧ one ≤ 10000 → F_P_spaced_24 (m + 1) v one σ T = F_P_spaced_24 m v (one / 10) σ (wc T (48 + v / one % 10)) := fun h1 h2 h3 => p_24 h1 h2 hv h3
  have a1 := fun c => (h.sn (c := c)).1
  have a2 := fun c d => ((a1 c).sn (c := d)).1
  have a3 := fun c d e => ((a2 c d).sn (c := e)).1
  have a4 := fun c d e f => ((a3 c d e).sn (c := f)).1
  have l1 : ∀ c, (l ++ [c]).length = l.length + 1 := fun c => by rw [List.length_append, List.length_singleton]
  unfold dgt
  rw [hn, p_8 hv (by omega), Int.ediv_one]
  by_cases h1 : v < 10
  · rw [if_neg (by omega), if_pos h1, hn, st h (by omega) (by omega), show (1 : Int) / 10 = 0 from rfl, p_24e, Int.ediv_one]
    rfl
  · rw [if_pos (by omega), if_neg h1, show (1 : Int) * 10 = 10 from rfl, p_8 hv (by omega)]
    by_cases h2 : v < 100
    · rw [if_neg (by omega), if_pos h2, hn, st h (by omega) (by omega), show (10 : Int) / 10 = 1 from rfl, st (a1 _) (by simp only [List.length_append, List.length_cons, List.length_nil]; omega) (by omega), show (1 : Int) / 10 = 0 from rfl, p_24e, Int.ediv_one]
      rfl
    · rw [if_pos (by omega), if_neg h2, show (10 : Int) * 10 = 100 from rfl, p_8 hv (by omega)]
      by_cases h3 : v < 1000
      · rw [if_neg (by omega), if_pos h3, hn, st h (by omega) (by omega), show (100 : Int) / 10 = 10 from rfl, st (a1 _) (by simp only [List.length_append, List.length_cons, List.length_nil]; omega) (by omega), show (10 : Int) / 10 = 1 from rfl, st (a2 _ _) (by simp only [List.length_append, List.length_cons, List.length_nil]; omega) (by omega), show (1 : Int) / 10 = 0 from rfl, p_24e, Int.ediv_one]
        rfl
      · rw [if_pos (by omega), if_neg h3, show (100 : Int) * 10 = 1000 from rfl, p_8 hv (by omega)]
        by_cases h4 : v < 10000
        · rw [if_neg (by omega), if_pos h4, hn, st h (by omega) (by omega), show (1000 : Int) / 10 = 100 from rfl, st (a1 _) (by simp only [List.length_append, List.length_cons, List.length_nil]; omega) (by omega), show (100 : Int) / 10 = 10 from rfl, st (a2 _ _) (by simp only [List.length_append, List.length_cons, List.length_nil]; omega) (by omega), show (10 : Int) / 10 = 1 from rfl, st (a3 _ _ _) (by simp only [List.length_append, List.length_cons, List.length_nil]; omega) (by omega), show (1 : Int) / 10 = 0 from rfl, p_24e, Int.ediv_one]
          rfl
        · rw [if_pos (by omega), if_neg h4, show (1000 : Int) * 10 = 10000 from rfl, p_8 hv (by omega), if_neg (by omega), hn, st h (by omega) (by omega), show (10000 : Int) / 10 = 1000 from rfl, st (a1 _) (by simp only [List.length_append, List.length_cons, List.length_nil]; omega) (by omega), show (1000 : Int) / 10 = 100 from rfl, st (a2 _ _) (by simp only [List.length_append, List.length_cons, List.length_nil]; omega) (by omega), show (100 : Int) / 10 = 10 from rfl, st (a3 _ _ _) (by simp only [List.length_append, List.length_cons, List.length_nil]; omega) (by omega), show (10 : Int) / 10 = 1 from rfl, st (a4 _ _ _ _) (by simp only [List.length_append, List.length_cons, List.length_nil]; omega) (by omega), show (1 : Int) / 10 = 0 from rfl, p_24e, Int.ediv_one]
          rfl
/-- a space and a number -/
theorem p_spaced (h : TW T l) (hl : l.length + 6 ≤ 600) (hv : 0 ≤ v ∧ v < 100000) : ∃ T', F_P_spaced v σ T = some ((), σ, T') ∧ TW T' (l ++ 32 :: dgt v) ∧ TF T T' := by
  obtain ⟨n, hn⟩ := zN7
  obtain ⟨T1, q1, q2, q3⟩ := p_writes (σ := σ) (k := q_big + 1 + 11) (cs := [32]) sl_11 h ws_11 (by rw [List.length_singleton]; omega) (by decide)
  obtain ⟨g1, g2⟩ := q2.cs (dgt v)
  rw [List.append_assoc] at g1
  have a := h.1
  refine ⟨_, ?_, g1, q3.tr g2⟩
  unfold F_P_spaced
  rw [zt_ckI (by omega), q1, zt_btI, p_dg hn q2 (by rw [List.length_append, List.length_singleton]; omega) hv]
end TZ
