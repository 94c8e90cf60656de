/-! A QUERY READ, the reference's side: codes and stack -/
theorem hW_10 : Int64.ofInt (hW 10) = 257011 := by decide +kernel
theorem hW_11 : Int64.ofInt (hW 11) = 3379448 := by decide +kernel
theorem hW_12 : Int64.ofInt (hW 12) = 10631 := by decide +kernel
theorem hW_13 : Int64.ofInt (hW 13) = 60268 := by decide +kernel
theorem hW_14 : Int64.ofInt (hW 14) = 389549 := by decide +kernel
theorem hW_15 : Int64.ofInt (hW 15) = 355412 := by decide +kernel
theorem hW_16 : Int64.ofInt (hW 16) = 123002136 := by decide +kernel
theorem hW_17 : Int64.ofInt (hW 17) = 235997851 := by decide +kernel
theorem hW_18 : Int64.ofInt (hW 18) = 8815221 := by decide +kernel
theorem hW_19 : Int64.ofInt (hW 19) = 6480849 := by decide +kernel
theorem hW_20 : Int64.ofInt (hW 20) = 10998790 := by decide +kernel
theorem hW_21 : Int64.ofInt (hW 21) = 1111 := by decide +kernel
theorem hW_22 : Int64.ofInt (hW 22) = 423 := by decide +kernel
def vE (v : Int) : Int := if v < 0 then -1 - v else 100 + v
def sgE (g : Int) : Int := if g = 60 then 20 else if g = 62 then 22 else 21
def encx (x : ST) : List Int := if x.1 = 1 then [23] else if x.1 = 2 then [24] else if x.1 = 3 then [25] else [sgE x.1, vE x.2.2, vE x.2.1]
def enc : List ST → List Int
  | [] => []
  | x :: T => encx x ++ enc T
def SK (τ : zt_S) : List Int → Prop
  | [] => True
  | x :: T => τ.1 182 (T.length : Int) = x ∧ SK τ T
def EK (τ : zt_S) : List Int → Prop
  | [] => True
  | x :: T => τ.1 181 (T.length : Int) = x ∧ EK τ T
def dp : List Int → Int
  | [] => 0
  | x :: T => (if x = 23 ∨ x = 1 then 1 else 0) + dp T
def sth (x : Int) : Int := if x = 25 then 1 else if x = 24 then 2 else if x = 23 then 3 else 0
/-- the reference's state while it reads -/
def CF (B : Int → Int) (N : Int) (τ : zt_S) (S C : List Int) (s : PS) : Prop := MP B N τ s ∧ s.1 = 0 ∧ N ≤ 200 ∧ τ.1 163 35 = (C.length : Int) ∧ EK τ C ∧ τ.1 163 36 = (S.length : Int) ∧ SK τ S ∧ τ.1 163 37 = dp S ∧ (C.length : Int) + (S.length : Int) ≤ s.2.2 ∧ (∀ x ∈ S, zt_in x)
def FQ3 (τ τ' : zt_S) : Prop := (∀ c j, c ≠ 181 → c ≠ 182 → (c ≠ 163 ∨ (j ≠ 11 ∧ j ≠ 12 ∧ j ≠ 13 ∧ j ≠ 14 ∧ j ≠ 16 ∧ j ≠ 17 ∧ j ≠ 35 ∧ j ≠ 36 ∧ j ≠ 37)) → τ'.1 c j = τ.1 c j) ∧ (∀ c j, (c ≠ 163 ∨ j ≠ 15) → τ'.2.1 c j = τ.2.1 c j) ∧ τ'.2.2 = τ.2.2
section QR
variable {B : Int → Int} {N : Int} {σ τ : zt_S} {s : PS} {S C : List Int} {f : Nat}
theorem FQ3.rf : FQ3 τ τ := ⟨fun _ _ _ _ _ => rfl, fun _ _ _ => rfl, rfl⟩
theorem FQ3.tr {a b c : zt_S} (h : FQ3 a b) (g : FQ3 b c) : FQ3 a c := ⟨fun x j h1 h2 h3 => by rw [g.1 x j h1 h2 h3, h.1 x j h1 h2 h3], fun x j hx => by rw [g.2.1 x j hx, h.2.1 x j hx], g.2.2.trans h.2.2⟩
theorem FT3.q {τ' : zt_S} (h : FT3 τ τ') : FQ3 τ τ' := ⟨fun c j _ _ h2 => h.1 c j (by omega), h.2.1, h.2.2⟩
theorem FQ3.up {c : Nat} {j v : Int} (h : c = 181 ∨ c = 182 ∨ (c = 163 ∧ (j = 35 ∨ j = 36 ∨ j = 37))) : FQ3 τ (zt_up τ c j v) := ⟨fun c' i h1 h2 h3 => up_o (by omega), fun _ _ _ => rfl, rfl⟩
theorem bd_bd {α β γ : Type} {r : Option (α × zt_S)} {k : α → zt_S → Option (β × zt_S)} {l : β → zt_S → Option γ} : zt_bd (zt_bd r k) l = zt_bd r (fun a s => zt_bd (k a s) l) := by
  cases r <;> rfl
theorem SK.ag {τ' : zt_S} : ∀ (S : List Int), (∀ j, 0 ≤ j → j < (S.length : Int) → τ'.1 182 j = τ.1 182 j) → SK τ S → SK τ' S
  | [], _, _ => trivial
  | x :: T, e, h => by
    have l : ((x :: T).length : Int) = (T.length : Int) + 1 := by simp
    exact ⟨by rw [e _ (by omega) (by omega)]; exact h.1, SK.ag T (fun j a b => e j a (by omega)) h.2⟩
theorem EK.ag {τ' : zt_S} : ∀ (S : List Int), (∀ j, 0 ≤ j → j < (S.length : Int) → τ'.1 181 j = τ.1 181 j) → EK τ S → EK τ' S
  | [], _, _ => trivial
  | x :: T, e, h => by
    have l : ((x :: T).length : Int) = (T.length : Int) + 1 := by simp
    exact ⟨by rw [e _ (by omega) (by omega)]; exact h.1, EK.ag T (fun j a b => e j a (by omega)) h.2⟩
theorem CF.ft {τ' : zt_S} {s' : PS} (h : CF B N τ S C s) (f : FT3 τ τ') (g : MP B N τ' s') (g0 : s'.1 = 0) (up : s.2.2 ≤ s'.2.2) : CF B N τ' S C s' := by
  obtain ⟨h1, h2, h3, h4, h5, h6, h7, h8, h9, h10⟩ := h
  exact ⟨g, g0, h3, by rw [f.1 _ _ (by omega)]; exact h4, EK.ag _ (fun j _ _ => f.1 _ _ (by omega)) h5, by rw [f.1 _ _ (by omega)]; exact h6, SK.ag _ (fun j _ _ => f.1 _ _ (by omega)) h7, by rw [f.1 _ _ (by omega)]; exact h8, by omega, h10⟩
/-- what the stack holds -/
theorem SK.mem {y : Int} : ∀ (S : List Int), SK τ S → ((∃ j, 0 ≤ j ∧ j < (S.length : Int) ∧ τ.1 182 j = y) ↔ y ∈ S)
  | [], _ => by
    constructor
    · rintro ⟨j, h0, h1, _⟩
      simp at h1
      omega
    · intro h; simp at h
  | x :: T, h => by
    have l : ((x :: T).length : Int) = (T.length : Int) + 1 := by simp
    have ih := SK.mem (y := y) T h.2
    rw [List.mem_cons, ← ih]
    constructor
    · rintro ⟨j, h0, h1, h2⟩
      by_cases e : j = (T.length : Int)
      · left; rw [← h2, e, h.1]
      · exact Or.inr ⟨j, h0, by omega, h2⟩
    · rintro (e | ⟨j, h0, h1, h2⟩)
      · exact ⟨(T.length : Int), by omega, by omega, by rw [h.1, e]⟩
      · exact ⟨j, h0, by omega, h2⟩
theorem SK.rg (hS : SK τ S) (hz : ∀ x ∈ S, zt_in x) {j : Int} (h0 : 0 ≤ j) (h1 : j < (S.length : Int)) : zt_in (τ.1 182 j) := hz _ ((SK.mem S hS).mp ⟨j, h0, h1, rfl⟩)
theorem em_inside_2 (hS : SK τ S) (hz : ∀ x ∈ S, zt_in x) (h36 : τ.1 163 36 = (S.length : Int)) (hl : (S.length : Int) ≤ 200) : ∀ (m f : Nat) (k : Int), k + m = (S.length : Int) → m < f → 0 ≤ k → ∃ a, F_M_isInside_2 f k τ = some (a, τ) ∧ (a = 0 ∨ a = 1) ∧ (a = 1 ↔ ∃ j, k ≤ j ∧ j < (S.length : Int) ∧ τ.1 182 j = 1)
  | m, 0, _, _, h1, _ => absurd h1 (Nat.not_lt_zero m)
  | 0, f + 1, k, h0, h1, h2 => by
    refine ⟨0, ?_, Or.inl rfl, ⟨fun z => absurd z (by decide), fun ⟨j, a, b, _⟩ => by omega⟩⟩
    rw [F_M_isInside_2, h36, zt_ckI ⟨by unfold zt_in; omega, by unfold zt_in; omega⟩, if_neg (by omega)]
  | m + 1, f + 1, k, h0, h1, h2 => by
    rw [F_M_isInside_2, h36, zt_ckI ⟨by unfold zt_in; omega, by unfold zt_in; omega⟩, if_pos (by omega), zt_ckI (by omega), zt_ckI (hS.rg hz h2 (by omega))]
    by_cases e : τ.1 182 k = 1
    · rw [if_pos e]
      exact ⟨1, rfl, Or.inr rfl, ⟨fun _ => ⟨k, Int.le_refl _, by omega, e⟩, fun _ => rfl⟩⟩
    · obtain ⟨a, g1, g2, g3⟩ := em_inside_2 hS hz h36 hl m f (k + 1) (by omega) (by omega) (by omega)
      rw [if_neg e]
      refine ⟨a, g1, g2, ⟨fun z => ?_, fun ⟨j, b0, b1, b2⟩ => ?_⟩⟩
      · obtain ⟨j, b0, b1, b2⟩ := g3.mp z
        exact ⟨j, by omega, b1, b2⟩
      · refine g3.mpr ⟨j, ?_, b1, b2⟩
        have : j ≠ k := fun z => e (z ▸ b2)
        omega
theorem CF.pos (h : CF B N τ S C s) : 0 ≤ s.2.2 ∧ s.2.2 ≤ N := h.1.2.1
theorem CF.len (h : CF B N τ S C s) : (S.length : Int) ≤ 200 ∧ (C.length : Int) ≤ 200 := by
  have := h.pos
  have := h.2.2.1
  have := h.2.2.2.2.2.2.2.2.1
  omega
theorem em_inside (h : CF B N τ S C s) : F_M_isInside τ = some (if (1 : Int) ∈ S then 1 else 0, τ) := by
  obtain ⟨a, g1, g2, g3⟩ := em_inside_2 h.2.2.2.2.2.2.1 h.2.2.2.2.2.2.2.2.2 h.2.2.2.2.2.1 h.len.1 S.length zt_N 0 (by omega) (zN (by have := h.len.1; omega)) (by omega)
  have m := SK.mem (y := 1) S h.2.2.2.2.2.2.1
  unfold F_M_isInside
  rw [g1]
  by_cases e : (1 : Int) ∈ S
  · rw [if_pos e, g3.mpr (m.mpr e)]
  · rw [if_neg e]
    rcases g2 with z | z
    · rw [z]
    · exact absurd (m.mp (g3.mp z)) e
theorem em_adds {v : Int} (h : 0 ≤ τ.1 163 35 ∧ τ.1 163 35 < 200) : F_M_adds v τ = some ((), zt_up (zt_up τ 181 (τ.1 163 35) v) 163 35 (τ.1 163 35 + 1)) := by
  unfold F_M_adds
  rw [zt_ckI (by omega), zt_letS, up_o (by omega), zt_letS]
theorem sth_v (x : Int) : F_M_strength x τ = (if zt_in x then some (sth x, τ) else none) := by
  unfold F_M_strength F_M_strength_31 sth
  by_cases h : zt_in x
  · rw [if_pos h, zt_ckI h]
    by_cases h1 : x = 25
    · rw [if_pos h1, if_pos h1]
    · rw [if_neg h1, if_neg h1, zt_ckI h]
      by_cases h2 : x = 24
      · rw [if_pos h2, if_pos h2]
      · rw [if_neg h2, if_neg h2, zt_ckI h]
        by_cases h3 : x = 23
        · rw [if_pos h3, if_pos h3]
        · rw [if_neg h3, if_neg h3]
  · rw [if_neg h]
    unfold zt_ck
    rw [if_neg h]
theorem em_strength {x : Int} (h : zt_in x) : F_M_strength x τ = some (sth x, τ) := by rw [sth_v, if_pos h]
/-- one is settled -/
theorem em_pop {x k : Int} (hx : x = 23 ∨ x = 24 ∨ x = 25) (hk : 1 ≤ k ∧ k ≤ sth x) (h : CF B N τ (x :: S) C s) : ∃ τ', (∀ f, F_M_settles_0 (f + 1) k τ = F_M_settles_0 f k τ') ∧ CF B N τ' S (x :: C) s ∧ FQ3 τ τ' := by
  have len := h.len
  obtain ⟨h1, h2, h3, h4, h5, h6, h7, h8, h9, h10⟩ := id h
  have p := h.pos
  have l : ((x :: S).length : Int) = (S.length : Int) + 1 := by simp
  have l2 : ((x :: C).length : Int) = (C.length : Int) + 1 := by simp
  have sx : 0 ≤ sth x ∧ sth x ≤ 3 := by unfold sth; repeat' split
                                        all_goals omega
  rw [l] at h6 h9
  obtain ⟨n, hn⟩ : ∃ n : Int, n = (S.length : Int) := ⟨_, rfl⟩
  obtain ⟨q, hq⟩ : ∃ q : Int, q = (C.length : Int) := ⟨_, rfl⟩
  have h71 := h7.1
  rw [← hn] at h71 h6 h9
  rw [← hq] at h4 h9
  obtain ⟨τ1, hτ1⟩ : ∃ t, t = zt_up (zt_up (zt_up τ 163 36 n) 181 q x) 163 35 (q + 1) := ⟨_, rfl⟩
  have a36 : τ1.1 163 36 = n := by rw [hτ1]; simp (disch := omega) only [up_o, up_s]
  have a82 : ∀ j, τ1.1 182 j = τ.1 182 j := fun j => by rw [hτ1]; simp (disch := omega) only [up_o]
  have a37 : τ1.1 163 37 = τ.1 163 37 := by rw [hτ1]; simp (disch := omega) only [up_o]
  have cf : ∀ τ2 : zt_S, (∀ c j, (c ≠ 163 ∨ j ≠ 37) → τ2.1 c j = τ1.1 c j) → τ2.2 = τ1.2 → τ2.1 163 37 = dp S → CF B N τ2 S (x :: C) s := by
    intro τ2 e1 e2 e3
    refine ⟨h1.l (fun j => ?_) (fun j j0 j1 => ?_) ?_, h2, h3, ?_, ⟨?_, EK.ag _ (fun j j0 j1 => ?_) h5⟩, ?_, SK.ag _ (fun j j0 j1 => ?_) h7.2, e3, by omega, fun z hz => h10 z (List.mem_cons_of_mem _ hz)⟩
    · rw [e1 _ _ (by omega), hτ1]; simp (disch := omega) only [up_o]
    · rw [e1 _ _ (by omega), hτ1]; simp (disch := omega) only [up_o]
    · rw [e2, hτ1]; rfl
    · rw [e1 _ _ (by omega), hτ1, up_s]; omega
    · rw [e1 _ _ (by omega), hτ1, ← hq]; simp (disch := omega) only [up_o, up_s]
    · rw [e1 _ _ (by omega), hτ1]; simp (disch := omega) only [up_o]
    · rw [e1 _ _ (by omega), a36]; exact hn
    · rw [e1 _ _ (by omega), a82]
  have key : ∀ f, F_M_settles_0 (f + 1) k τ = (if x = 23 then F_M_settles_0 f k (zt_up τ1 163 37 (dp (x :: S) - 1)) else F_M_settles_0 f k τ1) := fun f => by
    rw [F_M_settles_0, em_isGood h1, zt_bdS, if_pos h2, zt_ckI (by decide), if_neg (by decide), h6, zt_ckI (by unfold zt_in; omega), if_pos (by omega), show n + 1 - 1 = n by omega, zt_ckI (by omega), h71, em_strength (by unfold zt_in; omega), zt_bdS, zt_ckI ⟨by unfold zt_in; omega, by unfold zt_in; omega⟩, if_neg (by omega), zt_letS, h6, show n + 1 - 1 = n by omega, up_s, zt_ckI (by omega), up_o (Or.inl (by decide)), h71, em_adds (by rw [up_o (by omega), h4]; omega), zt_bdS, up_o (c := 163) (c' := 163) (j := 35) (b := 36) (by omega), h4, ← hτ1, a36, zt_ckI (by omega), a82, h71, zt_ckI (by unfold zt_in; omega), zt_letS, a37, h8]
  by_cases e : x = 23
  · refine ⟨_, fun f => by rw [key f, if_pos e], cf _ (fun c j hc => up_o (by omega)) rfl ?_, ?_⟩
    · rw [up_s]
      rw [dp, if_pos (Or.inl e)]
      omega
    · rw [hτ1]
      exact (((FQ3.up (by omega)).tr (FQ3.up (by omega))).tr (FQ3.up (by omega))).tr (FQ3.up (by omega))
  · refine ⟨_, fun f => by rw [key f, if_neg e], cf _ (fun c j hc => rfl) rfl ?_, ?_⟩
    · rw [a37, h8, dp, if_neg (by omega)]
      omega
    · rw [hτ1]
      exact ((FQ3.up (by omega)).tr (FQ3.up (by omega))).tr (FQ3.up (by omega))
theorem em_stop {k : Int} (hk : 1 ≤ k ∧ k ≤ 3) (h : CF B N τ S C s) (hs : S = [] ∨ ∃ x T, S = x :: T ∧ sth x < k) : F_M_settles_0 (f + 1) k τ = some ((), τ) := by
  have len := h.len
  obtain ⟨h1, h2, h3, h4, h5, h6, h7, h8, h9, h10⟩ := id h
  rw [F_M_settles_0, em_isGood h1, zt_bdS, if_pos h2, zt_ckI (by decide), if_neg (by decide), h6, zt_ckI (by unfold zt_in; omega)]
  rcases hs with e | ⟨x, T, e, hx⟩
  · subst e
    rw [if_neg (by simp)]
    rfl
  · subst e
    have l : ((x :: T).length : Int) = (T.length : Int) + 1 := by simp
    have xi := h10 x (List.mem_cons_self ..)
    have sx : 0 ≤ sth x ∧ sth x ≤ 3 := by unfold sth; repeat' split
                                          all_goals omega
    rw [l, if_pos (by omega), show (T.length : Int) + 1 - 1 = (T.length : Int) by omega, zt_ckI (by omega), h7.1, em_strength xi, zt_bdS, zt_ckI ⟨by unfold zt_in; omega, by unfold zt_in; omega⟩, if_pos hx]
    rfl
theorem em_no {k : Int} (h : MP B N τ s) (h0 : ¬ s.1 = 0) : F_M_settles k τ = some ((), τ) := by
  obtain ⟨n, hn⟩ := zN1
  unfold F_M_settles
  rw [hn, F_M_settles_0, em_isGood h, zt_bdS, if_neg h0, zt_ckI (by decide), if_pos rfl]
  rfl
end QR
